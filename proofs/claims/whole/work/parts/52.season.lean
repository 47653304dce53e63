/-! a season -/
/-- what a season may change: the Froth object, and the formula's rows of work -/
def Sp (M M' : Mem) (o g : Nat) : Prop := (∀ k, (k < o ∨ o + 5 < k) → k ≠ g + 2 → k ≠ g + 3 → ∀ j, ri M' k j = ri M k j) ∧ ∀ k j, rl M' k j = rl M k j
theorem Sp.rf {M : Mem} {o g : Nat} : Sp M M o g := ⟨fun _ _ _ _ _ => rfl, fun _ _ => rfl⟩
theorem Sp.trans {M M' M'' : Mem} {o g : Nat} (h : Sp M M' o g) (h2 : Sp M' M'' o g) : Sp M M'' o g := ⟨fun k a b c j => (h2.1 k a b c j).trans (h.1 k a b c j), fun k j => (h2.2 k j).trans (h.2 k j)⟩
theorem Sm.sp {M M' : Mem} {o : Nat} (g : Nat) (h : Sm M M' o) : Sp M M' o g := ⟨fun k a _ _ j => h.1 k a j, h.2⟩
theorem Sg.sp {M M' : Mem} {g : Nat} (o : Nat) (h : Sg M M' g) : Sp M M' o g := ⟨fun k _ b c j => h.1 k b c j, h.2⟩
theorem Fm.keepP {M M' : Mem} {o g : Nat} {F : List Int32} (ho : kd o = (0, 2)) (hg : kd g = (0, 1)) (h : Fm M g F) (hs : Sp M M' o g) : Fm M' g F :=
  ⟨h.1, (hs.1 g (apart_og o ho g hg).2.1 (by omega) (by omega) 3).trans h.2.1, fun i hi => (hs.1 (g + 1) (apart_og o ho g hg).2.2 (by omega) (by omega) i).trans (h.2.2.1 i hi), h.2.2.2⟩
def gvS (S : Sh) (F : List Int32) (p : Nat) : Int32 := if thI S (nI p) = true then grS S F p else 0
theorem season_1 {d o g : Nat} (ho : kd o = (0, 2)) (hg : kd g = (0, 1)) {K : Mem → Prop} {S : Sh} {F : List Int32} {x2 : Int32} (M0 : Mem) (hK : ∀ M', Sp M0 M' o g → Fr M' o S → Fm M' g F → (∀ p, p < sn S → ri M' (o + 5) p = gvS S F p) → RV (d + 4) μX2_passSeason 42 [(0, .ref o), (1, .ref g), (2, .int x2), (3, .int 0)] [] M' K) :
    ∀ (f p : Nat) (M : Mem), f + p = sn S → Sp M0 M o g → Fr M o S → Fm M g F → (∀ q, q < p → ri M (o + 5) q = gvS S F q) → RV (d + 4) μX2_passSeason 2 [(0, .ref o), (1, .ref g), (2, .int x2), (3, .int (nI p))] [] M K := by
  intro f
  induction f with
  | zero =>
    intro p M hp hs hF hm hq
    have h8 : sn S ≤ 8 := hF.2.2.1
    have hp : p = sn S := by omega
    subst hp
    refine sg_X2_passSeason_2 ho hg ?_
    rw [hF.1.1, if_pos (by rw [nI_leI (by omega) (by omega)]; omega)]
    exact hK M hs hF hm hq
  | succ f ih =>
    intro p M hp hs hF hm hq
    have h8 : sn S ≤ 8 := hF.2.2.1
    have hap := (apart_og o ho g hg).1 5 (by decide)
    have e1 : nx (nI p) = p := nI_clamp (by omega)
    refine sg_X2_passSeason_2 ho hg ?_
    rw [hF.1.1, if_neg (by rw [nI_leI (by omega) (by omega)]; omega)]
    refine c_isThere ho hF.1 hF.2.2 ?_
    have wr : ∀ (M1 M3 : Mem) (v : Int32), Sg M M1 g → v = gvS S F p → M3 = wi M1 (o + 5) (nx (nI p)) v → RV (d + 4) μX2_passSeason 2 [(0, .ref o), (1, .ref g), (2, .int x2), (3, .int (nI p + 1))] [] M3 K := by
      intro M1 M3 v hs1 hv h3
      rw [e1] at h3
      rw [nI_1]
      have r : ∀ k j, ri M3 k j = if k = o + 5 ∧ j = p then v else ri M1 k j := by intro k j; rw [h3, ri_wi]
      have sm3 : Sm M1 M3 o := by rw [h3]; exact Sm.wi (by omega) (by omega)
      refine ih (p + 1) M3 (by omega) ((hs.trans (hs1.sp o)).trans (sm3.sp g)) ((hF.keepG ho hg hs1).keepK (fun k hk j => by rw [r, if_neg (fun z => by omega)])) ((hm.keep hs1).keepO ho hg sm3) (fun q hqp => ?_)
      rw [r]
      by_cases hz : q = p
      · rw [if_pos ⟨rfl, hz⟩, hz]; exact hv
      · rw [if_neg (fun z => hz z.2), hs1.1 (o + 5) hap.1 hap.2 q]; exact hq q (by omega)
    cases ht : thI S (nI p) with
    | false =>
      rw [if_pos (by decide)]
      exact ⟨n_in (by omega) (by decide), fun M3 h3 => wr M M3 0 Sg.rf (by unfold gvS; rw [ht]; rfl) h3⟩
    | true =>
      rw [if_neg (by decide)]
      refine c_growthOf ho hg (by omega) hF hm (fun M1 hs1 => ⟨n_in (by omega) (by decide), fun M3 h3 => wr M1 M3 _ hs1 (by unfold gvS; rw [ht, if_pos rfl]) h3⟩)
/-- a size stays within 0 .. 999 -/
def clS (x : Int32) : Int32 := if 0 < (if x < 999 then x else 999) then (if x < 999 then x else 999) else 0
theorem clS_nat (x : Int32) : ∃ n, n ≤ 999 ∧ clS x = nI n := by
  unfold clS
  by_cases c1 : x < 999
  · rw [if_pos c1]
    by_cases c2 : 0 < x
    · rw [if_pos c2]
      obtain ⟨n, hn, rfl⟩ := n_nat (Int32.le_of_lt c2) (show x < nI 999 from c1) (by decide)
      exact ⟨n, by omega, rfl⟩
    · rw [if_neg c2]; exact ⟨0, by omega, rfl⟩
  · rw [if_neg c1, if_pos (by decide)]; exact ⟨999, by omega, rfl⟩
def setZ (S : Sh) (z : Nat → Nat) : Sh := (sn S, sb S, sy S, sd S, sc S, z)
def szU (S : Sh) (gv : Nat → Int32) (i : Nat) : Nat → Nat := fun j => if j < i then nx (clS (nI (sz S j) + gv j)) else sz S j
theorem szU_le {S : Sh} (hS : SOk S) (gv : Nat → Int32) (i j : Nat) : szU S gv i j ≤ 999 := by
  unfold szU
  split
  · obtain ⟨n, hn, e⟩ := clS_nat (nI (sz S j) + gv j)
    rw [e, show nx (nI n) = n from nI_clamp (by omega)]; exact hn
  · exact hS.2.2.2.2.2 j
theorem SOk.setZ {S : Sh} (hS : SOk S) {z : Nat → Nat} (hz : ∀ j, z j ≤ 999) : SOk (setZ S z) := ⟨hS.1, hS.2.1, hS.2.2.1, hS.2.2.2.1, hS.2.2.2.2.1, hz⟩
theorem season_2 {d o g : Nat} (ho : kd o = (0, 2)) (hg : kd g = (0, 1)) {K : Mem → Prop} {S : Sh} {F : List Int32} {x2 : Int32} {gv : Nat → Int32} (hS : SOk S) (M0 : Mem) (hK : ∀ M', Sp M0 M' o g → Fr M' o (setZ S (szU S gv (sn S))) → Fm M' g F → RV (d + 4) μX2_passSeason 87 [(0, .ref o), (1, .ref g), (2, .int x2), (3, .int 0)] [] M' K) :
    ∀ (f p : Nat) (M : Mem), f + p = sn S → Sp M0 M o g → Fr M o (setZ S (szU S gv p)) → Fm M g F → (∀ q, q < sn S → ri M (o + 5) q = gv q) → RV (d + 4) μX2_passSeason 42 [(0, .ref o), (1, .ref g), (2, .int x2), (3, .int (nI p))] [] M K := by
  have h8 : sn S ≤ 8 := hS.1
  intro f
  induction f with
  | zero =>
    intro p M hp hs hF hm hq
    have hp : p = sn S := by omega
    subst hp
    refine sg_X2_passSeason_42 ho hg ?_
    rw [hF.1.1, if_pos (by rw [nI_leI (by show sn S < _; omega) (by omega)]; exact Nat.le_refl _)]
    exact hK M hs hF hm
  | succ f ih =>
    intro p M hp hs hF hm hq
    have e1 : nx (nI p) = p := nI_clamp (by omega)
    refine sg_X2_passSeason_42 ho hg ?_
    rw [hF.1.1, if_neg (by rw [nI_leI (by show sn S < _; omega) (by omega)]; show ¬ sn S ≤ p; omega)]
    have hin : vp_in (nI p) 8 := n_in (by omega) (by decide)
    refine ⟨hin, hin, hin, ?_⟩
    intro M1 h1
    have ez : ri M (o + 1) p = nI (sz S p) := by
      rw [hF.1.2.2.2.2.2.1 p (by omega)]
      show nI (szU S gv p p) = _
      unfold szU; rw [if_neg (by omega)]
    rw [e1, ez, hq p (by omega)] at h1
    have h1' : M1 = wi M (o + 1) p (clS (nI (sz S p) + gv p)) := h1
    obtain ⟨n, hn, en⟩ := clS_nat (nI (sz S p) + gv p)
    have r : ∀ k j, ri M1 k j = if k = o + 1 ∧ j = p then clS (nI (sz S p) + gv p) else ri M k j := by intro k j; rw [h1', ri_wi]
    have sm1 : Sm M M1 o := by rw [h1']; exact Sm.wi (by omega) (by omega)
    have rk : ∀ k, k ≠ o + 1 → ∀ j, ri M1 k j = ri M k j := fun k hk j => by rw [r, if_neg (fun z => hk z.1)]
    rw [nI_1]
    refine ih (p + 1) M1 (by omega) (hs.trans (sm1.sp g)) ⟨?_, ⟨fun q h => (rk _ (by omega) q).trans (hF.2.1.1 q h), fun q h => (rk _ (by omega) q).trans (hF.2.1.2 q h)⟩, hS.setZ (szU_le hS gv _)⟩ (hm.keepO ho hg sm1) (fun q hq' => (rk _ (by omega) q).trans (hq q hq'))
    refine ⟨(rk o (by omega) 0).trans hF.1.1, (rk o (by omega) 1).trans hF.1.2.1, (rk o (by omega) 2).trans hF.1.2.2.1, (rk o (by omega) 3).trans hF.1.2.2.2.1, (rk o (by omega) 4).trans hF.1.2.2.2.2.1, fun j hj => ?_, fun i hi => (rk _ (by omega) i).trans (hF.1.2.2.2.2.2.2 i hi)⟩
    rw [r]
    show _ = nI (szU S gv (p + 1) j)
    by_cases hz : j = p
    · subst hz
      rw [if_pos ⟨rfl, rfl⟩]
      unfold szU
      rw [if_pos (by omega), en, show nx (nI n) = n from nI_clamp (by omega)]
    · rw [if_neg (fun z => hz z.2), hF.1.2.2.2.2.2.1 j hj]
      show nI (szU S gv p j) = _
      unfold szU
      by_cases hlt : j < p
      · rw [if_pos hlt, if_pos (by omega)]
      · rw [if_neg hlt, if_neg (by omega)]
/-- those of no size: from the (n - r)-th on -/
def wlsS (n : Nat) (S : Sh) : Nat → Sh
  | 0 => S
  | r + 1 => wlsS n (if thI S (nI (n - (r + 1))) = true ∧ sz S (n - (r + 1)) = 0 then withS S (n - (r + 1)) else S) r
def setD (S : Sh) (v : Nat) : Sh := (sn S, sb S, sy S, v, sc S, sz S)
def setY (S : Sh) (y : Int32) : Sh := (sn S, sb S, y, sd S, sc S, sz S)
/-- the straw: the seed's next, and perhaps a flip -/
def strS (S : Sh) (straw : Nat) : Sh :=
  let v := (sd S * 137 + 71) % 1000
  let S1 := setD S v
  if v % 100 < straw ∧ 0 < (sc S).length then
    let m := (sc S)[v % (sc S).length]?.getD 0
    if fe S1 (low8 m) (low8 (m &&& (m - 1))) ≠ 0 then flipS S1 (low8 m) (low8 (m &&& (m - 1))) else S1
  else S1
def seaS (S : Sh) (F : List Int32) (straw : Nat) : Sh :=
  let S1 := wlsS (sn S) (setZ S (szU S (gvS S F) (sn S))) (sn S)
  let S2 := strS S1 straw
  setY S2 (sy S2 + 1)
/-- what a kind of shires must have, so that seasons and acts stay among them -/
def Clo (G : Sh → Prop) : Prop := (∀ S, G S → SOk S) ∧ (∀ S p, G S → p < sn S → dgm (sc S) p = 3 → 3 < pc8 (sb S) → T3 (nbm (sc S) p)) ∧ (∀ S a b, G S → a < sn S → b < sn S → fe S a b ≠ 0 → G (flipS S a b)) ∧ (∀ S p, G S → p < sn S → dgm (sc S) p = 3 → 3 < pc8 (sb S) → thI S (nI p) = true → G (vanS S p)) ∧ (∀ S z, G S → (∀ j, z j ≤ 999) → (∀ j, thI S (nI j) = false → z j = sz S j) → G (setZ S z)) ∧ (∀ S v, G S → v < 1000 → G (setD S v)) ∧ ∀ S y, G S → G (setY S y)
theorem sn_flipS (S : Sh) (a b : Nat) : sn (flipS S a b) = sn S := rfl
theorem sn_shedS (S : Sh) (p : Nat) : ∀ r, sn (shedS S p r) = sn S := by
  intro r
  induction r with
  | zero => rfl
  | succ r ih => unfold shedS; split
                 · rfl
                 · exact ih
theorem sn_withS (S : Sh) (p : Nat) : sn (withS S p) = sn S := by unfold withS; split
                                                                  · rfl
                                                                  · exact sn_shedS S p _
theorem G_shedS {G : Sh → Prop} (hG : Clo G) {S : Sh} {p : Nat} (h : G S) (hp : p < sn S) : ∀ r, r ≤ sn S → G (shedS S p r) := by
  intro r
  induction r with
  | zero => intro _; exact h
  | succ r ih =>
    intro hr
    unfold shedS
    split
    · rename_i hne; exact hG.2.2.1 S p _ h hp (by omega) hne
    · exact ih (by omega)
theorem G_withS {G : Sh → Prop} (hG : Clo G) {S : Sh} {p : Nat} (h : G S) (hp : p < sn S) (ht : thI S (nI p) = true) : G (withS S p) := by
  unfold withS
  split
  · rename_i hc; exact hG.2.2.2.1 S p h hp hc.1 hc.2 ht
  · exact G_shedS hG h hp _ (Nat.le_refl _)
theorem season_3 {d o g : Nat} (ho : kd o = (0, 2)) (hg : kd g = (0, 1)) {K : Mem → Prop} {G : Sh → Prop} (hG : Clo G) {n : Nat} {F : List Int32} {x2 : Int32} {SE : Sh} (M0 : Mem) (hK : ∀ M', Sp M0 M' o g → Fr M' o SE → G SE → Fm M' g F → RV (d + 4) μX2_passSeason 87 [(0, .ref o), (1, .ref g), (2, .int x2), (3, .int (nI n))] [] M' K) :
    ∀ (r : Nat) (S : Sh) (M : Mem), r ≤ n → sn S = n → n ≤ 8 → wlsS n S r = SE → Sp M0 M o g → Fr M o S → G S → Fm M g F → RV (d + 4) μX2_passSeason 87 [(0, .ref o), (1, .ref g), (2, .int x2), (3, .int (nI (n - r)))] [] M K := by
  intro r
  induction r with
  | zero =>
    intro S M _ hn _ he hs hF hGS hm
    have he : S = SE := he
    subst he
    exact hK M hs hF hGS hm
  | succ r ih =>
    intro S M hr hn h8 he hs hF hGS hm
    refine sg_X2_passSeason_87 ho hg ?_
    have hq : n - (r + 1) < n := by omega
    have e1 : nx (nI (n - (r + 1))) = n - (r + 1) := nI_clamp (by omega)
    have e2 : nI (n - (r + 1)) + 1 = nI (n - r) := by rw [nI_1]; congr 1; omega
    rw [hF.1.1, hn, if_neg (by rw [nI_leI (by omega) (by omega)]; omega), e2]
    refine c_isThere ho hF.1 hF.2.2 ?_
    have he' : wlsS n (if thI S (nI (n - (r + 1))) = true ∧ sz S (n - (r + 1)) = 0 then withS S (n - (r + 1)) else S) r = SE := he
    cases ht : thI S (nI (n - (r + 1))) with
    | false =>
      rw [if_pos (by decide)]
      rw [if_neg (fun z => by rw [ht] at z; exact absurd z.1 (by decide))] at he'
      exact ih S M (by omega) hn h8 he' hs hF hGS hm
    | true =>
      rw [if_neg (by decide)]
      refine ⟨n_in (by omega) (by decide), ?_⟩
      have hz9 := hF.2.2.2.2.2.2.2 (n - (r + 1))
      rw [e1, hF.1.2.2.2.2.2.1 _ (by omega)]
      by_cases hz : sz S (n - (r + 1)) = 0
      · rw [if_pos (by rw [hz]; rfl)]
        rw [if_pos ⟨ht, hz⟩] at he'
        refine c_wither ho (by omega) hF (fun a b => hG.2.1 S _ hGS (by omega) a b) (fun M' sm' f' => ?_)
        exact ih _ M' (by omega) (by rw [sn_withS]; exact hn) h8 he' (hs.trans (sm'.sp g)) f' (G_withS hG hGS (by omega) ht) (hm.keepO ho hg sm')
      · rw [if_neg (by rw [l_0, nI_eq (by omega) (by omega)]; exact hz)]
        rw [if_neg (fun z => hz z.2)] at he'
        exact ih S M (by omega) hn h8 he' hs hF hGS hm
theorem T3_low : ∀ m, m < 256 → pc8 m = 3 → ¬ m = 0 ∧ 0 < m ∧ ¬ (m &&& (m - 1)) = 0 ∧ (m &&& (m - 1)) < 256 ∧ low8 m < 8 ∧ low8 (m &&& (m - 1)) < 8 := by decide +kernel
theorem Fr.setD {M M' : Mem} {o : Nat} {S : Sh} {v : Nat} (h : Fr M o S) (hv : v < 1000) (e : M' = wi M o 3 (nI v)) : Fr M' o (setD S v) := by
  have r : ∀ k j, ri M' k j = if k = o ∧ j = 3 then nI v else ri M k j := by intro k j; rw [e, ri_wi]
  have rk : ∀ k, k ≠ 0 → ∀ j, ri M' (o + k) j = ri M (o + k) j := fun k hk j => by rw [r, if_neg (fun z => by omega)]
  have ro : ∀ j, j ≠ 3 → ri M' o j = ri M o j := fun j hj => by rw [r, if_neg (fun z => hj z.2)]
  exact ⟨⟨(ro 0 (by decide)).trans h.1.1, (ro 1 (by decide)).trans h.1.2.1, (ro 2 (by decide)).trans h.1.2.2.1, by rw [r, if_pos ⟨rfl, rfl⟩]; rfl, (ro 4 (by decide)).trans h.1.2.2.2.2.1, fun j hj => (rk 1 (by decide) j).trans (h.1.2.2.2.2.2.1 j hj), fun i hi => (rk 2 (by decide) i).trans (h.1.2.2.2.2.2.2 i hi)⟩, ⟨fun q hq => (rk 3 (by decide) q).trans (h.2.1.1 q hq), fun q hq => (rk 4 (by decide) q).trans (h.2.1.2 q hq)⟩, ⟨h.2.2.1, h.2.2.2.1, h.2.2.2.2.1, h.2.2.2.2.2.1, hv, h.2.2.2.2.2.2.2⟩⟩
theorem Fr.setY {M M' : Mem} {o : Nat} {S : Sh} {y : Int32} (h : Fr M o S) (e : M' = wi M o 2 y) : Fr M' o (setY S y) := by
  have r : ∀ k j, ri M' k j = if k = o ∧ j = 2 then y else ri M k j := by intro k j; rw [e, ri_wi]
  have rk : ∀ k, k ≠ 0 → ∀ j, ri M' (o + k) j = ri M (o + k) j := fun k hk j => by rw [r, if_neg (fun z => by omega)]
  have ro : ∀ j, j ≠ 2 → ri M' o j = ri M o j := fun j hj => by rw [r, if_neg (fun z => hj z.2)]
  exact ⟨⟨(ro 0 (by decide)).trans h.1.1, (ro 1 (by decide)).trans h.1.2.1, by rw [r, if_pos ⟨rfl, rfl⟩]; rfl, (ro 3 (by decide)).trans h.1.2.2.2.1, (ro 4 (by decide)).trans h.1.2.2.2.2.1, fun j hj => (rk 1 (by decide) j).trans (h.1.2.2.2.2.2.1 j hj), fun i hi => (rk 2 (by decide) i).trans (h.1.2.2.2.2.2.2 i hi)⟩, ⟨fun q hq => (rk 3 (by decide) q).trans (h.2.1.1 q hq), fun q hq => (rk 4 (by decide) q).trans (h.2.1.2 q hq)⟩, h.2.2⟩
