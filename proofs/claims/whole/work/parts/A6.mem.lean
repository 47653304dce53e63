/-! what is seen: the numbers, the class -/
theorem link_eq {a : Nat} (ha : a < 8) : ∀ C : List Nat, (∀ m ∈ C, T3 m) → s8 (fun v => if v = a then 0 else cnm (pr a v) C) = 2 * dgm C a
  | [], _ => by unfold s8 cnm dgm; simp
  | m :: C, h => by
    have ih := link_eq ha C (fun x hx => h x (List.mem_cons_of_mem _ hx))
    have hm := h m List.mem_cons_self
    have l1 := link1 m hm.1 hm.2 a ha
    have e : ∀ v, (if v = a then 0 else cnm (pr a v) (m :: C)) = (if v = a then 0 else cnm (pr a v) C) + (if v = a then 0 else (tb2 m a v).toNat) := by
      intro v
      by_cases hv : v = a
      · rw [if_pos hv, if_pos hv, if_pos hv]
      · rw [if_neg hv, if_neg hv, if_neg hv, cnm_cons2]
    simp only [e]
    rw [s8_add, ih, l1]
    have : dgm (m :: C) a = dgm C a + (m.testBit a).toNat := by
      unfold dgm
      rw [List.countP_cons]
      cases m.testBit a <;> rfl
    omega
theorem dgm7 {S : Sh} (h : GS S) {p : Nat} (hp : p < 8) : dgm (sc S) p ≤ 7 := by
  have e := link_eq hp (sc S) h.1.2.2.2.1
  have b : ∀ v, v < 8 → (if v = p then 0 else cnm (pr p v) (sc S)) ≤ 2 := by
    intro v hv
    by_cases hvp : v = p
    · rw [if_pos hvp]; omega
    · rw [if_neg hvp]
      have := h.2.2.1 p v hp hv (fun q => hvp q.symm)
      omega
  have b0 := b 0 (by omega)
  have b1 := b 1 (by omega)
  have b2 := b 2 (by omega)
  have b3 := b 3 (by omega)
  have b4 := b 4 (by omega)
  have b5 := b 5 (by omega)
  have b6 := b 6 (by omega)
  have b7 := b 7 (by omega)
  have z : (if p = p then 0 else cnm (pr p p) (sc S)) = 0 := if_pos rfl
  simp only [s8] at e
  have : p = 0 ∨ p = 1 ∨ p = 2 ∨ p = 3 ∨ p = 4 ∨ p = 5 ∨ p = 6 ∨ p = 7 := by omega
  rcases this with h | h | h | h | h | h | h | h <;> rw [h] at e b0 b1 b2 b3 b4 b5 b6 b7 z ⊢ <;> omega
theorem GS_wls {n : Nat} : ∀ (r : Nat) (S : Sh), sn S = n → r ≤ n → GS S → GS (wlsS n S r)
  | 0, _, _, _, h => h
  | r + 1, S, hn, hr, h => by
    show GS (wlsS n (if thI S (nI (n - (r + 1))) = true ∧ sz S (n - (r + 1)) = 0 then withS S (n - (r + 1)) else S) r)
    by_cases hc : thI S (nI (n - (r + 1))) = true ∧ sz S (n - (r + 1)) = 0
    · rw [if_pos hc]
      exact GS_wls r _ ((sn_withS S _).trans hn) (by omega) (G_withS GS_Clo h (by omega) hc.1)
    · rw [if_neg hc]; exact GS_wls r S hn (by omega) h
theorem GS_sea0 {S : Sh} (h : GS S) (F : List Int32) : GS (sea0 S F) := by
  have hz : GS (setZ S (szU S (gvS S F) (sn S))) := by
    refine GS_Clo.2.2.2.2.1 S _ h (szU_le h.1 _ _) (fun j ht => ?_)
    unfold szU
    split
    · have hz := h.1.2.2.2.2.2 j
      have : gvS S F j = 0 := by unfold gvS; rw [ht]; rfl
      rw [this, clS_same hz]
      exact nI_clamp (by omega)
    · rfl
  exact GS_Clo.2.2.2.2.2.2 _ _ (GS_wls (sn S) _ rfl (Nat.le_refl _) hz)
theorem GS_go0 (F : List Int32) (st : Nat) : ∀ (n : Nat) (S : Sh), GS S → GS (goS F st false n S)
  | 0, _, h => h
  | n + 1, S, h => GS_go0 F st n (sea0 S F) (GS_sea0 h F)
theorem go_succ (F : List Int32) (st : Nat) : ∀ (n : Nat) (S : Sh), goS F st false (n + 1) S = sea0 (goS F st false n S) F
  | 0, _ => rfl
  | n + 1, S => go_succ F st n (sea0 S F)
/-- all who were told are there -/
def ATh (S : Sh) : Prop := ∀ j, j < sn S → (sb S).testBit j = true
/-- the shire as told, the last lord of the size v -/
def T0 (S1 : Sh) (v : Nat) : Sh := setZ S1 (fun j => if j = sn S1 - 1 then v else sz S1 j)
theorem GS_T0 {S1 : Sh} (h : GS S1) (hA : ATh S1) (h0 : sn S1 ≠ 0) {v : Nat} (hv : v ≤ 999) : GS (T0 S1 v) := by
  refine GS_Clo.2.2.2.2.1 S1 _ h (fun j => ?_) (fun j hj => ?_)
  · show (if j = sn S1 - 1 then v else sz S1 j) ≤ 999
    have := h.1.2.2.2.2.2 j
    split <;> omega
  · show (if j = sn S1 - 1 then v else sz S1 j) = sz S1 j
    by_cases hjl : j = sn S1 - 1
    · rw [thI_nat h.1 (by omega), hA j (by omega)] at hj; cases hj
    · rw [if_neg hjl]
def sdV (F : List Int32) (st : Nat) (S1 : Sh) (v s : Nat) : Nat := dgm (sc (goS F st false s (T0 S1 v))) (sn S1 - 1)
theorem sdV_le {F : List Int32} {st : Nat} {S1 : Sh} (h : GS S1) (hA : ATh S1) (h0 : sn S1 ≠ 0) {v : Nat} (hv : v ≤ 999) (s : Nat) : sdV F st S1 v s ≤ 7 := dgm7 (GS_go0 F st s _ (GS_T0 h hA h0 hv)) (by have := h.1.1; omega)
/-- a sight: behind how many seasons, how many sides, is it so, told when, untold when (-1: not yet) -/
abbrev Sight : Type := Nat × Nat × Bool × Int32 × Int32
def MX (M : Mem) (c : Nat) (W : Nat → Sight) : Prop := ri M 48 0 = nI c ∧ ∀ i, i < c → ri M 49 i = nI (W i).1 ∧ ri M 50 i = nI (W i).2.1 ∧ ri M 51 i = bI (W i).2.2.1 ∧ ri M 52 i = (W i).2.2.2.1 ∧ ri M 53 i = (W i).2.2.2.2
def MM (M : Mem) (c : Nat) (W : Nat → Sight) : Prop := ri M 58 55 = nI c ∧ ∀ i, i < c → ri M 78 i = nI (W i).1 ∧ ri M 79 i = nI (W i).2.1 ∧ ri M 82 i = bI (W i).2.2.1 ∧ ri M 80 i = (W i).2.2.2.1 ∧ ri M 81 i = (W i).2.2.2.2
def WOk (c : Nat) (W : Nat → Sight) : Prop := c ≤ 30 ∧ ∀ i, i < c → (W i).1 < 13 ∧ (W i).2.1 < 9 ∧ ((W i).2.2.2.2 = -1 ∨ 0 ≤ (W i).2.2.2.2)
/-- the class holds what it found once -/
def Cch (M : Mem) (F : List Int32) (st : Nat) (S1 : Sh) : Prop := ri M 48 7 = 0 ∨ (ri M 48 7 = 1 ∧ ∀ v s, v < 31 → s < 13 → ri M 54 (13 * v + s) = nI (sdV F st S1 v s))
def QF (M M' : Mem) : Prop := (∀ k j, scr k = false → ¬ (k = 58 ∧ (j = 48 ∨ j = 49)) → k ≠ 54 → ¬ (k = 48 ∧ j = 7) → ri M' k j = ri M k j) ∧ ∀ k j, rl M' k j = rl M k j
theorem Q.f {M M' : Mem} (h : Q M M') : QF M M' := ⟨fun k j a b _ _ => h.1 k j a b, h.2⟩
theorem QF.rf {M : Mem} : QF M M := ⟨fun _ _ _ _ _ _ => rfl, fun _ _ => rfl⟩
theorem QF.trans {M M' M'' : Mem} (h : QF M M') (h2 : QF M' M'') : QF M M'' := ⟨fun k j a b c e => (h2.1 k j a b c e).trans (h.1 k j a b c e), fun k j => (h2.2 k j).trans (h.2 k j)⟩
theorem qf_w54 {M : Mem} {j : Nat} {x : Int32} : QF M (wi M 54 j x) := ⟨fun k j _ _ c _ => by rw [ri_wi, if_neg (fun q => c q.1)], fun _ _ => rfl⟩
theorem qf_w48 {M : Mem} {x : Int32} : QF M (wi M 48 7 x) := ⟨fun k j _ _ _ c => by rw [ri_wi, if_neg c], fun _ _ => rfl⟩
theorem Fr.keepF {M M' : Mem} {o : Nat} {S : Sh} (h : Fr M o S) (ho : o = 3 ∨ o = 16 ∨ o = 27) (q : QF M M') : Fr M' o S := by
  apply h.keepK
  intro k hk j
  have : k = 0 ∨ k = 1 ∨ k = 2 ∨ k = 3 ∨ k = 4 := by omega
  apply q.1
  · rcases ho with rfl | rfl | rfl <;> rcases this with rfl | rfl | rfl | rfl | rfl <;> rfl
  all_goals omega
theorem CX.keepF {M M' : Mem} {t : Nat} {F : List Int32} {st : Nat} {S S1 : Sh} (h : CX M t F st S S1) (q : QF M M') : CX M' t F st S S1 := by
  obtain ⟨h1, h2, h3, h4, h5, h6⟩ := h
  refine ⟨by rw [q.1 0 1 rfl (by omega) (by omega) (by omega)]; exact h1, h2, ⟨h3.1, ?_, ?_, h3.2.2.2⟩, ?_, h5.keepF (by omega) q, h6.keepF (by omega) q⟩
  · rw [q.1 _ 3 (by rcases h2 with rfl | rfl <;> rfl) (by omega) (by omega) (by omega)]; exact h3.2.1
  · intro i hi
    rw [q.1 _ i (by rcases h2 with rfl | rfl <;> rfl) (by omega) (by omega) (by omega)]; exact h3.2.2.1 i hi
  · rw [q.1 _ 3 (by rcases h2 with rfl | rfl <;> rfl) (by omega) (by omega) (by omega)]; exact h4
theorem n_13 (x y : Nat) : nI x * 13 + nI y = nI (13 * x + y) := by rw [show (13 : Int32) = nI 13 from rfl, n_mul, nI_add, Nat.mul_comm]
theorem n_13' (x y : Nat) : 13 * nI x + nI y = nI (13 * x + y) := by rw [show (13 : Int32) = nI 13 from rfl, n_mul, nI_add]
theorem x_findSides {d t : Nat} {M : Mem} {K : Mem → Prop} {F : List Int32} {st : Nat} {S S1 : Sh} (hX : CX M t F st S S1) (hG : GS S1) (hA : ATh S1) (h0 : sn S1 ≠ 0) (hC : Cch M F st S1) (hK : ∀ M', QF M M' → ri M' 48 7 = 1 → (∀ v s, v < 31 → s < 13 → ri M' 54 (13 * v + s) = nI (sdV F st S1 v s)) → K M') : CV (d + 5) μX4_findSides [.ref 48, .ref t, .ref 33] M K := by
  have hk := tell_kd hX.2.1
  have h8 := hG.1.1
  refine sg_X4_findSides_0 hk.1 (by decide +kernel) ?_
  rcases hC with hc | hc
  · rw [if_pos hc, hX.2.2.2.2.1.1.1]
    have el : nI (sn S1) - 1 = nI (sn S1 - 1) := by
      have := nI_pred (sn S1 - 1)
      rw [show sn S1 - 1 + 1 = sn S1 by omega] at this
      exact this
    rw [el, if_pos (by rw [show (0 : Int32) = nI 0 from rfl, nI_leI (by omega) (by omega)]; omega)]
    have outer : ∀ (r v : Nat) (M1 : Mem), r + v = 31 → QF M M1 → (∀ u s, u < v → s < 13 → ri M1 54 (13 * u + s) = nI (sdV F st S1 u s)) → RV (d + 5) μX4_findSides 25 [(0, .ref 48), (1, .ref t), (2, .ref 33), (3, .int (nI (sn S1 - 1))), (4, .int (nI v))] [] M1 K := by
      intro r
      induction r with
      | zero =>
        intro v M1 hv q1 hT
        have hv : v = 31 := by omega
        subst hv
        refine sg_X4_findSides_25 hk.1 (by decide +kernel) ?_
        rw [if_pos (by decide)]
        intro M2 h2
        have r2 : ∀ k j, ri M2 k j = if k = 48 ∧ j = 7 then 1 else ri M1 k j := by intro k j; rw [h2, ri_wi]
        exact hK M2 (q1.trans (by rw [h2]; exact qf_w48)) (by rw [r2, if_pos ⟨rfl, rfl⟩]) (fun u s hu hs => by rw [r2, if_neg (by omega)]; exact hT u s hu hs)
      | succ r ih =>
        intro v M1 hv q1 hT
        have hX1 := hX.keepF q1
        refine sg_X4_findSides_25 hk.1 (by decide +kernel) ?_
        rw [if_neg (by rw [show (31 : Int32) = nI 31 from rfl, nI_leI (by omega) (by omega)]; omega)]
        refine c_copyFrom (by decide +kernel) hk.2.2 (by rcases hX.2.1 with rfl | rfl <;> omega) hX1.2.2.2.2.1 (fun M2 s2 f2 => ?_)
        rw [show nx (nI (sn S1 - 1)) = sn S1 - 1 from nI_clamp (by omega)]
        refine ⟨n_in (by omega) (by decide), fun M3 h3 => ?_⟩
        have r3 : ∀ k j, ri M3 k j = if k = 34 ∧ j = sn S1 - 1 then nI v else ri M2 k j := by intro k j; rw [h3, ri_wi]
        have gT := GS_T0 hG hA h0 (show v ≤ 999 by omega)
        have f3 : Fr M3 33 (T0 S1 v) := by
          refine ⟨⟨?_, ?_, ?_, ?_, ?_, fun j hj => ?_, fun i hi => ?_⟩, ⟨fun p hp => ?_, fun p hp => ?_⟩, gT.1⟩
          · rw [r3, if_neg (by omega)]; exact f2.1.1
          · rw [r3, if_neg (by omega)]; exact f2.1.2.1
          · rw [r3, if_neg (by omega)]; exact f2.1.2.2.1
          · rw [r3, if_neg (by omega)]; exact f2.1.2.2.2.1
          · rw [r3, if_neg (by omega)]; exact f2.1.2.2.2.2.1
          · rw [r3]
            show _ = nI (if j = sn S1 - 1 then v else sz S1 j)
            by_cases hjl : j = sn S1 - 1
            · rw [if_pos ⟨rfl, hjl⟩, if_pos hjl]
            · rw [if_neg (fun q => hjl q.2), if_neg hjl]; exact f2.1.2.2.2.2.2.1 j hj
          · rw [r3, if_neg (by omega)]; exact f2.1.2.2.2.2.2.2 i hi
          · rw [r3, if_neg (by omega)]; exact f2.2.1.1 p hp
          · rw [r3, if_neg (by omega)]; exact f2.2.1.2 p hp
        have s3 : Sm M1 M3 33 := s2.trans (by rw [h3]; exact Sm.wi (by omega) (by omega))
        have inner : ∀ (u s : Nat) (M4 : Mem) (T' : Sh), u + s = 13 → QF M M4 → (∃ w, T' = setD (goS F st false s (T0 S1 v)) w) → Fr M4 33 T' → GS T' → (∀ u' s', (u' < v ∧ s' < 13) ∨ (u' = v ∧ s' < s) → ri M4 54 (13 * u' + s') = nI (sdV F st S1 u' s')) → RV (d + 5) μX4_findSides 51 [(0, .ref 48), (1, .ref t), (2, .ref 33), (3, .int (nI (sn S1 - 1))), (4, .int (nI v)), (5, .int (nI s))] [] M4 K := by
          intro u
          induction u with
          | zero =>
            intro s M4 T' hs q4 hw f4 g4 hT4
            have hs : s = 13 := by omega
            subst hs
            refine sg_X4_findSides_51 hk.1 (by decide +kernel) ?_
            rw [if_pos (by decide), nI_1]
            refine ih (v + 1) M4 (by omega) q4 (fun u' s' hu' hs' => hT4 u' s' ?_)
            by_cases huv : u' = v
            · right; exact ⟨huv, hs'⟩
            · left; exact ⟨by omega, hs'⟩
          | succ u ihu =>
            intro s M4 T' hs q4 hw f4 g4 hT4
            obtain ⟨w, rfl⟩ := hw
            refine sg_X4_findSides_51 hk.1 (by decide +kernel) ?_
            rw [if_neg (by rw [show (13 : Int32) = nI 13 from rfl, nI_leI (by omega) (by omega)]; omega), n_13, show nx (nI (13 * v + s)) = 13 * v + s from nI_clamp (by omega), show nx (nI (sn S1 - 1)) = sn S1 - 1 from nI_clamp (by omega), nI_1]
            refine ⟨n_in (by omega) (by decide), n_in (by omega) (by decide), fun M5 h5 => ?_⟩
            rw [show ri M4 (33 + 4) (sn S1 - 1) = nI (sdV F st S1 v s) from f4.2.1.2 (sn S1 - 1) (by omega)] at h5
            have r5 : ∀ k j, ri M5 k j = if k = 54 ∧ j = 13 * v + s then nI (sdV F st S1 v s) else ri M4 k j := by intro k j; rw [h5, ri_wi]
            have f5 : Fr M5 33 (setD (goS F st false s (T0 S1 v)) w) := f4.keepK (fun k hk j => by rw [r5, if_neg (by omega)])
            have q5 := q4.trans (show QF M4 M5 by rw [h5]; exact qf_w54)
            refine c_passSeason (straw := 0) (by decide +kernel) hk.2.1 GS_Clo (by omega) f5 g4 (hX.keepF q5).2.2.1 (fun M6 s6 f6 g6 _ => ?_)
            obtain ⟨w', hw'⟩ := sea_0 (setD (goS F st false s (T0 S1 v)) w) F
            rw [sea0_D, ← go_succ] at hw'
            refine ihu (s + 1) M6 _ (by omega) (q5.trans (s6.q hX.2.1).f) ⟨w', hw'⟩ f6 g6 (fun u' s' hc => ?_)
            rw [s6.1 54 (by omega) (by rcases hX.2.1 with rfl | rfl <;> omega) (by rcases hX.2.1 with rfl | rfl <;> omega), r5]
            by_cases hus : u' = v ∧ s' = s
            · rw [if_pos ⟨rfl, by omega⟩, hus.1, hus.2]
            · rw [if_neg (by omega)]; exact hT4 u' s' (by omega)
        exact inner 13 0 M3 (T0 S1 v) rfl (q1.trans s3.q.f) ⟨sd (T0 S1 v), rfl⟩ f3 gT (fun u' s' hc => by
          rw [r3, if_neg (by omega), s2.1 54 (by omega)]
          exact hT u' s' (by omega) (by omega))
    exact outer 31 0 M rfl QF.rf (fun u s hu => absurd hu (Nat.not_lt_zero _))
  · rw [if_neg (by rw [hc.1]; decide)]
    exact hK M QF.rf hc.1 hc.2
