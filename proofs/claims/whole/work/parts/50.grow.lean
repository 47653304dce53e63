/-! growthOf, leave, merge -/
theorem froth_is : ∀ o, kd o = (0, 2) → o = 3 ∨ o = 16 ∨ o = 27 ∨ o = 33 := kd_class 2 _ (by decide +kernel)
theorem formula_is : ∀ o, kd o = (0, 1) → o = 9 ∨ o = 22 := kd_class 1 _ (by decide +kernel)
theorem telling_is : ∀ o, kd o = (0, 7) → o = 2 ∨ o = 15 := kd_class 7 _ (by decide +kernel)
theorem apart_og (o : Nat) (ho : kd o = (0, 2)) (g : Nat) (hg : kd g = (0, 1)) : (∀ k, k < 6 → o + k ≠ g + 2 ∧ o + k ≠ g + 3) ∧ (g < o ∨ o + 5 < g) ∧ (g + 1 < o ∨ o + 5 < g + 1) := by
  have h1 := froth_is o ho
  have h2 := formula_is g hg
  exact ⟨fun k hk => by omega, by omega, by omega⟩
theorem FB.keepK {M M' : Mem} {o : Nat} {S : Sh} (h : FB M o S) (hk : ∀ k, k < 3 → ∀ j, ri M' (o + k) j = ri M (o + k) j) : FB M' o S :=
  ⟨(hk 0 (by decide) 0).trans h.1, (hk 0 (by decide) 1).trans h.2.1, (hk 0 (by decide) 2).trans h.2.2.1, (hk 0 (by decide) 3).trans h.2.2.2.1, (hk 0 (by decide) 4).trans h.2.2.2.2.1, fun j hj => (hk 1 (by decide) j).trans (h.2.2.2.2.2.1 j hj), fun i hi => (hk 2 (by decide) i).trans (h.2.2.2.2.2.2 i hi)⟩
theorem Fr.keepK {M M' : Mem} {o : Nat} {S : Sh} (h : Fr M o S) (hk : ∀ k, k < 5 → ∀ j, ri M' (o + k) j = ri M (o + k) j) : Fr M' o S :=
  ⟨h.1.keepK (fun k h3 j => hk k (by omega) j), ⟨fun p hp => (hk 3 (by decide) p).trans (h.2.1.1 p hp), fun p hp => (hk 4 (by decide) p).trans (h.2.1.2 p hp)⟩, h.2.2⟩
theorem Fr.keepG {M M' : Mem} {o g : Nat} {S : Sh} (ho : kd o = (0, 2)) (hg : kd g = (0, 1)) (h : Fr M o S) (hs : Sg M M' g) : Fr M' o S :=
  h.keepK (fun k hk j => hs.1 (o + k) ((apart_og o ho g hg).1 k (by omega)).1 ((apart_og o ho g hg).1 k (by omega)).2 j)
theorem Fm.keepO {M M' : Mem} {o g : Nat} {F : List Int32} (ho : kd o = (0, 2)) (hg : kd g = (0, 1)) (h : Fm M g F) (hs : Sm M M' o) : Fm M' g F :=
  ⟨h.1, (hs.1 g (apart_og o ho g hg).2.1 3).trans h.2.1, fun i hi => (hs.1 (g + 1) (apart_og o ho g hg).2.2 i).trans (h.2.2.1 i hi), h.2.2.2⟩
def nearF (S : Sh) (p : Nat) : Nat → Nat
  | 0 => 0
  | q + 1 => nearF S p q + if mtI S (nI p) (nI q) = true then sz S q else 0
theorem nearF_le {S : Sh} (hS : SOk S) (p : Nat) : ∀ q, nearF S p q ≤ 999 * q := by
  intro q
  induction q with
  | zero => exact Nat.le_refl _
  | succ q ih =>
    have := hS.2.2.2.2.2 q
    unfold nearF
    split <;> omega
/-- by how much p grows next -/
def grS (S : Sh) (F : List Int32) (p : Nat) : Int32 := grF F (nI (dgm (sc S) p)) (nI (sz S p)) (nI (nearF S p (sn S))) (nI (pc8 (sb S))) (sy S)
theorem grow_loop {d o g : Nat} (ho : kd o = (0, 2)) (hg : kd g = (0, 1)) {K : Int32 → Mem → Prop} {S : Sh} {F : List Int32} {M : Mem} {p : Nat} (hp : p < sn S) (hF : Fr M o S) (hm : Fm M g F) (hK : ∀ M', Sg M M' g → K (grS S F p) M') :
    ∀ (f q : Nat), f + q = sn S → RI (d + 3) μX2_growthOf 15 [(0, .ref o), (1, .int (nI p)), (2, .ref g), (3, .int (nI (nearF S p q))), (4, .int (nI q))] [] M K := by
  have hS := hF.2.2
  have h8 : sn S ≤ 8 := hS.1
  intro f
  induction f with
  | zero =>
    intro q hq
    have hq : q = sn S := by omega
    subst hq
    refine sg_X2_growthOf_15 ho hg ?_
    rw [hF.1.1, if_pos (by rw [nI_leI (by omega) (by omega)]; omega)]
    refine ⟨n_in (by omega) (by decide), n_in (by omega) (by decide), ?_⟩
    have e1 : nx (nI p) = p := nI_clamp (by omega)
    refine c_howManyThere ho hF.1 hS ?_
    rw [e1, hF.2.1.2 p (by omega), hF.1.2.2.2.2.2.1 p (by omega), hF.1.2.2.1]
    exact c_growth hg hm hK
  | succ f ih =>
    intro q hq
    refine sg_X2_growthOf_15 ho hg ?_
    rw [hF.1.1, if_neg (by rw [nI_leI (by omega) (by omega)]; omega)]
    refine c_meets ho hF ?_
    have hrec := ih (q + 1) (by omega)
    rw [nI_1]
    cases hmq : mtI S (nI p) (nI q) with
    | false =>
      rw [if_pos (by decide)]
      unfold nearF at hrec
      rw [hmq, if_neg (by decide), Nat.add_zero] at hrec
      exact hrec
    | true =>
      rw [if_neg (by decide)]
      refine ⟨n_in (by omega) (by decide), ?_⟩
      rw [show nx (nI q) = q from nI_clamp (by omega), hF.1.2.2.2.2.2.1 q (by omega), nI_add]
      unfold nearF at hrec
      rw [hmq, if_pos rfl] at hrec
      exact hrec
theorem c_growthOf {d o g : Nat} (ho : kd o = (0, 2)) (hg : kd g = (0, 1)) {K : Int32 → Mem → Prop} {S : Sh} {F : List Int32} {M : Mem} {p : Nat} (hp : p < sn S) (hF : Fr M o S) (hm : Fm M g F) (hK : ∀ M', Sg M M' g → K (grS S F p) M') : CI (d + 3) μX2_growthOf [.ref o, .int (nI p), .ref g] M K := by
  have h8 : sn S ≤ 8 := hF.2.2.1
  refine sg_X2_growthOf_0 ho hg ?_
  refine c_isTold ho hF.1 ?_
  rw [show decide (0 ≤ nI p ∧ nI p < nI (sn S)) = true by simp only [nI_pos' (show p < 2 ^ 31 by omega), nI_lt hp (by omega), and_self, decide_true], if_neg (by decide)]
  exact grow_loop ho hg hp hF hm hK (sn S) 0 (by omega)
/-- one is gone -/
def lvS (S : Sh) (p : Nat) : Sh := (sn S, clr (sb S) (2 ^ p), sy S, sd S, sc S, fun j => if j = p then 0 else sz S j)
theorem c_leave {d o : Nat} (ho : kd o = (0, 2)) {K : Mem → Prop} {S : Sh} {M : Mem} {p : Nat} (hp : p < 8) (hF : FB M o S) (hK : ∀ M', Sm M M' o → (∀ k, 2 ≤ k → ∀ j, ri M' (o + k) j = ri M (o + k) j) → FB M' o (lvS S p) → K M') : CV d μX2_leave [.ref o, .int (nI p)] M K := by
  refine sg_X2_leave_0 ho ?_
  intro M1 h1
  refine ⟨n_in hp (by decide), ?_⟩
  intro M2 h2
  rw [hF.2.1, n_shl (by omega), n_clr] at h1
  rw [show nx (nI p) = p from nI_clamp (by omega)] at h2
  have r : ∀ k j, ri M2 k j = if k = o + 1 ∧ j = p then 0 else if k = o ∧ j = 1 then nI (clr (sb S) (2 ^ p)) else ri M k j := by
    intro k j; rw [h2, ri_wi, h1, ri_wi]
  have ro : ∀ j, j ≠ 1 → ri M2 o j = ri M o j := fun j hj => by rw [r, if_neg (fun q => by omega), if_neg (fun q => hj q.2)]
  have r2 : ∀ k, 2 ≤ k → ∀ j, ri M2 (o + k) j = ri M (o + k) j := fun k hk j => by rw [r, if_neg (fun q => by omega), if_neg (fun q => by omega)]
  refine hK M2 ⟨fun k hk j => by rw [r, if_neg (fun q => by omega), if_neg (fun q => by omega)], fun k j => by rw [h2, h1]; rfl⟩ r2 ?_
  refine ⟨(ro 0 (by decide)).trans hF.1, by rw [r, if_neg (fun q => by omega), if_pos ⟨rfl, rfl⟩]; rfl, (ro 2 (by decide)).trans hF.2.2.1, (ro 3 (by decide)).trans hF.2.2.2.1, (ro 4 (by decide)).trans hF.2.2.2.2.1, fun j hj => ?_, fun i hi => (r2 2 (by decide) i).trans (hF.2.2.2.2.2.2 i hi)⟩
  rw [r]
  by_cases hz : j = p
  · rw [if_pos ⟨rfl, hz⟩]
    show (0 : Int32) = nI (if j = p then 0 else sz S j)
    rw [if_pos hz]; rfl
  · rw [if_neg (fun q => hz q.2), if_neg (fun q => by omega), hF.2.2.2.2.2.1 j hj]
    show nI (sz S j) = nI (if j = p then 0 else sz S j)
    rw [if_neg hz]
/-- b's place is a's -/
def rpl (a b m : Nat) : Nat := if m.testBit b then clr m (2 ^ b) ||| 2 ^ a else m
def mgC (a b : Nat) (C : List Nat) : List Nat := (drp (pr a b) C).map (rpl a b)
def mgS (S : Sh) (a b : Nat) : Sh := (sn S, clr (sb S) (2 ^ b), sy S, sd S, sortC (mgC a b (sc S)), fun j => if j = b then 0 else if j = a then (if sz S a + sz S b < 999 then sz S a + sz S b else 999) else sz S j)
theorem rpl_T3b : ((List.range 256).all fun m => !(pc8 m == 3) || (List.range 8).all fun a => (List.range 8).all fun b => (m &&& pr a b == pr a b) || (decide (rpl a b m < 256) && (pc8 (rpl a b m) == 3))) = true := by decide +kernel
theorem rpl_T3 (m : Nat) (hm : m < 256) (h3 : pc8 m = 3) (a : Nat) (ha : a < 8) (b : Nat) (hb : b < 8) (h : ¬ (m &&& pr a b = pr a b)) : rpl a b m < 256 ∧ pc8 (rpl a b m) = 3 := by
  have h1 := List.all_eq_true.mp rpl_T3b m (List.mem_range.mpr hm)
  rw [h3] at h1
  simp at h1
  exact (h1 a ha b hb).resolve_left h
theorem mgC_T3 {a b : Nat} (ha : a < 8) (hb : b < 8) {C : List Nat} (hT : ∀ m ∈ C, T3 m) : ∀ m ∈ mgC a b C, T3 m := by
  intro m hm
  obtain ⟨x, hx, rfl⟩ := List.mem_map.mp hm
  have := List.mem_filter.mp hx
  exact rpl_T3 x (hT x this.1).1 (hT x this.1).2 a ha b hb (by simpa using this.2)
theorem merge_loop {d o : Nat} (ho : kd o = (0, 2)) {K : Int32 → Mem → Prop} {S : Sh} (hS : SOk S) {M0 : Mem} {a b : Nat} (ha : a < 8) (hb : b < 8) (hab : a ≠ b) (hF0 : FB M0 o (setC S (drp (pr a b) (sc S)))) (hK : ∀ M', Sm M0 M' o → Fr M' o (mgS S a b) → K 1 M') :
    ∀ (f i : Nat) (M : Mem), f + i = (drp (pr a b) (sc S)).length → Sm2 M0 M o → FB M o (setC S (((drp (pr a b) (sc S)).take i).map (rpl a b) ++ (drp (pr a b) (sc S)).drop i)) → RI (d + 2) μX2_merge 24 [(0, .ref o), (1, .int (nI a)), (2, .int (nI b)), (3, .int (nI i))] [] M K := by
  have h12 : (drp (pr a b) (sc S)).length ≤ 12 := Nat.le_trans (drp_len_le _ _) hS.2.2.1
  have ea : nx (nI a) = a := nI_clamp (by omega)
  have eb : nx (nI b) = b := nI_clamp (by omega)
  have hT := mgC_T3 ha hb hS.2.2.2.1
  generalize hD : drp (pr a b) (sc S) = D at h12 hF0 ⊢
  have hDT : ∀ m ∈ D, T3 m := by
    intro m hm
    rw [← hD] at hm
    exact hS.2.2.2.1 m (List.mem_filter.mp hm).1
  have hmg : mgC a b (sc S) = D.map (rpl a b) := by unfold mgC; rw [hD]
  rw [hmg] at hT
  intro f
  induction f with
  | zero =>
    intro i M hi hs hF
    have hi : i = D.length := by omega
    subst hi
    simp only [List.take_length, List.drop_length, List.append_nil] at hF
    refine sg_X2_merge_24 ho ?_
    rw [hF.2.2.2.2.1, sc_setC, List.length_map, if_pos (by rw [nI_leI (by omega) (by omega)]; omega), ea, eb]
    refine ⟨n_in ha (by decide), n_in hb (by decide), n_in ha (by decide), ?_⟩
    intro M1 h1
    have za : ri M (o + 1) a = nI (sz S a) := hF.2.2.2.2.2.1 a ha
    have zb : ri M (o + 1) b = nI (sz S b) := hF.2.2.2.2.2.1 b hb
    have sa := hS.2.2.2.2.2 a
    have sb' := hS.2.2.2.2.2 b
    rw [za, zb, nI_add] at h1
    have h1' : M1 = wi M (o + 1) a (nI (if sz S a + sz S b < 999 then sz S a + sz S b else 999)) := by
      rw [h1]
      congr 1
      by_cases c : sz S a + sz S b < 999
      · rw [if_pos (by rw [l_999, nI_ltI (by omega) (by omega)]; exact c), if_pos c]
      · rw [if_neg (by rw [l_999, nI_ltI (by omega) (by omega)]; exact c), if_neg c]; rfl
    -- the shire with a's new size
    let S1 : Sh := (sn S, sb S, sy S, sd S, D.map (rpl a b), fun j => if j = a then (if sz S a + sz S b < 999 then sz S a + sz S b else 999) else sz S j)
    have r : ∀ k j, ri M1 k j = if k = o + 1 ∧ j = a then nI (if sz S a + sz S b < 999 then sz S a + sz S b else 999) else ri M k j := by
      intro k j; rw [h1', ri_wi]
    have ro : ∀ j, ri M1 o j = ri M o j := fun j => by rw [r, if_neg (fun q => by omega)]
    have F1 : FB M1 o S1 := by
      refine ⟨(ro 0).trans hF.1, (ro 1).trans hF.2.1, (ro 2).trans hF.2.2.1, (ro 3).trans hF.2.2.2.1, (ro 4).trans hF.2.2.2.2.1, fun j hj => ?_, fun i hi => ?_⟩
      · rw [r]
        show _ = nI (if j = a then _ else sz S j)
        by_cases hz : j = a
        · rw [if_pos ⟨rfl, hz⟩, if_pos hz]
        · rw [if_neg (fun q => hz q.2), if_neg hz]; exact hF.2.2.2.2.2.1 j hj
      · rw [r, if_neg (fun q => by omega)]; exact hF.2.2.2.2.2.2 i hi
    have s1 : Sm M0 M1 o := hs.sm.trans (by rw [h1']; exact Sm.wi (by omega) (by omega))
    refine c_leave (S := S1) ho hb F1 (fun M2 g2 _ f2 => ?_)
    have hok : SOk (lvS S1 b) := by
      refine ⟨hS.1, clr_lt (n := 8) hS.2.1, by show (D.map (rpl a b)).length ≤ 12; rw [List.length_map]; exact h12, hT, hS.2.2.2.2.1, fun j => ?_⟩
      show (if j = b then 0 else if j = a then (if sz S a + sz S b < 999 then sz S a + sz S b else 999) else sz S j) ≤ 999
      have := hS.2.2.2.2.2 j
      split
      · omega
      · split
        · split <;> omega
        · exact this
    refine c_settle (S := lvS S1 b) ho f2 hok (fun M3 g3 f3 => ?_)
    refine hK M3 ((s1.trans g2).trans g3) ?_
    have e : setC (lvS S1 b) (sortC (sc (lvS S1 b))) = mgS S a b := by
      show (sn S, clr (sb S) (2 ^ b), sy S, sd S, sortC (D.map (rpl a b)), _) = (sn S, clr (sb S) (2 ^ b), sy S, sd S, sortC (mgC a b (sc S)), _)
      rw [hmg]
      rfl
    rw [e] at f3
    exact f3
  | succ f ih =>
    intro i M hi hs hF
    have hlt : i < D.length := by omega
    have tl : ((D.take i).map (rpl a b)).length = i := by rw [List.length_map, List.length_take]; omega
    have hlen : ((D.take i).map (rpl a b) ++ D.drop i).length = D.length := by rw [List.length_append, tl, List.length_drop]; omega
    refine sg_X2_merge_24 ho ?_
    have h4 : ri M o 4 = nI D.length := by
      have := hF.2.2.2.2.1
      rw [sc_setC] at this
      rw [this]; congr 1
    rw [h4, if_neg (by rw [nI_leI (by omega) (by omega)]; omega)]
    have hin : vp_in (nI i) 12 := n_in (by omega) (by decide)
    have hm : D[i]?.getD 0 ∈ D := by rw [List.getElem?_eq_getElem hlt]; exact List.getElem_mem _
    have hm2 := (hDT _ hm).1
    have hrd : ri M (o + 2) (nx (nI i)) = nI (D[i]?.getD 0) := by
      rw [show nx (nI i) = i from nI_clamp (by omega)]
      have := hF.2.2.2.2.2.2 i (by rw [sc_setC]; omega)
      rw [this, sc_setC, List.getElem?_append_right (by omega), tl, Nat.sub_self, List.getElem?_drop]
      rfl
    refine ⟨hin, ?_⟩
    rw [hrd, n_bit (by omega) (by omega)]
    have hnext : (D.take (i + 1)).map (rpl a b) ++ D.drop (i + 1) = ((D.take i).map (rpl a b) ++ D.drop i).set i (rpl a b (D[i]?.getD 0)) := by
      rw [List.set_append_right _ _ (by omega), tl, Nat.sub_self, List.take_add_one, List.getElem?_eq_getElem hlt, List.map_append]
      rw [List.append_assoc]
      congr 1
      rw [List.drop_eq_getElem_cons hlt]
      rfl
    have hrec := ih (i + 1)
    by_cases ht : (D[i]?.getD 0).testBit b = true
    · rw [if_pos ht, if_pos rfl]
      refine ⟨hin, hin, ?_⟩
      intro M4 h4'
      rw [show nx (nI i) = i from nI_clamp (by omega), n_shl (by omega), n_shl (by omega), n_clr, n_or] at h4'
      rw [nI_1]
      have hv : rpl a b (D[i]?.getD 0) = clr (D[i]?.getD 0) (2 ^ b) ||| 2 ^ a := by unfold rpl; rw [if_pos ht]
      rw [← hv] at h4'
      have r : ∀ k j, ri M4 k j = if k = o + 2 ∧ j = i then nI (rpl a b (D[i]?.getD 0)) else ri M k j := by
        intro k j; rw [h4', ri_wi]
      have s4 : Sm2 M M4 o := ⟨fun k hk j hj => by rw [r, if_neg (fun q => hk q.1)], fun k j => by rw [h4']; rfl⟩
      refine hrec M4 (by omega) (hs.trans s4) ?_
      have := s4.FB hF (C := (D.take (i + 1)).map (rpl a b) ++ D.drop (i + 1)) ?_ ?_
      · exact this
      · rw [r, if_neg (fun q => by omega), h4, hnext, List.length_set, hlen]
      · intro u hu
        rw [hnext, List.length_set, hlen] at hu
        rw [r, hnext]
        by_cases hz : u = i
        · subst hz
          rw [if_pos ⟨rfl, rfl⟩, List.getElem?_set_self (by omega)]; rfl
        · rw [if_neg (fun q => hz q.2), List.getElem?_set_ne (fun q => hz q.symm)]
          exact hF.2.2.2.2.2.2 u (by rw [sc_setC]; omega)
    · rw [if_neg ht, if_neg (by decide), nI_1]
      have hv : rpl a b (D[i]?.getD 0) = D[i]?.getD 0 := by unfold rpl; rw [if_neg ht]
      refine hrec M (by omega) hs ?_
      have e : (D.take (i + 1)).map (rpl a b) ++ D.drop (i + 1) = (D.take i).map (rpl a b) ++ D.drop i := by
        rw [hnext, hv]
        apply List.ext_getElem?
        intro u
        by_cases hz : u = i
        · subst hz
          rw [List.getElem?_set_self (by omega), List.getElem?_append_right (by omega), tl, Nat.sub_self, List.getElem?_drop, Nat.add_zero, List.getElem?_eq_getElem hlt]; rfl
        · rw [List.getElem?_set_ne (fun q => hz q.symm)]
      show FB M o (setC S ((D.take (i + 1)).map (rpl a b) ++ D.drop (i + 1)))
      rw [e]
      exact hF
theorem mtI_self {S : Sh} (p : Nat) (hp : p < 2 ^ 31) : mtI S (nI p) (nI p) = false := by
  unfold mtI nx
  rw [nI_clamp hp]
  have : (nbm (sc S) p).testBit p = false := by unfold nbm; rw [clr_tb, Nat.testBit_two_pow]; simp
  rw [this, Bool.and_false]
theorem c_merge {d o : Nat} (ho : kd o = (0, 2)) {K : Int32 → Mem → Prop} {S : Sh} {M : Mem} {a b : Int32} (hF : Fr M o S) (h0 : cmI S a b = false → K 0 M) (hK : ∀ i j M', a = nI i → b = nI j → i < sn S → j < sn S → cmI S a b = true → Sm M M' o → Fr M' o (mgS S i j) → K 1 M') : CI (d + 3) μX2_merge [.ref o, .int a, .int b] M K := by
  have hS := hF.2.2
  have h8 : sn S ≤ 8 := hS.1
  refine sg_X2_merge_0 ho ?_
  refine c_canMerge ho hF ?_
  cases hc : cmI S a b with
  | false => rw [if_pos (by decide)]; exact h0 hc
  | true =>
    rw [if_neg (by decide)]
    have hm : mtI S a b = true := by
      unfold cmI at hc
      rw [Bool.and_eq_true, Bool.and_eq_true] at hc
      exact hc.1.1
    obtain ⟨i, j, hi, hj, rfl, rfl⟩ := mtI_in hS hm
    have hij : i ≠ j := fun e => by rw [e, mtI_self j (by omega)] at hm; exact absurd hm (by decide)
    rw [n_shl (by omega), n_shl (by omega), n_or]
    refine c_dropCornersOf ho (b := pr i j) (pr_lt (by omega) (by omega)) hF.1 hS (fun M3 g3 f3 => ?_)
    refine merge_loop ho hS (by omega) (by omega) hij f3 (fun M' g f => hK i j M' rfl rfl hi hj hc (g3.sm.trans g) f) _ 0 M3 rfl Sm2.rf ?_
    show FB M3 o (setC S (([] : List Nat).map (rpl i j) ++ drp (pr i j) (sc S)))
    exact f3
