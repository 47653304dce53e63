/-! the reference's canPop, leave, canVanish, shed -/
theorem cmI_nat {S : Sh} (hS : SOk S) {a b : Nat} (ha : a < sn S) (hb : b < sn S) : cmI S (nI a) (nI b) = ((nbm (sc S) a).testBit b && decide (3 < pc8 (sb S)) && decide (pc8 (nbm (sc S) a &&& nbm (sc S) b) = 2)) := by
  have h8 := hS.1
  unfold cmI
  rw [mtI_nat hS ha hb, show nx (nI a) = a from nI_clamp (by omega), show nx (nI b) = b from nI_clamp (by omega)]
theorem r_canPop {d : Nat} {M : Mem} {K : Int32 → Mem → Prop} {S : Sh} {a b : Nat} (ha : a < sn S) (hb : b < sn S) (hS : SOk S) (hA : Ar M 69 S) (h : K (bI (cmI S (nI a) (nI b))) M) : CI (d + 3) μX9_canPop [.ref 58, .int (nI a), .int (nI b)] M K := by
  have h8 := hS.1
  have hp8 := pc8_le (sb S)
  rw [cmI_nat hS ha hb] at h
  have na : nbm (sc S) a < 256 := nbm_lt (n := 8) (fun m hm => (hS.2.2.2.1 m hm).1)
  refine sg_X9_canPop_0 ?_
  by_cases hab : a = b
  · rw [if_pos (by rw [hab])]
    have : (nbm (sc S) a).testBit b = false := by rw [hab]; unfold nbm; rw [clr_tb, Nat.testBit_two_pow]; simp
    rw [this, Bool.false_and, Bool.false_and] at h
    exact h
  rw [if_neg (by rw [nI_eq (by omega) (by omega)]; exact hab), x_13, hA.2.2.1]
  refine r_members hS.2.1 ?_
  by_cases c1 : 3 < pc8 (sb S)
  · rw [if_neg (by rw [l_3, nI_leI (by omega) (by omega)]; omega)]
    refine r_doBorder (d := d) (by omega) (by omega) hS hA ?_
    rw [show decide (3 < pc8 (sb S)) = true from decide_eq_true c1] at h
    cases hm : (nbm (sc S) a).testBit b with
    | false =>
      rw [if_pos (by decide)]
      rw [hm] at h
      exact h
    | true =>
      rw [if_neg (by decide)]
      rw [hm, Bool.true_and, Bool.true_and] at h
      refine r_bordersOf (d := d + 1) (by omega) hS hA ?_
      refine r_bordersOf (d := d + 1) (by omega) hS hA ?_
      rw [n_and]
      refine r_members (Nat.lt_of_le_of_lt Nat.and_le_left na) ?_
      have hp2 := pc8_le (nbm (sc S) a &&& nbm (sc S) b)
      by_cases c2 : pc8 (nbm (sc S) a &&& nbm (sc S) b) = 2
      · rw [if_pos (by rw [c2]; rfl)]
        rw [show decide (pc8 (nbm (sc S) a &&& nbm (sc S) b) = 2) = true from decide_eq_true c2] at h
        exact h
      · rw [if_neg (by rw [l_2, nI_eq (by omega) (by omega)]; exact c2)]
        rw [show decide (pc8 (nbm (sc S) a &&& nbm (sc S) b) = 2) = false from decide_eq_false c2] at h
        exact h
  · rw [if_pos (by rw [l_3, nI_leI (by omega) (by omega)]; omega)]
    rw [show decide (3 < pc8 (sb S)) = false from decide_eq_false c1, Bool.and_false, Bool.false_and] at h
    exact h
theorem n_14 (p : Nat) : (14 : Int32) + nI p = nI (14 + p) := by rw [show (14 : Int32) = nI 14 from rfl, nI_add]
theorem r_leave {d : Nat} {M : Mem} {K : Mem → Prop} {S : Sh} {p : Nat} (hp : p < 8) (hS : SOk S) (hA : Ar M 69 S) (hK : ∀ M', Sa M M' → Ar M' 69 (lvS S p) → K M') : CV d μX9_leave [.ref 58, .int (nI p)] M K := by
  have h12 := hS.2.2.1
  refine sg_X9_leave_0 ?_
  intro M1 h1
  rw [n_14]
  refine ⟨n_in (by omega) (by decide), ?_⟩
  intro M2 h2
  rw [x_13, hA.2.2.1, n_shl (by omega), n_clr] at h1
  rw [show nx (nI (14 + p)) = 14 + p from nI_clamp (by omega)] at h2
  have r : ∀ j, ri M2 69 j = if j = 14 + p then 0 else if j = 13 then nI (clr (sb S) (2 ^ p)) else ri M 69 j := by
    intro j; rw [h2, ri_wi, h1, ri_wi]; simp
  refine hK M2 (by rw [h2, h1]; exact Sa.wi.trans Sa.wi) ⟨fun i hi => ?_, ?_, ?_, fun j hj => ?_, ?_, ?_⟩
  · have hi : i < (sc S).length := hi
    rw [r, if_neg (by omega), if_neg (by omega)]; exact hA.1 i hi
  · rw [r, if_neg (by omega), if_neg (by omega)]; exact hA.2.1
  · rw [r, if_neg (by omega), if_pos rfl]; rfl
  · rw [r]
    show _ = nI (if j = p then 0 else sz S j)
    by_cases hz : j = p
    · rw [if_pos (by omega), if_pos hz]; rfl
    · rw [if_neg (by omega), if_neg (by omega), if_neg hz]; exact hA.2.2.2.1 j hj
  · rw [r, if_neg (by omega), if_neg (by omega)]; exact hA.2.2.2.2.1
  · rw [r, if_neg (by omega), if_neg (by omega)]; exact hA.2.2.2.2.2
theorem r_canVanish {d : Nat} {M : Mem} {K : Int32 → Mem → Prop} {S : Sh} {p : Nat} (hp : p < 8) (hS : SOk S) (hA : Ar M 69 S) (hv : dgm (sc S) p = 3 → 3 < pc8 (sb S) → T3 (nbm (sc S) p)) (h : K (bI (decide (dgm (sc S) p = 3 ∧ 3 < pc8 (sb S)))) M) : CI (d + 2) μX9_canVanish [.ref 58, .int (nI p)] M K := by
  have h12 := hS.2.2.1
  have hp8 := pc8_le (sb S)
  have hdl := Nat.le_trans (dgm_le (sc S) p) h12
  have na : nbm (sc S) p < 256 := nbm_lt (n := 8) (fun m hm => (hS.2.2.2.1 m hm).1)
  have hp3 := pc8_le (nbm (sc S) p)
  refine sg_X9_canVanish_0 ?_
  refine r_sidesOf (d := d) hp hS hA ?_
  by_cases c1 : dgm (sc S) p = 3
  · rw [if_pos (by rw [c1]; rfl)]
    refine r_bordersOf (d := d) hp hS hA ?_
    refine r_members na ?_
    by_cases c2 : pc8 (nbm (sc S) p) = 3
    · rw [if_pos (by rw [c2]; rfl), x_13, hA.2.2.1]
      refine r_members hS.2.1 ?_
      by_cases c3 : 3 < pc8 (sb S)
      · rw [if_neg (by rw [l_3, nI_leI (by omega) (by omega)]; omega)]
        rw [show decide (dgm (sc S) p = 3 ∧ 3 < pc8 (sb S)) = true from decide_eq_true ⟨c1, c3⟩] at h
        exact h
      · rw [if_pos (by rw [l_3, nI_leI (by omega) (by omega)]; omega)]
        rw [show decide (dgm (sc S) p = 3 ∧ 3 < pc8 (sb S)) = false from decide_eq_false (fun z => c3 z.2)] at h
        exact h
    · rw [if_neg (by rw [l_3, nI_eq (by omega) (by omega)]; exact c2)]
      rw [show decide (dgm (sc S) p = 3 ∧ 3 < pc8 (sb S)) = false from decide_eq_false (fun z => c2 (hv z.1 z.2).2)] at h
      exact h
  · rw [if_neg (by rw [l_3, nI_eq (by omega) (by omega)]; exact c1)]
    rw [show decide (dgm (sc S) p = 3 ∧ 3 < pc8 (sb S)) = false from decide_eq_false (fun z => c1 z.1)] at h
    exact h
theorem r_shed {d : Nat} {M : Mem} {K : Mem → Prop} {S : Sh} {p : Nat} (hp : p < sn S) (hS : SOk S) (hs : srt (sc S)) (h1 : N1 (sc S)) (h4 : N4 S) (hA : Ar M 69 S) (hn : ri M 58 35 = nI (sn S)) (hK : ∀ M', Sa M M' → Ar M' 69 (shedS S p (sn S)) → K M') : CV (d + 4) μX9_shed [.ref 58, .int (nI p)] M K := by
  have h8 := hS.1
  refine sg_X9_shed_0 ?_
  have loop : ∀ (r : Nat), r ≤ sn S → shedS S p r = shedS S p (sn S) → RV (d + 4) μX9_shed 2 [(0, .ref 58), (1, .int (nI p)), (2, .int (nI (sn S - r)))] [] M K := by
    intro r
    induction r with
    | zero =>
      intro _ he
      refine sg_X9_shed_2 ?_
      rw [hn, if_pos (by rw [nI_leI (by omega) (by omega)]; omega)]
      refine sg_X9_shed_25 ?_
      rw [hn, if_pos (by rw [nI_leI (by omega) (by omega)]; omega)]
      refine hK M Sa.rf ?_
      rw [← he]
      exact hA
    | succ r ih =>
      intro hr he
      have hq : sn S - (r + 1) < sn S := by omega
      refine sg_X9_shed_2 ?_
      rw [hn, if_neg (by rw [nI_leI (by omega) (by omega)]; omega)]
      refine r_canFlip (d := d) hp hq hS h1 h4 hA ?_
      have he' : (if fe S p (sn S - (r + 1)) ≠ 0 then flipS S p (sn S - (r + 1)) else shedS S p r) = shedS S p (sn S) := he
      by_cases hf : fe S p (sn S - (r + 1)) ≠ 0
      · rw [show decide (fe S p (sn S - (r + 1)) ≠ 0) = true from decide_eq_true hf, if_neg (by decide)]
        refine sg_X9_shed_25 ?_
        rw [hn, if_neg (by rw [nI_leI (by omega) (by omega)]; omega)]
        rw [if_pos hf] at he'
        refine r_doFlip (d := d) hp hq hS hs h1 h4 hf hA (fun M' s' A' => hK M' s' ?_)
        rw [← he']
        exact A'
      · rw [show decide (fe S p (sn S - (r + 1)) ≠ 0) = false from decide_eq_false hf, if_pos (by decide), nI_1, show sn S - (r + 1) + 1 = sn S - r by omega]
        rw [if_neg hf] at he'
        exact ih (by omega) he'
  have := loop (sn S) (Nat.le_refl _) rfl
  rw [Nat.sub_self] at this
  exact this
