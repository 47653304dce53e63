/-! turnWall, canMerge, merge -/
theorem drp_cnm (b : Nat) (C : List Nat) : (drp b C).length + cnm b C = C.length := by
  unfold drp cnm
  induction C with
  | nil => rfl
  | cons m l ih =>
    by_cases h : m &&& b = b
    · simp [List.filter_cons, List.countP_cons, h]; omega
    · simp [List.filter_cons, List.countP_cons, h]; omega
theorem add_bit : ∀ e, e < 256 → pc8 e = 2 → ∀ a, a < 8 → e.testBit a = false → (e ||| 2 ^ a) < 256 ∧ pc8 (e ||| 2 ^ a) = 3 := by decide +kernel
theorem pr_tb {a b j : Nat} : (pr a b).testBit j = (decide (a = j) || decide (b = j)) := by
  unfold pr; rw [Nat.testBit_or, Nat.testBit_two_pow, Nat.testBit_two_pow]
def flipS (S : Sh) (a b : Nat) : Sh := setC S (sortC (drp (pr a b) (sc S) ++ [fe S a b ||| 2 ^ a] ++ [fe S a b ||| 2 ^ b]))
/-- what is so when a wall can be flipped -/
theorem fe_pos {S : Sh} {a b : Nat} (h : fe S a b ≠ 0) : mtI S (nI a) (nI b) = true ∧ 4 ≤ dgm (sc S) a ∧ 4 ≤ dgm (sc S) b ∧ cnm (pr a b) (sc S) = 2 ∧ pc8 (fe S a b) = 2 ∧ fe S a b = enm (pr a b) (sc S) ∧ mtI S (nI (low8 (fe S a b))) (nI (low8 (fe S a b &&& (fe S a b - 1)))) = false := by
  have e : fe S a b = fe S a b := rfl
  conv at e => rhs; unfold fe
  split at e
  · exact absurd e h
  · rename_i h1
    split at e
    · exact absurd e h
    · rename_i h2
      split at e
      · rename_i h3
        rw [e]
        exact ⟨by simpa using h1, by omega, by omega, h3.1, h3.2.1, rfl, h3.2.2⟩
      · exact absurd e h
theorem flipS_ok {S : Sh} (hS : SOk S) {a b : Nat} (ha : a < 8) (hb : b < 8) (h : fe S a b ≠ 0) : SOk (flipS S a b) ∧ (drp (pr a b) (sc S)).length + 2 = (sc S).length ∧ T3 (fe S a b ||| 2 ^ a) ∧ T3 (fe S a b ||| 2 ^ b) := by
  obtain ⟨-, -, -, h1, h2, h3, -⟩ := fe_pos h
  have hl := drp_cnm (pr a b) (sc S)
  have he : fe S a b < 256 := by rw [h3]; exact enm_lt (n := 8) (fun m hm => (hS.2.2.2.1 m hm).1)
  have ta : T3 (fe S a b ||| 2 ^ a) := add_bit _ he h2 a ha (by rw [h3]; exact enm_off (by rw [pr_tb]; simp) _)
  have tb : T3 (fe S a b ||| 2 ^ b) := add_bit _ he h2 b hb (by rw [h3]; exact enm_off (by rw [pr_tb]; simp) _)
  have h12 := hS.2.2.1
  refine ⟨hS.set ?_ ?_, by omega, ta, tb⟩
  · rw [sortC_len]; simp; omega
  · intro m hm
    have := (sortC_mem _).mp hm
    simp only [List.mem_append, List.mem_singleton] at this
    rcases this with (h4 | h4) | h4
    · exact hS.2.2.2.1 m (List.mem_filter.mp h4).1
    · rw [h4]; exact ta
    · rw [h4]; exact tb
theorem feI_pos {S : Sh} (hS : SOk S) {a b : Int32} (h : feI S a b ≠ 0) : ∃ i j, i < sn S ∧ j < sn S ∧ a = nI i ∧ b = nI j ∧ feI S a b = fe S i j := by
  unfold feI at h
  split at h
  · rename_i hm
    obtain ⟨i, j, hi, hj, rfl, rfl⟩ := mtI_in hS hm
    have h8 := hS.1
    refine ⟨i, j, hi, hj, rfl, rfl, ?_⟩
    unfold feI
    rw [if_pos hm, show nx (nI i) = i from nI_clamp (by omega), show nx (nI j) = j from nI_clamp (by omega)]
  · exact absurd rfl h
theorem FB.C {M : Mem} {o : Nat} {S : Sh} {C : List Nat} (h : FB M o (setC S C)) : FB M o (setC S C) := h
theorem feI_lt {S : Sh} (hS : SOk S) (a b : Int32) : feI S a b < 256 := by
  by_cases h : feI S a b = 0
  · rw [h]; decide
  · obtain ⟨i, j, hi, hj, -, -, e⟩ := feI_pos hS h
    rw [e] at h ⊢
    rw [(fe_pos h).2.2.2.2.2.1]
    exact enm_lt (n := 8) (fun m hm => (hS.2.2.2.1 m hm).1)
theorem c_turnWall {d o : Nat} (ho : kd o = (0, 2)) {K : Int32 → Mem → Prop} {S : Sh} {M : Mem} {a b : Int32} (hF : Fr M o S) (h0 : feI S a b = 0 → K 0 M) (hK : ∀ i j M', a = nI i → b = nI j → i < sn S → j < sn S → fe S i j ≠ 0 → Sm M M' o → Fr M' o (flipS S i j) → K (nI (fe S i j)) M') : CI (d + 2) μX2_turnWall [.ref o, .int a, .int b] M K := by
  have hS := hF.2.2
  have h8 : sn S ≤ 8 := hS.1
  refine sg_X2_turnWall_0 ho ?_
  refine c_flippedEnds ho hF ?_
  by_cases h : feI S a b = 0
  · rw [h, if_pos nI_0]; exact h0 h
  · have hlt := feI_lt hS a b
    rw [if_neg (by rw [l_0, nI_eq (by omega) (by omega)]; exact h)]
    obtain ⟨i, j, hi, hj, rfl, rfl, e⟩ := feI_pos hS h
    rw [e] at h ⊢
    obtain ⟨ok, hl, ta, tb⟩ := flipS_ok hS (a := i) (b := j) (by omega) (by omega) h
    rw [n_shl (by omega), n_shl (by omega), n_or, n_or, n_or]
    have h12 := hS.2.2.1
    refine c_dropCornersOf ho (b := pr i j) (pr_lt (by omega) (by omega)) hF.1 hS (fun M3 g3 f3 => ?_)
    refine c_addCorner ho f3 (by rw [sc_setC]; omega) (fun M4 g4 f4 => ?_)
    rw [sc_setC] at f4
    refine c_addCorner (S := setC S (drp (pr i j) (sc S) ++ [fe S i j ||| 2 ^ i])) ho f4 (by rw [sc_setC]; simp; omega) (fun M5 g5 f5 => ?_)
    rw [sc_setC] at f5
    refine c_settle (S := setC S (drp (pr i j) (sc S) ++ [fe S i j ||| 2 ^ i] ++ [fe S i j ||| 2 ^ j])) ho f5 (hS.set (by simp; omega) (fun m hm => ?_)) (fun M6 g6 f6 => ?_)
    · simp only [List.mem_append, List.mem_singleton] at hm
      rcases hm with (h4 | h4) | h4
      · exact hS.2.2.2.1 m (List.mem_filter.mp h4).1
      · rw [h4]; exact ta
      · rw [h4]; exact tb
    · exact hK i j M6 rfl rfl hi hj h (((g3.sm.trans g4.sm).trans g5.sm).trans g6) f6
/-- can the wall of a and b be popped -/
def cmI (S : Sh) (a b : Int32) : Bool := mtI S a b && decide (3 < pc8 (sb S)) && decide (pc8 (nbm (sc S) (nx a) &&& nbm (sc S) (nx b)) = 2)
theorem pc8_le (m : Nat) : pc8 m ≤ 8 := by unfold pc8 bitsL; exact Nat.le_trans (List.length_filter_le _ _) (by simp)
theorem c_canMerge {d o : Nat} (ho : kd o = (0, 2)) {K : Int32 → Mem → Prop} {S : Sh} {M : Mem} {a b : Int32} (hF : Fr M o S) (hK : K (bI (cmI S a b)) M) : CI (d + 2) μX2_canMerge [.ref o, .int a, .int b] M K := by
  have hS := hF.2.2
  have h8 : sn S ≤ 8 := hS.1
  have hp1 := pc8_le (sb S)
  refine sg_X2_canMerge_0 ho ?_
  refine c_meets ho hF ?_
  unfold cmI at hK
  cases hm : mtI S a b with
  | false =>
    rw [if_pos (by decide)]
    rw [hm] at hK
    exact hK
  | true =>
    rw [hm, Bool.true_and] at hK
    obtain ⟨i, j, hi, hj, rfl, rfl⟩ := mtI_in hS hm
    have e1 : nx (nI i) = i := nI_clamp (by omega)
    have e2 : nx (nI j) = j := nI_clamp (by omega)
    rw [if_neg (by decide)]
    refine c_howManyThere ho hF.1 hS ?_
    rw [l_3]
    by_cases c1 : 3 < pc8 (sb S)
    · rw [if_neg (by rw [nI_leI (by omega) (by omega)]; omega)]
      refine ⟨n_in (by omega) (by decide), n_in (by omega) (by decide), ?_⟩
      rw [e1, e2, hF.2.1.1 i (by omega), hF.2.1.1 j (by omega), n_and]
      have hlt : nbm (sc S) i < 2 ^ 8 := nbm_lt (fun m hm => (hS.2.2.2.1 m hm).1)
      refine c_bitCount (Nat.lt_of_le_of_lt Nat.and_le_left hlt) ?_
      rw [e1, e2, show decide (3 < pc8 (sb S)) = true by simp [c1], Bool.true_and] at hK
      have hp2 := pc8_le (nbm (sc S) i &&& nbm (sc S) j)
      rw [l_2]
      by_cases c2 : pc8 (nbm (sc S) i &&& nbm (sc S) j) = 2
      · rw [if_pos (by rw [c2])]
        rw [show decide (pc8 (nbm (sc S) i &&& nbm (sc S) j) = 2) = true by simp [c2]] at hK
        exact hK
      · rw [if_neg (by rw [nI_eq (by omega) (by omega)]; exact c2)]
        rw [show decide (pc8 (nbm (sc S) i &&& nbm (sc S) j) = 2) = false by simp [c2]] at hK
        exact hK
    · rw [if_pos (by rw [nI_leI (by omega) (by omega)]; omega)]
      rw [show decide (3 < pc8 (sb S)) = false by simp [c1], Bool.false_and] at hK
      exact hK
