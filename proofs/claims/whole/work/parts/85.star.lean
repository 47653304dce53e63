/-! good shires: a corner xyz goes for pxy, pxz, pyz (a birth), and the other way (one vanishes) -/
theorem stk : ∀ xa xb xc xe ya yb yc ye : Bool, oh xa xb xc xe = true → oh ya yb yc ye = true → nb xa xb xc xe ya yb yc ye = true →
    (((xa || ya) = true ∧ ((xb || xc || xe) && (yb || yc || ye)) = false ∧ (((xa || xb || xc) && (ya || yb || yc)).toNat + ((xa || xb || xe) && (ya || yb || ye)).toNat + ((xa || xc || xe) && (ya || yc || ye)).toNat = 0 ∨ ((xa || xb || xc) && (ya || yb || yc)).toNat + ((xa || xb || xe) && (ya || yb || ye)).toNat + ((xa || xc || xe) && (ya || yc || ye)).toNat = 2)) ∨
     ((xa || ya) = false ∧ ((xa || xb || xc) && (ya || yb || yc)).toNat + ((xa || xb || xe) && (ya || yb || ye)).toNat + ((xa || xc || xe) && (ya || yc || ye)).toNat = ((xb || xc || xe) && (yb || yc || ye)).toNat)) := by
  intro xa xb xc xe ya yb yc ye
  cases xa <;> cases xb <;> cases xc <;> cases xe <;> cases ya <;> cases yb <;> cases yc <;> cases ye <;> decide
theorem stk' {a b c e x y : Nat} (hab : a ≠ b) (hac : a ≠ c) (hae : a ≠ e) (hbc : b ≠ c) (hbe : b ≠ e) (hce : c ≠ e) (hxy : x ≠ y) :
    (((a = x ∨ a = y) ∧ tb2 (tri b c e) x y = false ∧ ((tb2 (tri a b c) x y).toNat + (tb2 (tri a b e) x y).toNat + (tb2 (tri a c e) x y).toNat = 0 ∨ (tb2 (tri a b c) x y).toNat + (tb2 (tri a b e) x y).toNat + (tb2 (tri a c e) x y).toNat = 2)) ∨
     (a ≠ x ∧ a ≠ y ∧ (tb2 (tri a b c) x y).toNat + (tb2 (tri a b e) x y).toNat + (tb2 (tri a c e) x y).toNat = (tb2 (tri b c e) x y).toNat)) := by
  have h := stk _ _ _ _ _ _ _ _ (oh_of hab hac hae hbc hbe hce x) (oh_of hab hac hae hbc hbe hce y) (nb_of (a := a) (b := b) (c := c) (e := e) hxy)
  rw [tb2_tri, tb2_tri, tb2_tri, tb2_tri]
  rcases h with h | h
  · rw [Bool.or_eq_true, decide_eq_true_iff, decide_eq_true_iff] at h
    exact Or.inl h
  · rw [Bool.or_eq_false_iff, decide_eq_false_iff_not, decide_eq_false_iff_not] at h
    exact Or.inr ⟨h.1.1, h.1.2, h.2⟩
theorem cnm_off {D : List Nat} {p x y : Nat} (h : ∀ m ∈ D, m.testBit p = false) (hp : p = x ∨ p = y) : cnm (pr x y) D = 0 := by
  unfold cnm
  rw [List.countP_eq_zero]
  intro m hm
  rw [decide_eq_true_iff, and_pr]
  rintro ⟨h1, h2⟩
  have := h m hm
  rcases hp with rfl | rfl
  · rw [h1] at this; cases this
  · rw [h2] at this; cases this
theorem N1_star {C C' D : List Nat} {a b c e : Nat} (h1 : N1 C) (hab : a ≠ b) (hac : a ≠ c) (hae : a ≠ e) (hbc : b ≠ c) (hbe : b ≠ e) (hce : c ≠ e) (p1 : C.Perm (tri b c e :: D)) (p2 : C'.Perm (tri a b c :: tri a b e :: tri a c e :: D)) (hD : ∀ m ∈ D, m.testBit a = false) : N1 C' := by
  intro x y hx hy hxy
  have h := h1 x y hx hy hxy
  rw [cnm_perm p1, cnm_cons2] at h
  rw [cnm_perm p2, cnm_cons2, cnm_cons2, cnm_cons2]
  rcases stk' hab hac hae hbc hbe hce hxy with ⟨k0, k1, k2⟩ | ⟨_, _, k⟩
  · have := cnm_off hD k0
    omega
  · omega
theorem N1_unstar {C C' D : List Nat} {a b c e : Nat} (h1 : N1 C) (hab : a ≠ b) (hac : a ≠ c) (hae : a ≠ e) (hbc : b ≠ c) (hbe : b ≠ e) (hce : c ≠ e) (p1 : C.Perm (tri a b c :: tri a b e :: tri a c e :: D)) (p2 : C'.Perm (tri b c e :: D)) (hD : ∀ m ∈ D, m.testBit a = false) : N1 C' := by
  intro x y hx hy hxy
  have h := h1 x y hx hy hxy
  rw [cnm_perm p1, cnm_cons2, cnm_cons2, cnm_cons2] at h
  rw [cnm_perm p2, cnm_cons2]
  rcases stk' hab hac hae hbc hbe hce hxy with ⟨k0, k1, k2⟩ | ⟨_, _, k⟩
  · have := cnm_off hD k0
    have : (tb2 (tri b c e) x y).toNat = 0 := by rw [k1]; rfl
    omega
  · omega
theorem DC_unstar {C C' D : List Nat} {a b c e : Nat} (hC : DC C) (hab : a ≠ b) (hac : a ≠ c) (hae : a ≠ e) (hbc : b ≠ c) (hbe : b ≠ e) (hce : c ≠ e) (p1 : C.Perm (tri a b c :: tri a b e :: tri a c e :: D)) (p2 : C'.Perm (tri b c e :: D)) (hD : ∀ m ∈ D, m.testBit a = false) : DC C' := by
  intro P hP
  have t1 : (tri a b c).testBit a = true := by rw [tri_tb]; simp
  have t2 : (tri a b e).testBit a = true := by rw [tri_tb]; simp
  have t3 : (tri a c e).testBit a = true := by rw [tri_tb]; simp
  obtain ⟨q, hq⟩ := hC (fun m => if m.testBit a = true then P (tri b c e) else P m) (by
    intro x y hx hy hxy
    have h := hP x y hx hy hxy
    rw [kP_perm p2, kP_cons] at h
    rw [kP_perm p1, kP_cons, kP_cons, kP_cons]
    have eD : kP (fun m => if m.testBit a = true then P (tri b c e) else P m) (pr x y) D = kP P (pr x y) D := by
      apply kP_congr
      intro m hm _
      show (if m.testBit a = true then P (tri b c e) else P m) = P m
      rw [hD m hm]
      rfl
    rw [eD]
    simp only [t1, t2, t3, if_true]
    generalize P (tri b c e) = q at h ⊢
    rcases stk' hab hac hae hbc hbe hce hxy with ⟨k0, k1, k2⟩ | ⟨_, _, k⟩
    · have z := kP_le P (pr x y) D
      have z0 := cnm_off hD k0
      cases q
      · simp; omega
      · simp only [Bool.true_and]; omega
    · cases q
      · simp at h ⊢; exact h
      · simp only [Bool.true_and] at h ⊢; omega)
  have hq1 := hq _ (p1.mem_iff.mpr List.mem_cons_self)
  simp only [t1, if_true] at hq1
  refine ⟨q, fun x hx => ?_⟩
  rcases List.mem_cons.mp (p2.mem_iff.mp hx) with rfl | hx
  · exact hq1
  have h := hq x (p1.mem_iff.mpr (List.mem_cons_of_mem _ (List.mem_cons_of_mem _ (List.mem_cons_of_mem _ hx))))
  have e3 : (if x.testBit a = true then P (tri b c e) else P x) = P x := by rw [hD x hx]; rfl
  exact e3.symm.trans h
theorem DC_star {C C' D : List Nat} {a b c e : Nat} (hC : DC C) (h1 : N1 C) (ha : a < 8) (hb : b < 8) (hc : c < 8) (he : e < 8) (hab : a ≠ b) (hac : a ≠ c) (hae : a ≠ e) (hbc : b ≠ c) (hbe : b ≠ e) (hce : c ≠ e) (p1 : C.Perm (tri b c e :: D)) (p2 : C'.Perm (tri a b c :: tri a b e :: tri a c e :: D)) (hD : ∀ m ∈ D, m.testBit a = false) : DC C' := by
  intro P hP
  have dab : ∀ {u v : Nat}, u ≠ v → decide (u = v) = false := fun h => decide_eq_false h
  have e12 : P (tri a b c) = P (tri a b e) := by
    have h := hP a b ha hb hab
    rw [kP_perm p2, kP_cons, kP_cons, kP_cons, tb2_tri, tb2_tri, tb2_tri] at h
    have z := kP_le P (pr a b) D
    have z0 := cnm_off (x := a) (y := b) hD (Or.inl rfl)
    simp only [dab hab, dab hab.symm, dab hac, dab hac.symm, dab hae, dab hae.symm, dab hbc, dab hbc.symm, dab hbe, dab hbe.symm, dab hce, dab hce.symm, decide_true, Bool.or_false, Bool.false_or, Bool.or_true, Bool.true_or, Bool.and_true, Bool.and_false, Bool.true_and] at h
    generalize P (tri a b c) = u at h ⊢
    generalize P (tri a b e) = v at h ⊢
    cases u <;> cases v <;> first | rfl | (exfalso; simp at h; omega)
  have e13 : P (tri a b c) = P (tri a c e) := by
    have h := hP a c ha hc hac
    rw [kP_perm p2, kP_cons, kP_cons, kP_cons, tb2_tri, tb2_tri, tb2_tri] at h
    have z := kP_le P (pr a c) D
    have z0 := cnm_off (x := a) (y := c) hD (Or.inl rfl)
    simp only [dab hab, dab hab.symm, dab hac, dab hac.symm, dab hae, dab hae.symm, dab hbc, dab hbc.symm, dab hbe, dab hbe.symm, dab hce, dab hce.symm, decide_true, Bool.or_false, Bool.false_or, Bool.or_true, Bool.true_or, Bool.and_true, Bool.and_false, Bool.true_and] at h
    generalize P (tri a b c) = u at h ⊢
    generalize P (tri a c e) = v at h ⊢
    cases u <;> cases v <;> first | rfl | (exfalso; simp at h; omega)
  -- if the corner was there twice, the one left is of their kind
  have hin : tri b c e ∈ D → P (tri b c e) = P (tri a b c) := by
    intro hm
    have hpm := tk_perm hm
    have h := hP b c hb hc hbc
    have hn := h1 b c hb hc hbc
    rw [cnm_perm p1, cnm_cons2, ← cnm_perm hpm, cnm_cons2] at hn
    rw [kP_perm p2, kP_cons, kP_cons, kP_cons, ← kP_perm hpm, kP_cons, ← e12, ← e13] at h
    have z := kP_le P (pr b c) (tk (tri b c e) D)
    rw [tb2_tri] at hn
    rw [tb2_tri, tb2_tri, tb2_tri, tb2_tri] at h
    simp only [dab hab, dab hab.symm, dab hac, dab hac.symm, dab hae, dab hae.symm, dab hbc, dab hbc.symm, dab hbe, dab hbe.symm, dab hce, dab hce.symm, decide_true, Bool.or_false, Bool.false_or, Bool.or_true, Bool.true_or, Bool.and_true, Bool.and_false, Bool.true_and, Bool.and_self] at h hn
    have : true.toNat = 1 := rfl
    generalize P (tri a b c) = u at h ⊢
    generalize P (tri b c e) = v at h ⊢
    cases u <;> cases v <;> first | rfl | (exfalso; simp at h; omega)
  obtain ⟨q, hq⟩ := hC (fun m => if m = tri b c e then P (tri a b c) else P m) (by
    intro x y hx hy hxy
    have h := hP x y hx hy hxy
    rw [kP_perm p2, kP_cons, kP_cons, kP_cons, ← e12, ← e13] at h
    rw [kP_perm p1, kP_cons]
    have eD : kP (fun m => if m = tri b c e then P (tri a b c) else P m) (pr x y) D = kP P (pr x y) D := by
      apply kP_congr
      intro m hm _
      show (if m = tri b c e then P (tri a b c) else P m) = P m
      by_cases hz : m = tri b c e
      · rw [if_pos hz, hz]; rw [hz] at hm; exact (hin hm).symm
      · rw [if_neg hz]
    rw [eD]
    simp only [if_true]
    generalize P (tri a b c) = q at h ⊢
    rcases stk' hab hac hae hbc hbe hce hxy with ⟨k0, k1, k2⟩ | ⟨_, _, k⟩
    · have z := kP_le P (pr x y) D
      have z0 := cnm_off hD k0
      rw [k1]
      simp
      omega
    · cases q
      · simp at h ⊢; exact h
      · simp only [Bool.true_and] at h ⊢; omega)
  have hq1 := hq _ (p1.mem_iff.mpr List.mem_cons_self)
  simp only [if_true] at hq1
  refine ⟨q, fun x hx => ?_⟩
  rcases List.mem_cons.mp (p2.mem_iff.mp hx) with rfl | hx
  · exact hq1
  rcases List.mem_cons.mp hx with rfl | hx
  · rw [← e12]; exact hq1
  rcases List.mem_cons.mp hx with rfl | hx
  · rw [← e13]; exact hq1
  have h := hq x (p1.mem_iff.mpr (List.mem_cons_of_mem _ hx))
  by_cases hz : x = tri b c e
  · rw [hz] at hx ⊢
    rw [hin hx]; exact hq1
  · have e3 : (if x = tri b c e then P (tri a b c) else P x) = P x := if_neg hz
    exact e3.symm.trans h
