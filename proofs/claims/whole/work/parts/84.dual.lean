/-! good shires: corners hang together: a kind of corners that has an even number at each wall is none or all -/
def kP (P : Nat → Bool) (b : Nat) (C : List Nat) : Nat := C.countP (fun m => P m && decide (m &&& b = b))
def EV (P : Nat → Bool) (C : List Nat) : Prop := ∀ u v, u < 8 → v < 8 → u ≠ v → kP P (pr u v) C % 2 = 0
def DC (C : List Nat) : Prop := ∀ P : Nat → Bool, EV P C → ∃ q, ∀ x ∈ C, P x = q
def tb2 (m x y : Nat) : Bool := m.testBit x && m.testBit y
theorem dec_tb2 (m x y : Nat) : decide (m &&& pr x y = pr x y) = tb2 m x y := by
  rw [Bool.eq_iff_iff, decide_eq_true_iff, and_pr, tb2, Bool.and_eq_true]
theorem kP_cons (P : Nat → Bool) (x y m : Nat) (L : List Nat) : kP P (pr x y) (m :: L) = kP P (pr x y) L + (P m && tb2 m x y).toNat := by
  unfold kP
  rw [List.countP_cons, dec_tb2]
  cases (P m && tb2 m x y) <;> rfl
theorem cnm_cons2 (x y m : Nat) (L : List Nat) : cnm (pr x y) (m :: L) = cnm (pr x y) L + (tb2 m x y).toNat := by
  unfold cnm
  rw [List.countP_cons, dec_tb2]
  cases (tb2 m x y) <;> rfl
theorem kP_perm {P : Nat → Bool} {b : Nat} {X Y : List Nat} (h : X.Perm Y) : kP P b X = kP P b Y := h.countP_eq _
theorem kP_congr {P P' : Nat → Bool} {b : Nat} {L : List Nat} (h : ∀ m ∈ L, m &&& b = b → P m = P' m) : kP P b L = kP P' b L := by
  unfold kP
  apply List.countP_congr
  intro m hm
  by_cases hb : m &&& b = b
  · rw [h m hm hb]
  · simp [hb]
theorem kP_le (P : Nat → Bool) (b : Nat) (L : List Nat) : kP P b L ≤ cnm b L := by
  unfold kP cnm
  apply List.countP_mono_left
  intro m _ h
  rw [Bool.and_eq_true] at h
  exact h.2
theorem cnm_none {b : Nat} {L : List Nat} (h : cnm b L = 0) : ∀ m ∈ L, ¬ (m &&& b = b) := by
  intro m hm hb
  have := List.countP_eq_zero.mp h m hm
  simp [hb] at this
theorem DC_perm {X Y : List Nat} (h : X.Perm Y) (hD : DC X) : DC Y := by
  intro P hP
  obtain ⟨q, hq⟩ := hD P (fun u v a b c => by rw [kP_perm h]; exact hP u v a b c)
  exact ⟨q, fun x hx => hq x (h.mem_iff.mpr hx)⟩
def oh (p q r s : Bool) : Bool := !(p && q) && !(p && r) && !(p && s) && !(q && r) && !(q && s) && !(r && s)
def nb (p q r s p' q' r' s' : Bool) : Bool := !(p && p') && !(q && q') && !(r && r') && !(s && s')
theorem oh_of {a b c e : Nat} (hab : a ≠ b) (hac : a ≠ c) (hae : a ≠ e) (hbc : b ≠ c) (hbe : b ≠ e) (hce : c ≠ e) (x : Nat) : oh (decide (a = x)) (decide (b = x)) (decide (c = x)) (decide (e = x)) = true := by
  by_cases h1 : a = x <;> by_cases h2 : b = x <;> by_cases h3 : c = x <;> by_cases h4 : e = x <;> first | (exfalso; omega) | simp [oh, h1, h2, h3, h4]
theorem nb_of {a b c e x y : Nat} (h : x ≠ y) : nb (decide (a = x)) (decide (b = x)) (decide (c = x)) (decide (e = x)) (decide (a = y)) (decide (b = y)) (decide (c = y)) (decide (e = y)) = true := by
  have : ∀ u : Nat, (!(decide (u = x) && decide (u = y))) = true := by
    intro u
    by_cases h1 : u = x
    · have : u ≠ y := by omega
      simp [this]
    · simp [h1]
  unfold nb
  rw [this, this, this, this]
  rfl
theorem tb2_tri (a b c x y : Nat) : tb2 (tri a b c) x y = ((decide (a = x) || decide (b = x) || decide (c = x)) && (decide (a = y) || decide (b = y) || decide (c = y))) := by
  unfold tb2; rw [tri_tb, tri_tb]
/-- at a flip: abc, abe go, bce, ace come -/
theorem flk : ∀ xa xb xc xe ya yb yc ye : Bool, oh xa xb xc xe = true → oh ya yb yc ye = true → nb xa xb xc xe ya yb yc ye = true →
    ((((xa && yb) || (xb && ya)) = true ∧ ((xa || xb || xc) && (ya || yb || yc)) = true ∧ ((xa || xb || xe) && (ya || yb || ye)) = true ∧ ((xb || xc || xe) && (yb || yc || ye)) = false ∧ ((xa || xc || xe) && (ya || yc || ye)) = false) ∨
     (((xc && ye) || (xe && yc)) = true ∧ ((xa || xb || xc) && (ya || yb || yc)) = false ∧ ((xa || xb || xe) && (ya || yb || ye)) = false ∧ ((xb || xc || xe) && (yb || yc || ye)) = true ∧ ((xa || xc || xe) && (ya || yc || ye)) = true) ∨
     (((xa || xb || xc) && (ya || yb || yc)).toNat + ((xa || xb || xe) && (ya || yb || ye)).toNat = ((xb || xc || xe) && (yb || yc || ye)).toNat + ((xa || xc || xe) && (ya || yc || ye)).toNat)) := by decide +kernel
theorem flk' {a b c e x y : Nat} (hab : a ≠ b) (hac : a ≠ c) (hae : a ≠ e) (hbc : b ≠ c) (hbe : b ≠ e) (hce : c ≠ e) (hxy : x ≠ y) :
    ((pr x y = pr a b ∧ tb2 (tri a b c) x y = true ∧ tb2 (tri a b e) x y = true ∧ tb2 (tri b c e) x y = false ∧ tb2 (tri a c e) x y = false) ∨
     (pr x y = pr c e ∧ tb2 (tri a b c) x y = false ∧ tb2 (tri a b e) x y = false ∧ tb2 (tri b c e) x y = true ∧ tb2 (tri a c e) x y = true) ∨
     ((tb2 (tri a b c) x y).toNat + (tb2 (tri a b e) x y).toNat = (tb2 (tri b c e) x y).toNat + (tb2 (tri a c e) x y).toNat)) := by
  have h := flk _ _ _ _ _ _ _ _ (oh_of hab hac hae hbc hbe hce x) (oh_of hab hac hae hbc hbe hce y) (nb_of (a := a) (b := b) (c := c) (e := e) hxy)
  rw [tb2_tri, tb2_tri, tb2_tri, tb2_tri]
  have e2 : ∀ u v : Nat, ((decide (u = x) && decide (v = y)) || (decide (v = x) && decide (u = y))) = true → pr x y = pr u v := by
    intro u v hh
    rw [Bool.or_eq_true, Bool.and_eq_true, Bool.and_eq_true, decide_eq_true_iff, decide_eq_true_iff, decide_eq_true_iff, decide_eq_true_iff] at hh
    rcases hh with ⟨rfl, rfl⟩ | ⟨rfl, rfl⟩
    · rfl
    · exact pr_comm _ _
  rcases h with h | h | h
  · exact Or.inl ⟨e2 a b h.1, h.2⟩
  · exact Or.inr (Or.inl ⟨e2 c e h.1, h.2⟩)
  · exact Or.inr (Or.inr h)
theorem toNat_le (b : Bool) : b.toNat ≤ 1 := by cases b <;> decide
theorem DC_flip {C C' D : List Nat} {a b c e : Nat} (hD : DC C) (ha : a < 8) (hb : b < 8) (hc : c < 8) (he : e < 8) (hab : a ≠ b) (hac : a ≠ c) (hae : a ≠ e) (hbc : b ≠ c) (hbe : b ≠ e) (hce : c ≠ e) (p1 : C.Perm (tri a b c :: tri a b e :: D)) (p2 : C'.Perm (tri b c e :: tri a c e :: D)) (hcd : cnm (pr c e) C = 0) (hab2 : cnm (pr a b) C = 2) : DC C' := by
  intro P hP
  have i0 : tb2 (tri a b c) a b = true := by rw [tb2_tri]; simp
  have i1 : tb2 (tri a b e) a b = true := by rw [tb2_tri]; simp
  have j0 : tb2 (tri b c e) c e = true := by rw [tb2_tri]; simp
  have j1 : tb2 (tri a c e) c e = true := by rw [tb2_tri]; simp
  rw [cnm_perm p1, cnm_cons2, cnm_cons2, i0, i1] at hab2
  rw [cnm_perm p1, cnm_cons2, cnm_cons2] at hcd
  have hDab : cnm (pr a b) D = 0 := by
    have : true.toNat = 1 := rfl
    omega
  have hDce : cnm (pr c e) D = 0 := by omega
  -- ace and bce are alike
  have eq1 : P (tri b c e) = P (tri a c e) := by
    have h := hP c e hc he hce
    rw [kP_perm p2, kP_cons, kP_cons, j0, j1] at h
    have z := kP_le P (pr c e) D
    cases q1 : P (tri b c e) <;> cases q2 : P (tri a c e) <;> first | rfl | (exfalso; rw [q1, q2] at h; simp at h; omega)
  obtain ⟨q, hq⟩ := hD (fun m => if m = tri a b c ∨ m = tri a b e then P (tri a c e) else P m) (by
    intro x y hx hy hxy
    have h := hP x y hx hy hxy
    rw [kP_perm p2, kP_cons, kP_cons] at h
    rw [kP_perm p1, kP_cons, kP_cons]
    have eD : kP (fun m => if m = tri a b c ∨ m = tri a b e then P (tri a c e) else P m) (pr x y) D = kP P (pr x y) D := by
      apply kP_congr
      intro m hm _
      have hn := cnm_none hDab m hm
      show (if m = tri a b c ∨ m = tri a b e then P (tri a c e) else P m) = P m
      rw [if_neg]
      rintro (rfl | rfl)
      · exact hn (and_pr.mpr (by rw [tb2, Bool.and_eq_true] at i0; exact i0))
      · exact hn (and_pr.mpr (by rw [tb2, Bool.and_eq_true] at i1; exact i1))
    rw [eD]
    simp only [true_or, or_true, if_true]
    rw [eq1] at h
    rcases flk' hab hac hae hbc hbe hce hxy with ⟨k0, k1, k2, k3, k4⟩ | ⟨k0, k1, k2, k3, k4⟩ | k
    · rw [k1, k2]
      have z := kP_le P (pr x y) D
      rw [k0] at z ⊢
      cases P (tri a c e) <;> simp <;> omega
    · rw [k1, k2]
      have z := kP_le P (pr x y) D
      rw [k0] at z ⊢
      cases P (tri a c e) <;> simp <;> omega
    · generalize P (tri a c e) = q at h ⊢
      cases q
      · simp at h ⊢; exact h
      · simp only [Bool.true_and] at h ⊢; omega)
  have hm1 : tri a b c ∈ C := p1.mem_iff.mpr List.mem_cons_self
  have hq1 := hq _ hm1
  simp only [true_or, if_true] at hq1
  refine ⟨q, fun x hx => ?_⟩
  have hx := p2.mem_iff.mp hx
  rcases List.mem_cons.mp hx with rfl | hx
  · rw [eq1]; exact hq1
  rcases List.mem_cons.mp hx with rfl | hx
  · exact hq1
  have h := hq x (p1.mem_iff.mpr (List.mem_cons_of_mem _ (List.mem_cons_of_mem _ hx)))
  have hn := cnm_none hDab x hx
  have e3 : (if x = tri a b c ∨ x = tri a b e then P (tri a c e) else P x) = P x := by
    rw [if_neg]
    rintro (rfl | rfl)
    · exact hn (and_pr.mpr (by rw [tb2, Bool.and_eq_true] at i0; exact i0))
    · exact hn (and_pr.mpr (by rw [tb2, Bool.and_eq_true] at i1; exact i1))
  exact e3.symm.trans h
