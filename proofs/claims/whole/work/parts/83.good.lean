/-! good shires: walls with two corners, after a flip -/
theorem cnm_cons (b m : Nat) (L : List Nat) : cnm b (m :: L) = cnm b L + if m &&& b = b then 1 else 0 := by
  unfold cnm; rw [List.countP_cons]; simp
theorem cnm_perm {b : Nat} {X Y : List Nat} (h : X.Perm Y) : cnm b X = cnm b Y := h.countP_eq _
theorem tri_pr {u v w x y : Nat} : (tri u v w &&& pr x y = pr x y) ↔ ((u = x ∨ v = x ∨ w = x) ∧ (u = y ∨ v = y ∨ w = y)) := by
  rw [and_pr, tri_tb, tri_tb]
  simp [or_assoc]
theorem N1_flip {C C' D : List Nat} {a b c e : Nat} (h1 : N1 C) (hab : a ≠ b) (hac : a ≠ c) (hae : a ≠ e) (hbc : b ≠ c) (hbe : b ≠ e) (hce : c ≠ e) (hc : c < 8) (he : e < 8) (p1 : C.Perm (tri a b c :: tri a b e :: D)) (p2 : C'.Perm (tri b c e :: tri a c e :: D)) (hcd : cnm (pr c e) C = 0) (hab2 : cnm (pr a b) C = 2) : N1 C' := by
  intro x y hx hy hxy
  have h := h1 x y hx hy hxy
  rw [cnm_perm p1, cnm_cons, cnm_cons] at h
  rw [cnm_perm p2, cnm_cons, cnm_cons]
  rw [cnm_perm p1, cnm_cons, cnm_cons] at hcd hab2
  have eab : ∀ u v : Nat, (u = a ∧ v = b) ∨ (u = b ∧ v = a) → pr u v = pr a b := by
    rintro u v (⟨rfl, rfl⟩ | ⟨rfl, rfl⟩)
    · rfl
    · exact pr_comm _ _
  have ece : ∀ u v : Nat, (u = c ∧ v = e) ∨ (u = e ∧ v = c) → pr u v = pr c e := by
    rintro u v (⟨rfl, rfl⟩ | ⟨rfl, rfl⟩)
    · rfl
    · exact pr_comm _ _
  simp only [tri_pr] at h hcd hab2 ⊢
  by_cases q1 : (x = a ∧ y = b) ∨ (x = b ∧ y = a)
  · have eq := eab x y q1
    rw [eq] at h ⊢
    rw [if_pos (by simp), if_pos (by simp)] at hab2
    rw [if_neg (by omega), if_neg (by omega)]
    omega
  · by_cases q2 : (x = c ∧ y = e) ∨ (x = e ∧ y = c)
    · have eq := ece x y q2
      rw [eq] at h ⊢
      rw [if_neg (by omega), if_neg (by omega)] at hcd
      rw [if_pos (by omega), if_pos (by omega)]
      omega
    · -- all else: as many come as go
      have key : (if (b = x ∨ c = x ∨ e = x) ∧ (b = y ∨ c = y ∨ e = y) then 1 else 0) + (if (a = x ∨ c = x ∨ e = x) ∧ (a = y ∨ c = y ∨ e = y) then 1 else 0) = (if (a = x ∨ b = x ∨ c = x) ∧ (a = y ∨ b = y ∨ c = y) then 1 else 0) + (if (a = x ∨ b = x ∨ e = x) ∧ (a = y ∨ b = y ∨ e = y) then 1 else 0) := by
        split <;> split <;> split <;> split <;> omega
      omega
