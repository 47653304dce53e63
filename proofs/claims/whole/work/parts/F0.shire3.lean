/-! shire, the class -/
/-- what is told is all that the class knows now -/
def XS (M : Mem) (t : Nat) (Q : Pd) : Prop := CX M t (fF Q) (fT Q) (pS Q) (pS Q) ∧ ri M (t + 7) 4 = nI (fU Q) ∧ HX M (pS Q) [] [] ∧ ri M 48 0 = nI 0 ∧ ri M 48 7 = 0 ∧ ri M 0 12 = 0 ∧ ri M 0 6 = 0 ∧ ri M 1 2 = 0 ∧ ri M 1 0 = 0 ∧ ri M 1 1 = -1
theorem scr_t {t k : Nat} (ht : t = 2 ∨ t = 15) (h1 : t ≤ k) (h2 : k ≤ t + 8) : scr k = false := by
  have : k = t ∨ k = t + 1 ∨ k = t + 2 ∨ k = t + 3 ∨ k = t + 4 ∨ k = t + 5 ∨ k = t + 6 ∨ k = t + 7 ∨ k = t + 8 := by omega
  rcases ht with rfl | rfl <;> rcases this with rfl | rfl | rfl | rfl | rfl | rfl | rfl | rfl | rfl <;> rfl
theorem x_shire {d L t t' : Nat} {T : Nat → Nat} {M : Mem} {K : Int32 → Mem → Prop} (ht : (t = 2 ∧ t' = 15) ∨ (t = 15 ∧ t' = 2)) (h1 : nx (ri M 0 1) = t) (h3 : nx (ri M 1 3) = t') (hT : TX M L T) (hO : TOk L T) (h0 : ∀ x M', (∀ d', RGs d' L T (tA T L 0) P0 (.inl x)) → (∀ k j, k ≠ 1 ∨ j = 3 → k < t' ∨ t' + 11 < k ∨ k = 1 → ri M' k j = ri M k j) → ri M' 1 2 = 0 → CF M' x.1 x.2 → K (-1) M') (hK : ∀ Q M', (∀ d', RGs d' L T (tA T L 0) P0 (.inr Q)) → PO Q → (∀ k j, 57 < k ∨ (k = 0 ∧ j = 10) → scr k = false → ¬ (k = 58 ∧ (j = 48 ∨ j = 49)) → ri M' k j = ri M k j) → nx (ri M' 1 3) = t → XS M' t' Q → K (nI (sn (pS Q))) M') : CI (d + 113) μX8_shire [.ref 0] M K := by
  have ht' : t' = 2 ∨ t' = 15 := by omega
  have ht0 : t = 2 ∨ t = 15 := by omega
  refine sg_X8_shire_0 (x_read (d := d) ht' h3 hT hO (fun M1 res q1 c1 hR => ?_))
  intro M2 g2
  have r2 : ∀ k j, ri M2 k j = if k = 1 ∧ j = 2 then 0 else ri M1 k j := by intro k j; rw [g2, ri_wi]
  cases res with
  | inl x =>
    obtain ⟨c1, c2, c3, c4, c5⟩ := c1
    have e0 : ri M2 1 0 = nI x.1 := by rw [r2, if_neg (by omega)]; exact c1
    rw [e0, if_neg (show ¬ nI x.1 = 0 from fun q => by have := nI_inj (b := 0) (by omega) (by omega) q; omega)]
    exact h0 x M2 hR (fun k j a b => by rw [r2, if_neg (by omega)]; exact q1.1 k j (by omega) b) (by rw [r2, if_pos ⟨rfl, rfl⟩]) ⟨e0, by rw [r2, if_neg (by omega)]; exact c2, by rw [r2, if_neg (by omega)]; exact c3, c4, c5⟩
  | inr Q =>
    obtain ⟨f0, f1, D, hP⟩ := c1
    obtain ⟨F1, F2, F3, F4, F5, F6⟩ := fF_ok hP
    rw [if_pos (show ri M2 1 0 = 0 by rw [r2, if_neg (by omega)]; exact f0)]
    refine ⟨t, by rw [r2, if_neg (by omega), q1.1 0 1 (by omega) (by omega)]; exact h1, (tell_kd ht0).1, t', by rw [r2, if_neg (by omega), q1.1 1 3 (by omega) (by omega)]; exact h3, (tell_kd ht').1, nI t', nI_clamp (by omega), fun M5 g5 => ⟨nI t, nI_clamp (by omega), fun M6 g6 => ?_⟩⟩
    have r6 : ∀ k j, ri M6 k j = if k = 1 ∧ j = 3 then nI t else if k = 0 ∧ j = 1 then nI t' else ri M2 k j := by intro k j; rw [g6, ri_wi, g5, ri_wi]
    have D6 : DX M6 t' Q := D.keep (fun k j a b => by rw [r6, if_neg (by omega), if_neg (by omega), r2, if_neg (by omega)]) (fun j => by rw [g6, g5, g2]; rfl)
    refine ⟨t', by rw [r6, if_neg (by omega), if_pos ⟨rfl, rfl⟩]; exact nI_clamp (by omega), (tell_kd ht').1, ?_⟩
    refine c_copyFrom (d := d + 111) (by decide +kernel) (tell_kd ht').2.2 (by omega) D6.2.1 (fun M8 s8 F8 => ?_)
    refine x_start (d := d + 110) (n := 0) F8 (fun M9 q9 F9 H9 => ?_)
    refine sg_X4_forget_0 ?_
    intro M10 g10 M11 g11 M12 g12 M13 g13
    have r13 : ∀ k j, ri M13 k j = if k = 0 ∧ j = 12 then 0 else if k = 0 ∧ j = 6 then 0 else if k = 48 ∧ j = 7 then 0 else if k = 48 ∧ j = 0 then 0 else ri M9 k j := by
      intro k j; rw [g13, ri_wi, g12, ri_wi, g11, ri_wi, g10, ri_wi]
    have o9 : ∀ k j, k ≠ 0 → k ≠ 48 → ri M13 k j = ri M9 k j := fun k j a b => by rw [r13, if_neg (by omega), if_neg (by omega), if_neg (by omega), if_neg (by omega)]
    have o : ∀ k j, scr k = false → k < 27 ∨ 57 < k → ¬ (k = 0 ∧ (j = 12 ∨ j = 6)) → ¬ (k = 58 ∧ (j = 48 ∨ j = 49)) → ri M13 k j = ri M6 k j := by
      intro k j a b c e
      rw [r13, if_neg (by omega), if_neg (by omega), if_neg (by omega), if_neg (by omega), q9.1 k j a (by omega) (by omega) (by omega) (by omega) (by omega) (by omega), s8.1 k (by omega) j]
    have hF : Fr M13 27 (pS Q) := F9.keepK (fun k hk j => o9 _ _ (by omega) (by omega))
    rw [show ri M13 27 0 = nI (sn (pS Q)) from hF.1.1]
    refine hK Q M13 hR hP (fun k j a b c => ?_) ?_ ⟨⟨?_, ht', ⟨F2, ?_, ?_, F3⟩, ?_, ?_, hF⟩, ?_, ?_, ?_, ?_, ?_, ?_, ?_, ?_, ?_⟩
    · rw [o k j b (by omega) (by omega) c, r6, if_neg (by omega), if_neg (by omega), r2, if_neg (by omega)]; exact q1.1 k j (by omega) (by omega)
    · rw [o 1 3 rfl (by omega) (by omega) (by omega), r6, if_pos ⟨rfl, rfl⟩]; exact nI_clamp (by omega)
    · rw [o 0 1 rfl (by omega) (by omega) (by omega), r6, if_neg (by omega), if_pos ⟨rfl, rfl⟩]; exact nI_clamp (by omega)
    · rw [o _ _ (scr_t ht' (by omega) (by omega)) (by omega) (by omega) (by omega)]; exact D6.2.2.2.2.2.2.2.1
    · intro i hi
      rw [o _ _ (scr_t ht' (by omega) (by omega)) (by omega) (by omega) (by omega)]; exact D6.2.2.2.2.2.2.2.2.2 i hi
    · rw [o _ _ (scr_t ht' (by omega) (by omega)) (by omega) (by omega) (by omega)]; exact D6.2.2.2.1
    · exact D6.2.1.keepK (fun k hk j => o _ _ (scr_t ht' (by omega) (by omega)) (by omega) (by omega) (by omega))
    · rw [o _ _ (scr_t ht' (by omega) (by omega)) (by omega) (by omega) (by omega)]; exact D6.2.2.2.2.2.2.2.2.1
    · exact H9.keepC (n := sn (pS Q)) ⟨by decide, fun T h => by rcases h with h | h <;> cases h⟩ hP.1.1 (fun j => o9 _ _ (by omega) (by omega)) (fun j => o9 _ _ (by omega) (by omega))
    · rw [r13, if_neg (by omega), if_neg (by omega), if_neg (by omega), if_pos ⟨rfl, rfl⟩]; rfl
    · rw [r13, if_neg (by omega), if_neg (by omega), if_pos ⟨rfl, rfl⟩]
    · rw [r13, if_pos ⟨rfl, rfl⟩]
    · rw [r13, if_neg (by omega), if_pos ⟨rfl, rfl⟩]
    · rw [o _ _ rfl (by omega) (by omega) (by omega), r6, if_neg (by omega), if_neg (by omega), r2, if_pos ⟨rfl, rfl⟩]
    · rw [o _ _ rfl (by omega) (by omega) (by omega), r6, if_neg (by omega), if_neg (by omega), r2, if_neg (by omega)]; exact f0
    · rw [o _ _ rfl (by omega) (by omega) (by omega), r6, if_neg (by omega), if_neg (by omega), r2, if_neg (by omega)]; exact f1
