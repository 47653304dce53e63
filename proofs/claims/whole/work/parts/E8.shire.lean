/-! a text is read and told: shire -/
/-- all that the model's readAll may write -/
def QNa (M M' : Mem) : Prop := ∀ k j, k ≠ 61 → k ≠ 62 → k ≠ 65 → k ≠ 69 → ¬ (k = 58 ∧ (pj j = true ∨ j = 1 ∨ j = 5)) → ri M' k j = ri M k j
theorem m_readAll {d L : Nat} {T : Nat → Nat} {M : Mem} {K : Mem → Prop} {res : Rs} (hT : TM M L T) (hO : TOk L T) (hR : ∀ d', RGs d' L T (tA T L 0) P0 res) (hK : ∀ M', QNa M M' → ri M' 58 1 = 0 → Me M' res → K M') : CV (d + 7) μX9_readAll [.ref 58] M K := by
  refine sg_X9_readAll_0 ?_
  intro M1 g1 M2 g2 M3 g3 M4 g4 M5 g5 M6 g6 M7 g7 M8 g8 M9 g9 M10 g10 M11 g11 M12 g12 M13 g13
  have z : ∀ j, ri M13 58 j = if j = 20 then 0 else if j = 24 then 0 else if j = 38 then 0 else if j = 37 then 0 else if j = 34 then 0 else if j = 33 then 0 else if j = 32 then 0 else if j = 31 then 0 else if j = 3 then -1 else if j = 2 then 0 else if j = 4 then 0 else if j = 1 then 0 else if j = 5 then ri M 58 1 else ri M 58 j := by
    intro j
    rw [g13, ri_wi, g12, ri_wi, g11, ri_wi, g10, ri_wi, g9, ri_wi, g8, ri_wi, g7, ri_wi, g6, ri_wi, g5, ri_wi, g4, ri_wi, g3, ri_wi, g2, ri_wi, g1, ri_wi]
    simp only [eq_self_iff_true, true_and]
  have z' : ∀ k j, k ≠ 58 → ri M13 k j = ri M k j := by
    intro k j hk
    rw [g13, ri_wi, g12, ri_wi, g11, ri_wi, g10, ri_wi, g9, ri_wi, g8, ri_wi, g7, ri_wi, g6, ri_wi, g5, ri_wi, g4, ri_wi, g3, ri_wi, g2, ri_wi, g1, ri_wi]
    simp only [hk, false_and, if_false]
  have loop : ∀ (f i : Nat) (Mk : Mem), f + i = 24 → (∀ k j, k ≠ 69 → ri Mk k j = ri M13 k j) → (∀ j, j < i → ri Mk 69 j = 0) → RV (d + 7) μX9_readAll 70 [(0, .ref 58), (1, .int (nI i))] [] Mk K := by
    intro f
    induction f with
    | zero =>
      intro i Mk hi e e69
      have : i = 24 := by omega
      subst this
      refine sg_X9_readAll_70 ?_
      rw [if_pos (by rw [l_24, nI_leI (by omega) (by omega)]; omega)]
      have tz : TZ Mk L T := ⟨by rw [e _ _ (by omega), z]; simp only [show ¬ 5 = 20 by omega, show ¬ 5 = 24 by omega, show ¬ 5 = 38 by omega, show ¬ 5 = 37 by omega, show ¬ 5 = 34 by omega, show ¬ 5 = 33 by omega, show ¬ 5 = 32 by omega, show ¬ 5 = 31 by omega, show ¬ 5 = 3 by omega, show ¬ 5 = 2 by omega, show ¬ 5 = 4 by omega, show ¬ 5 = 1 by omega, if_false, if_true]; exact hT.1, fun i hi => by rw [e _ _ (by omega), z' _ _ (by omega)]; exact hT.2 i hi⟩
      have f4 : ri Mk 58 4 = nI 0 := by rw [e _ _ (by omega), z]; rfl
      refine r_token (d := d + 5) (a := 0) tz hO f4 (Nat.zero_le _) (fun M' q c => ?_)
      have f0 : ri M' 58 2 = 0 := by rw [q.2.1, e _ _ (by omega), z]; rfl
      have f3 : ri M' 58 3 = -1 := by rw [q.2.2, e _ _ (by omega), z]; rfl
      have rs : RS M' L T (tA T L 0) := by
        left
        unfold tA
        by_cases h3 : tK T L 0 = 3
        · rw [if_pos h3]
          exact ⟨f0, rfl, by rw [c.1, h3]; rfl, c.2.1⟩
        · rw [if_neg h3]
          exact ⟨f0, c, Nat.zero_le _, h3, f3⟩
      have e' : ∀ j, j = 20 ∨ j = 24 ∨ j = 31 ∨ j = 32 ∨ j = 33 ∨ j = 34 ∨ j = 37 ∨ j = 38 → ri M' 58 j = 0 := by
        intro j hj
        rw [q.1.1 58 j (by omega), e _ _ (by omega), z]
        rcases hj with rfl | rfl | rfl | rfl | rfl | rfl | rfl | rfl <;> rfl
      have a69 : ∀ j, j < 24 → ri M' 69 j = 0 := fun j hj => by rw [q.1.1 69 j (by omega)]; exact e69 j hj
      have dm : DM M' P0 := ⟨⟨e' 31 (by omega), by decide, fun k hk => absurd hk (Nat.not_lt_zero _), fun l hl => (by cases hl)⟩, ⟨fun i hi => absurd hi (Nat.not_lt_zero _), a69 12 (by omega), a69 13 (by omega), fun j hj => a69 (14 + j) (by omega), a69 22 (by omega), a69 23 (by omega)⟩, e' 32 (by omega), e' 37 (by omega), e' 33 (by omega), e' 38 (by omega), e' 34 (by omega), e' 24 (by omega), e' 20 (by omega), fun q => (by cases q)⟩
      refine hR d M' K (tz.qt q.1) rs (fun _ => dm) (fun M'' qm me => hK M'' (fun k j k1 k2 k3 k4 k5 => ?_) ?_ me)
      · rw [qm.1 k j k1 k2 k3 k4 (fun q => k5 ⟨q.1, Or.inl q.2⟩), q.1.1 k j (fun q => k5 ⟨q.1, Or.inl (by rcases q.2 with rfl | rfl | rfl | rfl | rfl | rfl <;> rfl)⟩), e _ _ k4]
        by_cases hk : k = 58
        · subst hk
          have nj : ∀ n, (pj n = true ∨ n = 1 ∨ n = 5) → j ≠ n := fun n hn q => k5 ⟨rfl, by rw [q]; exact hn⟩
          rw [z, if_neg (nj 20 (Or.inl rfl)), if_neg (nj 24 (Or.inl rfl)), if_neg (nj 38 (Or.inl rfl)), if_neg (nj 37 (Or.inl rfl)), if_neg (nj 34 (Or.inl rfl)), if_neg (nj 33 (Or.inl rfl)), if_neg (nj 32 (Or.inl rfl)), if_neg (nj 31 (Or.inl rfl)), if_neg (nj 3 (Or.inl rfl)), if_neg (nj 2 (Or.inl rfl)), if_neg (nj 4 (Or.inl rfl)), if_neg (nj 1 (by omega)), if_neg (nj 5 (by omega))]
        · exact z' k j hk
      · rw [qm.1 58 1 (by omega) (by omega) (by omega) (by omega) (fun q => absurd q.2 (by decide)), q.1.1 58 1 (by omega), e _ _ (by omega), z]; rfl
    | succ f ih =>
      intro i Mk hi e e69
      refine sg_X9_readAll_70 ?_
      rw [if_neg (by rw [l_24, nI_leI (by omega) (by omega)]; omega)]
      refine ⟨n_in (by omega) (by decide), fun M2 g2 => ?_⟩
      rw [show nx (nI i) = i from nI_clamp (by omega)] at g2
      rw [nI_1]
      refine ih (i + 1) M2 (by omega) (fun k j hk => by rw [g2, ri_wi, if_neg (fun q => hk q.1)]; exact e k j hk) (fun j hj => ?_)
      rw [g2, ri_wi]
      by_cases hz : j = i
      · rw [if_pos ⟨rfl, hz⟩]
      · rw [if_neg (fun q => hz q.2)]; exact e69 j (by omega)
  exact loop 24 0 M13 rfl (fun _ _ _ => rfl) (fun j h => absurd h (Nat.not_lt_zero _))
