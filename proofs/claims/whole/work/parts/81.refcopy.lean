/-! fill, keepAir, go -/
theorem x_24 : nx 24 = 24 := by decide
theorem Ar.copy {M M' : Mem} {a a' : Nat} {S : Sh} (hl : (sc S).length ≤ 12) (h : Ar M a S) (hc : ∀ j, j < 24 → ri M' a' j = ri M a j) : Ar M' a' S :=
  ⟨fun i hi => (hc i (by omega)).trans (h.1 i hi), (hc 12 (by decide)).trans h.2.1, (hc 13 (by decide)).trans h.2.2.1, fun j hj => (hc _ (by omega)).trans (h.2.2.2.1 j hj), (hc 22 (by decide)).trans h.2.2.2.2.1, (hc 23 (by decide)).trans h.2.2.2.2.2⟩
theorem r_fill {d : Nat} {M : Mem} {K : Mem → Prop} (hK : ∀ M', Sa M M' → (∀ j, j < 24 → ri M' 69 j = ri M 68 j) → K M') : CV d μX9_fill [.ref 58] M K := by
  refine sg_X9_fill_0 ?_
  have loop : ∀ (f i : Nat) (M1 : Mem), f + i = 24 → Sa M M1 → (∀ j, j < i → ri M1 69 j = ri M 68 j) → RV d μX9_fill 2 [(0, .ref 58), (1, .int (nI i))] [] M1 K := by
    intro f
    induction f with
    | zero =>
      intro i M1 hi hs hc
      have : i = 24 := by omega
      subst this
      refine sg_X9_fill_2 ?_
      rw [if_pos (by rw [l_24, nI_leI (by omega) (by omega)]; omega)]
      exact hK M1 hs hc
    | succ f ih =>
      intro i M1 hi hs hc
      refine sg_X9_fill_2 ?_
      rw [if_neg (by rw [l_24, nI_leI (by omega) (by omega)]; omega)]
      refine ⟨n_in (by omega) (by decide), n_in (by omega) (by decide), ?_⟩
      intro M2 h2
      rw [show nx (nI i) = i from nI_clamp (by omega), hs.1 68 (by decide)] at h2
      rw [nI_1]
      refine ih (i + 1) M2 (by omega) (hs.trans (by rw [h2]; exact Sa.wi)) (fun j hj => ?_)
      rw [h2, ri_wi]
      by_cases hz : j = i
      · rw [if_pos ⟨rfl, hz⟩, hz]
      · rw [if_neg (fun z => hz z.2)]; exact hc j (by omega)
  exact loop 24 0 M rfl Sa.rf (fun j h => absurd h (Nat.not_lt_zero _))
/-- only the row 'now' may change -/
def Sw (M M' : Mem) : Prop := (∀ k, k ≠ 68 → ∀ j, ri M' k j = ri M k j) ∧ ∀ k j, rl M' k j = rl M k j
theorem r_keepAir {d : Nat} {M : Mem} {K : Mem → Prop} (hK : ∀ M', Sw M M' → (∀ j, j < 24 → ri M' 68 j = ri M 69 j) → K M') : CV d μX9_keepAir [.ref 58] M K := by
  refine sg_X9_keepAir_0 ?_
  have loop : ∀ (f i : Nat) (M1 : Mem), f + i = 24 → Sw M M1 → (∀ j, j < i → ri M1 68 j = ri M 69 j) → RV d μX9_keepAir 2 [(0, .ref 58), (1, .int (nI i))] [] M1 K := by
    intro f
    induction f with
    | zero =>
      intro i M1 hi hs hc
      have : i = 24 := by omega
      subst this
      refine sg_X9_keepAir_2 ?_
      rw [if_pos (by rw [l_24, nI_leI (by omega) (by omega)]; omega)]
      exact hK M1 hs hc
    | succ f ih =>
      intro i M1 hi hs hc
      refine sg_X9_keepAir_2 ?_
      rw [if_neg (by rw [l_24, nI_leI (by omega) (by omega)]; omega)]
      refine ⟨n_in (by omega) (by decide), n_in (by omega) (by decide), ?_⟩
      intro M2 h2
      rw [show nx (nI i) = i from nI_clamp (by omega), hs.1 69 (by decide)] at h2
      rw [nI_1]
      refine ih (i + 1) M2 (by omega) ⟨fun k hk j => by rw [h2, ri_wi, if_neg (fun z => hk z.1)]; exact hs.1 k hk j, fun k j => by rw [h2]; exact hs.2 k j⟩ (fun j hj => ?_)
      rw [h2, ri_wi]
      by_cases hz : j = i
      · rw [if_pos ⟨rfl, hz⟩, hz]
      · rw [if_neg (fun z => hz z.2)]; exact hc j (by omega)
  exact loop 24 0 M rfl ⟨fun _ _ _ => rfl, fun _ _ => rfl⟩ (fun j h => absurd h (Nat.not_lt_zero _))
