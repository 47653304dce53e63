/-! goSeason -/
/-- a season with no straws, the seed as it was -/
def sea0 (S : Sh) (F : List Int32) : Sh :=
  let S1 := wlsS (sn S) (setZ S (szU S (gvS S F) (sn S))) (sn S)
  setY S1 (sy S1 + 1)
theorem r_goSeason {d : Nat} {M : Mem} {K : Mem → Prop} {G : Sh → Prop} (hG : Clo G) (hG2 : G2 G) {S : Sh} {F : List Int32} {straw : Nat} (hst : straw ≤ 100) (b : Bool) (hGS : G S) (hW : WfF F) (hA : Ar M 69 S) (hF : Rf M F) (h35 : ri M 58 35 = nI (sn S)) (h36 : ri M 58 36 = nI straw) (hK : ∀ M', Sq M M' → Ar M' 69 (if b then seaS S F straw else sea0 S F) → G (if b then seaS S F straw else sea0 S F) → K M') : CV (d + 5) μX9_goSeason [.ref 58, .int (bI b)] M K := by
  have hS := hG.1 S hGS
  have h8 := hS.1
  obtain ⟨-, -, h4⟩ := hG2 S hGS
  refine sg_X9_goSeason_0 ?_
  refine rs_1 (d := d + 2) (S := S) (F := F) hS h4 hW M (fun M1 s1 A1 F1 n1 q1 => ?_) (sn S) 0 M (by omega) Sq.rf hA hF h35 (fun q h => absurd h (Nat.not_lt_zero _))
  have e0 : setZ S (szU S (gvS S F) 0) = S := by
    show (sn S, sb S, sy S, sd S, sc S, szU S (gvS S F) 0) = S
    have : szU S (gvS S F) 0 = sz S := by funext j; unfold szU; rw [if_neg (Nat.not_lt_zero _)]
    rw [this]; rfl
  refine rs_2 (d := d + 2) (S := S) (F := F) (gv := gvS S F) hS M (fun M2 s2 A2 F2 n2 => ?_) (sn S) 0 M1 (by omega) s1 (by rw [e0]; exact A1) F1 n1 q1
  have G2' : G (setZ S (szU S (gvS S F) (sn S))) := by
    refine hG.2.2.2.2.1 S _ hGS (szU_le hS _ _) (fun j ht => ?_)
    unfold szU
    split
    · have hz := hS.2.2.2.2.2 j
      have : gvS S F j = 0 := by unfold gvS; rw [ht]; rfl
      rw [this, clS_same hz]
      exact nI_clamp (by omega)
    · rfl
  have hend := rs_3 (d := d) hG hG2 (n := sn S) (F := F) (x1 := bI b) (K := K) (SE := wlsS (sn S) (setZ S (szU S (gvS S F) (sn S))) (sn S)) M (fun M3 s3 A3 G3 F3 n3 => ?_) (sn S) (setZ S (szU S (gvS S F) (sn S))) M2 (Nat.le_refl _) rfl h8 rfl s2 A2 G2' F2 n2
  · rw [Nat.sub_self] at hend
    exact hend
  · have hS3 := hG.1 _ G3
    refine sg_X9_goSeason_89 ?_
    rw [n3, if_pos (by rw [nI_leI (by omega) (by omega)]; omega)]
    cases b with
    | false =>
      rw [if_pos (by decide)]
      intro M4 h4'
      rw [x_22, A3.2.2.2.2.1] at h4'
      refine hK M4 (s3.trans (by rw [h4']; exact Sa.wi.sq)) ?_ ?_
      · exact A3.setY hS3 h4'
      · exact hG.2.2.2.2.2.2 _ _ G3
    | true =>
      rw [if_neg (by decide)]
      refine r_dropStraw (d := d) hG hG2 hst G3 A3 ((s3.1 58 (by decide) (by decide) (by decide) (by decide) 36).trans h36) (fun M5 s5 A5 G5 => ?_)
      intro M6 h6
      rw [x_22, A5.2.2.2.2.1] at h6
      refine hK M6 ((s3.trans s5.sq).trans (by rw [h6]; exact Sa.wi.sq)) ?_ ?_
      · exact A5.setY (hG.1 _ G5) h6
      · exact hG.2.2.2.2.2.2 _ _ G5
/-- but for the seed, a season with no straws is one with the straw 0 -/
theorem seaS_0 (S : Sh) (F : List Int32) : setD (seaS S F 0) (sd S) = setD (sea0 S F) (sd S) := by
  have e : ∀ S1 : Sh, strS S1 0 = setD S1 ((sd S1 * 137 + 71) % 1000) := by
    intro S1
    unfold strS
    simp only
    rw [if_neg (fun z => absurd z.1 (Nat.not_lt_zero _))]
  unfold seaS sea0
  simp only
  rw [e]
  rfl
