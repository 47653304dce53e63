/-! the lines, the model -/
def pj (j : Nat) : Bool := [2, 3, 4, 6, 7, 8, 17, 19, 20, 22, 23, 24, 31, 32, 33, 34, 37, 38].contains j
/-- all that the model's reading may write -/
def QM (M M' : Mem) : Prop := (∀ k j, k ≠ 61 → k ≠ 62 → k ≠ 65 → k ≠ 69 → ¬ (k = 58 ∧ pj j = true) → ri M' k j = ri M k j) ∧ ∀ k j, ¬ (k = 58 ∧ j = 9) → k ≠ 60 → rl M' k j = rl M k j
theorem QM.rf {M : Mem} : QM M M := ⟨fun _ _ _ _ _ _ _ => rfl, fun _ _ _ _ => rfl⟩
theorem QM.trans {M M' M'' : Mem} (h : QM M M') (h2 : QM M' M'') : QM M M'' := ⟨fun k j a b c e f => (h2.1 k j a b c e f).trans (h.1 k j a b c e f), fun k j a b => (h2.2 k j a b).trans (h.2 k j a b)⟩
theorem QTm.m {M M' : Mem} (h : QTm M M') : QM M M' := ⟨fun k j _ _ _ _ f => h.1 k j (fun q => f ⟨q.1, by rcases q.2 with rfl | rfl | rfl | rfl | rfl | rfl <;> rfl⟩), fun k j a _ => h.2 k j a⟩
theorem qm_w {M : Mem} {j : Nat} {x : Int32} (h : pj j = true) : QM M (wi M 58 j x) := ⟨fun k i _ _ _ _ f => by rw [ri_wi, if_neg (fun q => f ⟨q.1, by rw [q.2]; exact h⟩)], fun _ _ _ _ => rfl⟩
theorem qm_c {M : Mem} {k j : Nat} {x : Int32} (h : k = 61 ∨ k = 62 ∨ k = 65 ∨ k = 69) : QM M (wi M k j x) := ⟨fun a b _ _ _ _ _ => by rw [ri_wi, if_neg (by omega)], fun _ _ _ _ => rfl⟩
theorem Sa.m {M M' : Mem} (h : Sa M M') : QM M M' := ⟨fun k j _ _ _ a _ => h.1 k a j, fun k j _ _ => h.2 k j⟩
theorem TZ.qm {M M' : Mem} {L : Nat} {T : Nat → Nat} (h : TZ M L T) (q : QM M M') : TZ M' L T := ⟨by rw [q.1 58 5 (by omega) (by omega) (by omega) (by omega) (fun z => absurd z.2 (by decide))]; exact h.1, fun i hi => by rw [q.1 59 i (by omega) (by omega) (by omega) (by omega) (by omega)]; exact h.2 i hi⟩
def DM (M : Mem) (P : Pd) : Prop := NM M (pN P) ∧ Ar M 69 (setD (pS P) 0) ∧ ri M 58 32 = nI (pL P) ∧ ri M 58 37 = bI (pT P).isSome ∧ ri M 58 33 = nI ((pT P).getD 0) ∧ ri M 58 38 = bI (pD P).isSome ∧ ri M 58 34 = nI ((pD P).getD 0) ∧ ri M 58 24 = bI (pG P).isSome ∧ ri M 58 20 = nI ((pG P).getD ([], 0)).2 ∧ ((pG P).isSome = true → ri M 58 17 = nI ((pG P).getD ([], 0)).1.length ∧ ∀ i, i < ((pG P).getD ([], 0)).1.length → encAt (ri M 61 i) (ri M 62 i) ((((pG P).getD ([], 0)).1)[i]?.getD 0))
theorem Ar.keepA {M M' : Mem} {a : Nat} {S : Sh} (h : Ar M a S) (e : ∀ j, ri M' a j = ri M a j) : Ar M' a S := ⟨fun i hi => by rw [e]; exact h.1 i hi, by rw [e]; exact h.2.1, by rw [e]; exact h.2.2.1, fun j hj => by rw [e]; exact h.2.2.2.1 j hj, by rw [e]; exact h.2.2.2.2.1, by rw [e]; exact h.2.2.2.2.2⟩
theorem DM.keep {M M' : Mem} {P : Pd} (h : DM M P) (e69 : ∀ j, ri M' 69 j = ri M 69 j) (e61 : ∀ j, ri M' 61 j = ri M 61 j) (e62 : ∀ j, ri M' 62 j = ri M 62 j) (e58 : ∀ j, j = 17 ∨ j = 20 ∨ j = 24 ∨ j = 31 ∨ j = 32 ∨ j = 33 ∨ j = 34 ∨ j = 37 ∨ j = 38 → ri M' 58 j = ri M 58 j) (el : ∀ j, rl M' 60 j = rl M 60 j) : DM M' P := by
  obtain ⟨h1, h2, h3, h4, h5, h6, h7, h8, h9, h10⟩ := h
  exact ⟨⟨by rw [e58 31 (by omega)]; exact h1.1, h1.2.1, fun k hk => by rw [el]; exact h1.2.2.1 k hk, h1.2.2.2⟩, h2.keepA e69, by rw [e58 32 (by omega)]; exact h3, by rw [e58 37 (by omega)]; exact h4, by rw [e58 33 (by omega)]; exact h5, by rw [e58 38 (by omega)]; exact h6, by rw [e58 34 (by omega)]; exact h7, by rw [e58 24 (by omega)]; exact h8, by rw [e58 20 (by omega)]; exact h9, fun q => ⟨by rw [e58 17 (by omega)]; exact (h10 q).1, fun i hi => by rw [e61, e62]; exact (h10 q).2 i hi⟩⟩
theorem DM.qt {M M' : Mem} {P : Pd} (h : DM M P) (q : QTm M M') : DM M' P := h.keep (fun j => q.1 _ _ (by omega)) (fun j => q.1 _ _ (by omega)) (fun j => q.1 _ _ (by omega)) (fun j hj => q.1 _ _ (by omega)) (fun j => q.2 _ _ (by omega))
theorem isO_ne {T : Nat → Nat} {L w v : Nat} {σ : Rdg} (hw : w < 14) (hv : v < 14) (hne : w ≠ v) (h : isO T L w σ = true) : isO T L v σ = false := by
  unfold isO at h ⊢
  rw [Bool.and_eq_true, decide_eq_true_iff] at h
  rw [h.1, h.2, decide_eq_false (fun q => hne (own_inj w hw v hv q))]; rfl
theorem r_158 {d L : Nat} {T : Nat → Nat} {M : Mem} {K : Mem → Prop} {σ : Rdg} (hT : TZ M L T) (hO : TOk L T) (h : RS M L T σ) (hK : ∀ M', QTm M M' → RS M' L T (tsS T L 59 σ) → K M') : RV (d + 2) μX9_readLine 158 [(0, .ref 58)] [] M K := by
  refine sg_X9_readLine_158 ?_
  rcases h with h | ⟨x, hx, h⟩
  · have hk : ri M 58 6 = 59 ↔ isK T L 59 σ = true := h.k (k := 59) (by omega) (by omega)
    rw [if_pos h.1]
    unfold tsS at hK
    by_cases hc : isK T L 59 σ = true
    · rw [if_pos (hk.mpr hc), if_pos h.1]
      rw [if_pos hc] at hK
      cases σ with
      | inl a => exact r_tok hT hO h (fun M' q c => hK M' q (Or.inl c))
      | inr x => cases hc
    · rw [if_neg (fun q => hc (hk.mp q))]
      rw [if_neg hc] at hK
      refine r_wrong (f := 2) (by omega) h (fun M1 q1 c1 => ?_)
      rw [if_neg c1.ne]
      exact hK M1 q1 (Or.inr ⟨_, rfl, c1⟩)
  · subst hx
    rw [if_neg h.ne, if_neg h.ne]
    exact hK M QTm.rf (Or.inr ⟨x, rfl, h⟩)
theorem r_158F {d : Nat} {M : Mem} {K : Mem → Prop} {x : Nat × Nat} (h : RF M x) (hK : K M) : RV (d + 2) μX9_readLine 158 [(0, .ref 58)] [] M K := by
  refine sg_X9_readLine_158 ?_
  rw [if_neg h.ne, if_neg h.ne]; exact hK
section Skip
variable {d L : Nat} {T : Nat → Nat} {M : Mem} {K : Mem → Prop} {σ : Rdg} {P : Pd}
theorem rl_26 (h : RN M L T σ) (hD : DM M P) (hs : isO T L 0 σ = false ∨ 8 ≤ (pN P).length) (hk : RV (d + 1) μX9_readLine 26 [(0, .ref 58)] [] M K) : CV (d + 1) μX9_readLine [.ref 58] M K := by
  refine sg_X9_readLine_0 (r_isWord (w := 0) (by omega) ow_lord h ?_)
  have h8 := hD.1.2.1
  rcases hs with hs | hs
  · rw [hs, if_pos (by decide)]; exact hk
  · rw [hD.1.1, if_pos (show (8 : Int32) ≤ nI (pN P).length by rw [show (8 : Int32) = nI 8 from rfl, nI_leI (by omega) (by omega)]; exact hs)]
    split
    · exact hk
    · exact hk
theorem rl_52 (h : RN M L T σ) (hD : DM M P) (h12 : pL P ≤ 12) (hs : isO T L 1 σ = false ∨ 12 ≤ pL P) (hk : RV (d + 1) μX9_readLine 52 [(0, .ref 58)] [] M K) : RV (d + 1) μX9_readLine 26 [(0, .ref 58)] [] M K := by
  refine sg_X9_readLine_26 (r_isWord (w := 1) (by omega) ow_flip h ?_)
  rcases hs with hs | hs
  · rw [hs, if_pos (by decide)]; exact hk
  · rw [hD.2.2.1, if_pos (show (12 : Int32) ≤ nI (pL P) by rw [show (12 : Int32) = nI 12 from rfl, nI_leI (by omega) (by omega)]; exact hs)]
    split
    · exact hk
    · exact hk
theorem rl_76 (h : RN M L T σ) (hD : DM M P) (hs : isO T L 2 σ = false ∨ (pG P).isSome = true) (hk : RV (d + 1) μX9_readLine 76 [(0, .ref 58)] [] M K) : RV (d + 1) μX9_readLine 52 [(0, .ref 58)] [] M K := by
  refine sg_X9_readLine_52 (r_isWord (w := 2) (by omega) ow_grows h ?_)
  rcases hs with hs | hs
  · rw [hs, if_pos (by decide)]; exact hk
  · rw [hD.2.2.2.2.2.2.2.1, if_neg (show ¬ bI (pG P).isSome = 0 from bI_ne hs)]
    split
    · exact hk
    · exact hk
theorem rl_114 (h : RN M L T σ) (hD : DM M P) (hs : isO T L 3 σ = false ∨ (pT P).isSome = true) (hk : RV (d + 1) μX9_readLine 114 [(0, .ref 58)] [] M K) : RV (d + 1) μX9_readLine 76 [(0, .ref 58)] [] M K := by
  refine sg_X9_readLine_76 (r_isWord (w := 3) (by omega) ow_straw h ?_)
  rcases hs with hs | hs
  · rw [hs, if_pos (by decide)]; exact hk
  · rw [hD.2.2.2.1, if_neg (show ¬ bI (pT P).isSome = 0 from bI_ne hs)]
    split
    · exact hk
    · exact hk
/-- no line: a fault -/
theorem rl_bad (hT : TZ M L T) (hO : TOk L T) (h : RN M L T σ) (hD : DM M P) (hs : isO T L 4 σ = false ∨ (pD P).isSome = true) (hK : ∀ M', QTm M M' → RF M' (blP T L 2 σ) → K M') : RV (d + 2) μX9_readLine 114 [(0, .ref 58)] [] M K := by
  refine sg_X9_readLine_114 (r_isWord (w := 4) (by omega) ow_draw h ?_)
  have go : CV (d + 1) μX9_wrong [.ref 58, .int 2] M (fun M3 => RV (d + 2) μX9_readLine 158 [(0, .ref 58)] [] M3 K) := by
    refine r_wrong (f := 2) (by omega) h (fun M1 q1 c1 => ?_)
    exact r_158F c1 (hK M1 q1 c1)
  rcases hs with hs | hs
  · rw [hs, if_pos (by decide)]; exact go
  · rw [hD.2.2.2.2.2.1, if_neg (show ¬ bI (pD P).isSome = 0 from bI_ne hs)]
    split
    · exact go
    · exact go
end Skip
theorem bI_f : bI false = 0 := rfl
theorem RN.wi {M : Mem} {L : Nat} {T : Nat → Nat} {σ : Rdg} (h : RN M L T σ) {k j : Nat} {x : Int32} (hk : k ≠ 58 ∨ (j ≠ 2 ∧ j ≠ 3 ∧ j ≠ 4 ∧ j ≠ 6 ∧ j ≠ 7 ∧ j ≠ 8)) : RN (wi M k j x) L T σ := h.keep (fun i hi => by rw [ri_wi, if_neg (by omega)]) rfl
theorem RF.wi {M : Mem} {x : Nat × Nat} (h : RF M x) {k j : Nat} {y : Int32} (hk : k ≠ 58 ∨ (j ≠ 2 ∧ j ≠ 3)) : RF (wi M k j y) x := h.keep (by rw [ri_wi, if_neg (by omega)]) (by rw [ri_wi, if_neg (by omega)])
theorem RS.wi {M : Mem} {L : Nat} {T : Nat → Nat} {σ : Rdg} (h : RS M L T σ) {k j : Nat} {x : Int32} (hk : k ≠ 58 ∨ (j ≠ 2 ∧ j ≠ 3 ∧ j ≠ 4 ∧ j ≠ 6 ∧ j ≠ 7 ∧ j ≠ 8)) : RS (wi M k j x) L T σ := h.keep (fun i hi => by rw [ri_wi, if_neg (by omega)]) rfl
theorem r_lineStraw {d L a : Nat} {T : Nat → Nat} {M : Mem} {K : Mem → Prop} {P : Pd} (hT : TZ M L T) (hO : TOk L T) (h : RN M L T (.inl a)) (hD : DM M P) (hP : PO P) (ho : isO T L 3 (.inl a) = true) (hs : (pT P).isSome = false) (hK : ∀ M', QM M M' → RS M' L T (stS T L P (.inl a)) → ((∃ b, stS T L P (.inl a) = .inl b) → DM M' (stP T L P (.inl a))) → K M') : CV (d + 4) μX9_readLine [.ref 58] M K := by
  refine rl_26 h hD (Or.inl (isO_ne (by omega) (by omega) (by omega) ho)) (rl_52 h hD hP.2.2.2.2.2.1 (Or.inl (isO_ne (by omega) (by omega) (by omega) ho)) (rl_76 h hD (Or.inl (isO_ne (by omega) (by omega) (by omega) ho)) ?_))
  refine sg_X9_readLine_76 (r_isWord (w := 3) (by omega) ow_straw h ?_)
  rw [ho, if_neg (by decide), hD.2.2.2.1, hs, if_pos (by decide)]
  intro M1 g1
  have q1 : QM M M1 := by rw [g1]; exact qm_w rfl
  have hw : twS T L 3 (.inl a) = nxt T L (.inl a) := by unfold twS; rw [if_pos ho]
  refine r_told (w := 3) (most := 100) (by omega) ow_straw (by omega) (hT.qm q1) hO (Or.inl (show RN M1 L T (.inl a) by rw [g1]; exact h.wi (by omega))) (fun r M2 q2 c2 => ?_)
  rw [hw] at c2
  intro M3 g3
  have q3 : QM M M3 := (q1.trans q2.m).trans (by rw [g3]; exact qm_w rfl)
  have es : stS T L P (.inl a) = tsS T L 59 (tnS T L 100 (nxt T L (.inl a))) := by unfold stS; rw [hs, if_neg (by decide)]
  rw [es] at hK
  refine r_158 (hT.qm q3) hO (show RS M3 L T _ by rw [g3]; exact c2.rs.wi (by omega)) (fun M4 q4 c4 => hK M4 (q3.trans q4.m) c4 (fun ⟨b, hb⟩ => ?_))
  obtain ⟨b1, hb1⟩ := tsS_in hb
  have hr : r = nI (tnV T L 100 (nxt T L (.inl a))) := by
    rcases c2 with c2 | ⟨x, hx, _⟩
    · exact c2.2.2
    · rw [hx] at hb1; cases hb1
  refine DM.qt ?_ q4
  obtain ⟨d1, d2, d3, d4, d5, d6, d7, d8, d9, d10⟩ := hD
  have e : ∀ k j, ¬ (k = 58 ∧ (j = 2 ∨ j = 3 ∨ j = 4 ∨ j = 6 ∨ j = 7 ∨ j = 8)) → ri M3 k j = if k = 58 ∧ j = 33 then r else if k = 58 ∧ j = 37 then 1 else ri M k j := fun k j hn => by rw [g3, ri_wi, q2.1 k j hn, g1, ri_wi]
  have el : ∀ j, rl M3 60 j = rl M 60 j := fun j => by rw [g3, rl_wi, q2.2 60 j (by omega), g1, rl_wi]
  refine ⟨⟨by rw [e _ _ (by omega), if_neg (by omega), if_neg (by omega)]; exact d1.1, d1.2.1, fun k hk => by rw [el]; exact d1.2.2.1 k hk, d1.2.2.2⟩, d2.keepA (fun j => by rw [e _ _ (by omega), if_neg (by omega), if_neg (by omega)]), ?_, ?_, ?_, ?_, ?_, ?_, ?_, fun q => ⟨?_, fun i hi => ?_⟩⟩
  · rw [e _ _ (by omega), if_neg (by omega), if_neg (by omega)]; exact d3
  · rw [e _ _ (by omega), if_neg (by omega), if_pos ⟨rfl, rfl⟩]; rfl
  · rw [e _ _ (by omega), if_pos ⟨rfl, rfl⟩, hr]; rfl
  · rw [e _ _ (by omega), if_neg (by omega), if_neg (by omega)]; exact d6
  · rw [e _ _ (by omega), if_neg (by omega), if_neg (by omega)]; exact d7
  · rw [e _ _ (by omega), if_neg (by omega), if_neg (by omega)]; exact d8
  · rw [e _ _ (by omega), if_neg (by omega), if_neg (by omega)]; exact d9
  · rw [e _ _ (by omega), if_neg (by omega), if_neg (by omega)]; exact (d10 q).1
  · rw [e _ _ (by omega), if_neg (by omega), if_neg (by omega), e _ _ (by omega), if_neg (by omega), if_neg (by omega)]; exact (d10 q).2 i hi
theorem r_lineDraw {d L a : Nat} {T : Nat → Nat} {M : Mem} {K : Mem → Prop} {P : Pd} (hT : TZ M L T) (hO : TOk L T) (h : RN M L T (.inl a)) (hD : DM M P) (hP : PO P) (ho : isO T L 4 (.inl a) = true) (hs : (pD P).isSome = false) (hK : ∀ M', QM M M' → RS M' L T (drS T L P (.inl a)) → ((∃ b, drS T L P (.inl a) = .inl b) → DM M' (drP T L P (.inl a))) → K M') : CV (d + 4) μX9_readLine [.ref 58] M K := by
  refine rl_26 h hD (Or.inl (isO_ne (by omega) (by omega) (by omega) ho)) (rl_52 h hD hP.2.2.2.2.2.1 (Or.inl (isO_ne (by omega) (by omega) (by omega) ho)) (rl_76 h hD (Or.inl (isO_ne (by omega) (by omega) (by omega) ho)) (rl_114 h hD (Or.inl (isO_ne (by omega) (by omega) (by omega) ho)) ?_)))
  refine sg_X9_readLine_114 (r_isWord (w := 4) (by omega) ow_draw h ?_)
  rw [ho, if_neg (by decide), hD.2.2.2.2.2.1, hs, if_pos (by decide)]
  intro M1 g1
  have q1 : QM M M1 := by rw [g1]; exact qm_w rfl
  have hw : twS T L 4 (.inl a) = nxt T L (.inl a) := by unfold twS; rw [if_pos ho]
  refine r_told (w := 4) (most := 999) (by omega) ow_draw (by omega) (hT.qm q1) hO (Or.inl (show RN M1 L T (.inl a) by rw [g1]; exact h.wi (by omega))) (fun r M2 q2 c2 => ?_)
  rw [hw] at c2
  intro M3 g3
  have q3 : QM M M3 := (q1.trans q2.m).trans (by rw [g3]; exact qm_w rfl)
  have es : drS T L P (.inl a) = tsS T L 59 (tnS T L 999 (nxt T L (.inl a))) := by unfold drS; rw [hs, if_neg (by decide)]
  rw [es] at hK
  refine r_158 (hT.qm q3) hO (show RS M3 L T _ by rw [g3]; exact c2.rs.wi (by omega)) (fun M4 q4 c4 => hK M4 (q3.trans q4.m) c4 (fun ⟨b, hb⟩ => ?_))
  obtain ⟨b1, hb1⟩ := tsS_in hb
  have hr : r = nI (tnV T L 999 (nxt T L (.inl a))) := by
    rcases c2 with c2 | ⟨x, hx, _⟩
    · exact c2.2.2
    · rw [hx] at hb1; cases hb1
  refine DM.qt ?_ q4
  obtain ⟨d1, d2, d3, d4, d5, d6, d7, d8, d9, d10⟩ := hD
  have e : ∀ k j, ¬ (k = 58 ∧ (j = 2 ∨ j = 3 ∨ j = 4 ∨ j = 6 ∨ j = 7 ∨ j = 8)) → ri M3 k j = if k = 58 ∧ j = 34 then r else if k = 58 ∧ j = 38 then 1 else ri M k j := fun k j hn => by rw [g3, ri_wi, q2.1 k j hn, g1, ri_wi]
  have el : ∀ j, rl M3 60 j = rl M 60 j := fun j => by rw [g3, rl_wi, q2.2 60 j (by omega), g1, rl_wi]
  refine ⟨⟨by rw [e _ _ (by omega), if_neg (by omega), if_neg (by omega)]; exact d1.1, d1.2.1, fun k hk => by rw [el]; exact d1.2.2.1 k hk, d1.2.2.2⟩, d2.keepA (fun j => by rw [e _ _ (by omega), if_neg (by omega), if_neg (by omega)]), ?_, ?_, ?_, ?_, ?_, ?_, ?_, fun q => ⟨?_, fun i hi => ?_⟩⟩
  · rw [e _ _ (by omega), if_neg (by omega), if_neg (by omega)]; exact d3
  · rw [e _ _ (by omega), if_neg (by omega), if_neg (by omega)]; exact d4
  · rw [e _ _ (by omega), if_neg (by omega), if_neg (by omega)]; exact d5
  · rw [e _ _ (by omega), if_neg (by omega), if_pos ⟨rfl, rfl⟩]; rfl
  · rw [e _ _ (by omega), if_pos ⟨rfl, rfl⟩, hr]; rfl
  · rw [e _ _ (by omega), if_neg (by omega), if_neg (by omega)]; exact d8
  · rw [e _ _ (by omega), if_neg (by omega), if_neg (by omega)]; exact d9
  · rw [e _ _ (by omega), if_neg (by omega), if_neg (by omega)]; exact (d10 q).1
  · rw [e _ _ (by omega), if_neg (by omega), if_neg (by omega), e _ _ (by omega), if_neg (by omega), if_neg (by omega)]; exact (d10 q).2 i hi
theorem r_lineFlip {d L a : Nat} {T : Nat → Nat} {M : Mem} {K : Mem → Prop} {P : Pd} (hT : TZ M L T) (hO : TOk L T) (h : RN M L T (.inl a)) (hD : DM M P) (hP : PO P) (ho : isO T L 1 (.inl a) = true) (hs : pL P < 12) (hK : ∀ M', QM M M' → RS M' L T (flS T L P (.inl a)) → ((∃ b, flS T L P (.inl a) = .inl b) → DM M' (flP T L P (.inl a))) → K M') : CV (d + 6) μX9_readLine [.ref 58] M K := by
  have h8 := hP.1.1.1
  have hsn := hP.2.2.1
  have hG0 : GS (setD (pS P) 0) := (GS_Clo.2.2.2.2.2.1 (pS P) 0 hP.1 (by omega))
  refine rl_26 h hD (Or.inl (isO_ne (by omega) (by omega) (by omega) ho)) ?_
  refine sg_X9_readLine_26 (r_isWord (w := 1) (by omega) ow_flip h ?_)
  rw [ho, if_neg (by decide), hD.2.2.1, if_neg (by rw [show (12 : Int32) = nI 12 from rfl, nI_leI (by omega) (by omega)]; omega)]
  have es : flS T L P (.inl a) = tsS T L 59 (f3 T L P (.inl a)) := by unfold flS; rw [if_pos hs]
  rw [es] at hK
  have bad : ∀ (x : Nat × Nat) (Mx : Mem), QM M Mx → RF Mx x → f3 T L P (.inl a) = .inr x → RV (d + 6) μX9_readLine 158 [(0, .ref 58)] [] Mx K := by
    intro x Mx qx cx hx
    rw [hx] at hK
    exact r_158F cx (hK Mx qx (Or.inr ⟨x, rfl, cx⟩) (fun ⟨b, z⟩ => by cases z))
  refine sg_X9_readFlip_0 ?_
  refine r_tok hT hO h (fun M1 q1 c1 => ?_)
  refine r_oldLord (hD.1.qt q1) hP.2.2.2.1 (Or.inl c1) (fun r1 M2 q2 c2 => ?_)
  have qt2 := q1.trans q2
  have f1bad : ∀ x, f1 T L P (.inl a) = .inr x → f3 T L P (.inl a) = .inr x := fun x hx => by
    have : f2 T L P (.inl a) = .inr x := by unfold f2; rw [hx]; rfl
    unfold f3; rw [this, if_neg (by intro z; cases z)]
  have f2bad : ∀ x, f2 T L P (.inl a) = .inr x → f3 T L P (.inl a) = .inr x := fun x hx => by unfold f3; rw [hx, if_neg (by intro z; cases z)]
  rcases c2 with ⟨c2, ka', hva, hr1⟩ | ⟨x, hx, c2⟩
  · rw [c2.1, if_pos rfl]
    have hka := lh_in2 hva
    obtain ⟨a1, ha1⟩ := hka.2
    have hkal : ka' < (pN P).length := by
      obtain ⟨-, -, k, e, hk⟩ := lh_in (by rw [hka.1]; exact ha1)
      rw [hva] at e; cases e; exact hk
    have e1 : f1 T L P (.inl a) = .inl a1 := by show lhS T L (pN P) (nxt T L (.inl a)) = _; rw [hka.1]; exact ha1
    have c2 : RN M2 L T (.inl a1) := by rw [← e1]; exact c2
    refine r_tok (hT.qt qt2) hO c2 (fun M3 q3 c3 => ?_)
    have qt3 := qt2.trans q3
    refine sg_X9_readFlip_20 ?_
    refine r_oldLord (hD.1.qt qt3) hP.2.2.2.1 (Or.inl c3) (fun r2 M4 q4 c4 => ?_)
    have qt4 := qt3.trans q4
    have e2 : lhS T L (pN P) (nxt T L (.inl a1)) = f2 T L P (.inl a) := by unfold f2; rw [e1]
    rw [e2] at c4
    rcases c4 with ⟨c4, kb', hvb, hr2⟩ | ⟨x, hx, c4⟩
    · have hkb := lh_in2 hvb
      obtain ⟨b1, hb1⟩ := hkb.2
      have hin := lh_in (show lhS T L (pN P) (nxt T L (.inl a1)) = .inl b1 by rw [hkb.1]; exact hb1)
      have hkbl : kb' < (pN P).length := by
        obtain ⟨-, -, k, e, hk⟩ := hin
        rw [hvb] at e; cases e; exact hk
      have e3 : f2 T L P (.inl a) = .inl b1 := by rw [← e2, hkb.1]; exact hb1
      have hik : isK T L 1 (f2 T L P (.inl a)) = true := by rw [e3, ← hin.1]; exact hin.2.1
      have va : fa T L P (.inl a) = some ka' := hva
      have vb : fb T L P (.inl a) = some kb' := by show lhV T L (pN P) (nxt T L (f1 T L P (.inl a))) = _; rw [e1]; exact hvb
      have ef : f3 T L P (.inl a) = if fe (pS P) ka' kb' = 0 then blm T L 3 (f2 T L P (.inl a)) else nxt T L (f2 T L P (.inl a)) := by unfold f3; rw [if_pos hik, va, vb]; rfl
      have A4 : Ar M4 69 (setD (pS P) 0) := (hD.qt qt4).2.1
      rw [c4.1, if_pos rfl, hr1, hr2]
      refine r_canFlip (d := d + 1) (S := setD (pS P) 0) (a := ka') (b := kb') (show ka' < sn (pS P) by omega) (show kb' < sn (pS P) by omega) hG0.1 hG0.2.2.1 hG0.2.2.2.1 A4 ?_
      have efe : fe (setD (pS P) 0) ka' kb' = fe (pS P) ka' kb' := rfl
      rw [efe]
      by_cases hne : fe (pS P) ka' kb' ≠ 0
      · rw [if_neg (bI_ne (decide_eq_true hne))]
        rw [if_neg hne, e3] at ef
        refine sg_X9_readFlip_46 ?_
        rw [if_pos c4.le]
        rw [e3] at c4
        refine r_tok (hT.qt qt4) hO c4 (fun M5 q5 c5 => ?_)
        have qt5 := qt4.trans q5
        refine r_doFlip (d := d + 1) (S := setD (pS P) 0) (a := ka') (b := kb') (show ka' < sn (pS P) by omega) (show kb' < sn (pS P) by omega) hG0.1 hG0.2.1 hG0.2.2.1 hG0.2.2.2.1 (by rw [efe]; exact hne) ((hD.qt qt5).2.1) (fun M6 s6 A6 => ?_)
        intro M7 g7
        rw [show ri M6 58 32 = nI (pL P) by rw [s6.1 58 (by omega)]; exact (hD.qt qt5).2.2.1, nI_1] at g7
        have q7 : QM M M7 := (qt5.m.trans s6.m).trans (by rw [g7]; exact qm_w rfl)
        have e7 : ∀ k j, k ≠ 69 → ri M7 k j = if k = 58 ∧ j = 32 then nI (pL P + 1) else ri M5 k j := fun k j hk => by rw [g7, ri_wi, s6.1 k hk]
        have c7 : RN M7 L T (nxt T L (.inl b1)) := c5.keep (fun j hj => by rw [e7 _ _ (by omega), if_neg (by omega)]) (by rw [g7, rl_wi, s6.2])
        rw [ef] at hK
        refine r_158 (hT.qm q7) hO (Or.inl c7) (fun M8 q8 c8 => hK M8 (q7.trans q8.m) c8 (fun _ => ?_))
        refine DM.qt ?_ q8
        obtain ⟨d1, d2, d3, d4, d5, d6, d7, d8, d9, d10⟩ := hD.qt qt5
        refine ⟨⟨by rw [e7 _ _ (by omega), if_neg (by omega)]; exact d1.1, d1.2.1, fun k hk => by rw [g7, rl_wi, s6.2]; exact d1.2.2.1 k hk, d1.2.2.2⟩, ?_, ?_, ?_, ?_, ?_, ?_, ?_, ?_, fun q => ⟨?_, fun i hi => ?_⟩⟩
        · show Ar M7 69 (setD (flipS (pS P) ((fa T L P (.inl a)).getD 0) ((fb T L P (.inl a)).getD 0)) 0)
          rw [va, vb]
          exact Ar.keepA (show Ar M6 69 (flipS (setD (pS P) 0) ka' kb') from A6) (fun j => by rw [g7, ri_wi, if_neg (by omega)])
        · rw [e7 _ _ (by omega), if_pos ⟨rfl, rfl⟩]; rfl
        · rw [e7 _ _ (by omega), if_neg (by omega)]; exact d4
        · rw [e7 _ _ (by omega), if_neg (by omega)]; exact d5
        · rw [e7 _ _ (by omega), if_neg (by omega)]; exact d6
        · rw [e7 _ _ (by omega), if_neg (by omega)]; exact d7
        · rw [e7 _ _ (by omega), if_neg (by omega)]; exact d8
        · rw [e7 _ _ (by omega), if_neg (by omega)]; exact d9
        · rw [e7 _ _ (by omega), if_neg (by omega)]; exact (d10 q).1
        · rw [e7 _ _ (by omega), if_neg (by omega), e7 _ _ (by omega), if_neg (by omega)]; exact (d10 q).2 i hi
      · rw [if_pos (bI_eq (decide_eq_false hne))]
        have hz : fe (pS P) ka' kb' = 0 := Decidable.not_not.mp hne
        rw [if_pos hz] at ef
        refine r_wrong (f := 3) (by omega) c4 (fun M5 q5 c5 => ?_)
        refine sg_X9_readFlip_46 ?_
        rw [if_neg c5.gt]
        exact bad _ M5 (qt4.trans q5).m c5 ef
    · rw [if_neg c4.ne]
      refine sg_X9_readFlip_46 ?_
      rw [if_neg c4.gt]
      exact bad x M4 qt4.m c4 (f2bad x hx)
  · rw [if_neg c2.ne]
    refine sg_X9_readFlip_20 ?_
    refine r_oldLord (T := T) (L := L) (σ := .inr x) (hD.1.qt qt2) hP.2.2.2.1 (Or.inr ⟨x, rfl, c2⟩) (fun r2 M4 q4 c4 => ?_)
    rcases c4 with ⟨c4, k, hk, _⟩ | ⟨y, hy, c4⟩
    · cases hk
    · cases hy
      rw [if_neg c4.ne]
      refine sg_X9_readFlip_46 ?_
      rw [if_neg c4.gt]
      exact bad x M4 (qt2.trans q4).m c4 (f1bad x hx)
