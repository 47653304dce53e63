/-! acts, undone and done again: the model -/
def AO (M : Mem) (w f : Nat) (T : Sh) : Prop := (∀ i, i < (sc T).length → ri M w (f + i) = nI (cdm ((sc T)[i]?.getD 0))) ∧ ri M w (f + 12) = nI (sc T).length ∧ ri M w (f + 13) = nI (sb T) ∧ (∀ j, j < 8 → ri M w (f + (14 + j)) = nI (sz T j)) ∧ ri M w (f + 22) = sy T ∧ ri M w (f + 23) = nI (sd T)
theorem AO.copy {M M' : Mem} {w f w' f' : Nat} {T : Sh} (h : AO M w f T) (hl : (sc T).length ≤ 12) (e : ∀ j, j < 24 → ri M' w' (f' + j) = ri M w (f + j)) : AO M' w' f' T := by
  refine ⟨fun i hi => ?_, ?_, ?_, fun j hj => ?_, ?_, ?_⟩ <;> rw [e _ (by omega)]
  · exact h.1 i hi
  · exact h.2.1
  · exact h.2.2.1
  · exact h.2.2.2.1 j hj
  · exact h.2.2.2.2.1
  · exact h.2.2.2.2.2
theorem Ar.ao {M : Mem} {a : Nat} {T : Sh} (h : Ar M a T) : AO M a 0 T := by
  refine ⟨fun i hi => ?_, ?_, ?_, fun j hj => ?_, ?_, ?_⟩ <;> rw [Nat.zero_add]
  · exact h.1 i hi
  · exact h.2.1
  · exact h.2.2.1
  · exact h.2.2.2.1 j hj
  · exact h.2.2.2.2.1
  · exact h.2.2.2.2.2
theorem AO.ar {M : Mem} {a : Nat} {T : Sh} (h : AO M a 0 T) : Ar M a T := by
  refine ⟨fun i hi => ?_, ?_, ?_, fun j hj => ?_, ?_, ?_⟩
  · have := h.1 i hi; rw [Nat.zero_add] at this; exact this
  · exact h.2.1
  · exact h.2.2.1
  · have := h.2.2.2.1 j hj; rw [Nat.zero_add] at this; exact this
  · exact h.2.2.2.2.1
  · exact h.2.2.2.2.2
def HM (M : Mem) (P R : List Sh) : Prop := ri M 58 40 = nI P.length ∧ ri M 58 41 = nI R.length ∧ (∀ i, i < P.length → AO M 72 (24 * (P.length - 1 - i)) (P[i]?.getD S0)) ∧ ∀ i, i < R.length → AO M 72 (24 * (P.length + i)) (R[i]?.getD S0)
theorem qh_w72 {M : Mem} {j : Nat} {x : Int32} : QH 1 M (wi M 72 j x) := ⟨fun k j _ _ _ _ _ c _ => by rw [ri_wi, if_neg (fun q => c ⟨rfl, q.1⟩)], fun _ _ => rfl⟩
theorem qh_w68 {M : Mem} {j : Nat} {x : Int32} : QH 1 M (wi M 68 j x) := ⟨fun k j _ _ _ _ c _ _ => by rw [ri_wi, if_neg (fun q => c ⟨rfl, q.1⟩)], fun _ _ => rfl⟩
theorem qh_w40 {M : Mem} {x : Int32} : QH 1 M (wi M 58 40 x) := ⟨fun k j _ _ _ _ _ _ c => by rw [ri_wi, if_neg (fun q => c ⟨q.1, by omega⟩)], fun _ _ => rfl⟩
theorem qh_w41 {M : Mem} {x : Int32} : QH 1 M (wi M 58 41 x) := ⟨fun k j _ _ _ _ _ _ c => by rw [ri_wi, if_neg (fun q => c ⟨q.1, by omega⟩)], fun _ _ => rfl⟩
theorem n_24 (a b : Nat) : 24 * nI a + nI b = nI (24 * a + b) := by rw [show (24 : Int32) = nI 24 from rfl, n_mul, nI_add]
/-- now's row goes behind u rows of what was -/
theorem m_act51 {d u : Nat} {M0 : Mem} {K : Mem → Prop} {S : Sh} {Q0 : List Sh} (hu : Q0.length = u) (hu39 : u ≤ 39) (hS : SOk S) (hQ : ∀ i, i < u → (sc (Q0[i]?.getD S0)).length ≤ 12) (hA : Ar M0 68 S) (h40 : ri M0 58 40 = nI u) (hP : ∀ i, i < u → AO M0 72 (24 * (u - 1 - i)) (Q0[i]?.getD S0)) (hK : ∀ M', QH 1 M0 M' → Ar M' 69 S → Ar M' 68 S → HM M' (S :: Q0) [] → K M') : RV (d + 1) μX9_act 51 [(0, .ref 58), (1, .int 0)] [] M0 K := by
  have loop : ∀ (r k : Nat) (M : Mem), r + k = 24 → QH 1 M0 M → ri M 58 40 = nI u → (∀ j, ri M 68 j = ri M0 68 j) → (∀ j, j < k → ri M 72 (24 * u + j) = ri M0 68 j) → (∀ j, j < 24 * u → ri M 72 j = ri M0 72 j) → RV (d + 1) μX9_act 51 [(0, .ref 58), (1, .int (nI k))] [] M K := by
    intro r
    induction r with
    | zero =>
      intro k M hk q e40 e68 hnew hold
      have hk : k = 24 := by omega
      subst hk
      refine sg_X9_act_51 ?_
      rw [if_pos (by decide)]
      intro M1 h1 M2 h2
      rw [e40, nI_1] at h1
      have r1 : ∀ k j, ri M1 k j = if k = 58 ∧ j = 40 then nI (u + 1) else ri M k j := by intro k j; rw [h1, ri_wi]
      have r2 : ∀ k j, ri M2 k j = if k = 58 ∧ j = 41 then 0 else ri M1 k j := by intro k j; rw [h2, ri_wi]
      have eM : ∀ k j, k ≠ 58 → ri M2 k j = ri M k j := fun k j hk => by rw [r2, if_neg (by omega), r1, if_neg (by omega)]
      refine r_fill (fun M3 s3 e3 => ?_)
      have e3' : ∀ k j, k ≠ 69 → ri M3 k j = ri M2 k j := fun k j hk => s3.1 k hk j
      have a68 : Ar M3 68 S := hA.keepE (fun j => by rw [e3' 68 j (by omega), eM 68 j (by omega), e68])
      refine hK M3 ?_ (a68.copy hS.2.2.1 (fun j hj => by rw [e3 j hj, e3' 68 j (by omega)])) a68 ⟨?_, ?_, fun i hi => ?_, fun i hi => absurd hi (Nat.not_lt_zero _)⟩
      · have qa : QH 1 M M1 := by rw [h1]; exact qh_w40
        have qb : QH 1 M1 M2 := by rw [h2]; exact qh_w41
        exact ((q.trans qa).trans qb).trans s3.q.h
      · rw [e3' _ _ (by omega), r2, if_neg (by omega), r1, if_pos ⟨rfl, rfl⟩, List.length_cons, hu]
      · rw [e3' _ _ (by omega), r2, if_pos ⟨rfl, rfl⟩]; rfl
      · cases i with
        | zero =>
          show AO M3 72 (24 * ((S :: Q0).length - 1 - 0)) S
          rw [List.length_cons, hu, show u + 1 - 1 - 0 = u by omega]
          exact hA.ao.copy hS.2.2.1 (fun j hj => by rw [e3' _ _ (by omega), eM _ _ (by omega), hnew j (by omega), Nat.zero_add])
        | succ i =>
          rw [List.length_cons] at hi
          show AO M3 72 (24 * ((S :: Q0).length - 1 - (i + 1))) (Q0[i]?.getD S0)
          rw [List.length_cons, hu, show u + 1 - 1 - (i + 1) = u - 1 - i by omega]
          exact (hP i (by omega)).copy (hQ i (by omega)) (fun j hj => by rw [e3' _ _ (by omega), eM _ _ (by omega), hold _ (by omega)])
    | succ r ih =>
      intro k M hk q e40 e68 hnew hold
      refine sg_X9_act_51 ?_
      rw [if_neg (by rw [show (24 : Int32) = nI 24 from rfl, nI_leI (by omega) (by omega)]; omega), e40, n_24, nI_1, show nx (nI k) = k from nI_clamp (by omega), show nx (nI (24 * u + k)) = 24 * u + k from nI_clamp (by omega)]
      refine ⟨n_in (by omega) (by decide), n_in (by omega) (by decide), fun M4 h4 => ?_⟩
      have r4 : ∀ k' j, ri M4 k' j = if k' = 72 ∧ j = 24 * u + k then ri M 68 k else ri M k' j := by intro k' j; rw [h4, ri_wi]
      refine ih (k + 1) M4 (by omega) (q.trans (by rw [h4]; exact qh_w72)) (by rw [r4, if_neg (by omega)]; exact e40) (fun j => by rw [r4, if_neg (by omega)]; exact e68 j) (fun j hj => ?_) (fun j hj => by rw [r4, if_neg (by omega)]; exact hold j hj)
      rw [r4]
      by_cases hjk : j = k
      · rw [if_pos ⟨rfl, by omega⟩, hjk]; exact e68 k
      · rw [if_neg (by omega)]; exact hnew j (by omega)
  exact loop 24 0 M0 rfl QH.rf h40 (fun _ => rfl) (fun j h => absurd h (Nat.not_lt_zero _)) (fun _ _ => rfl)
theorem m_act {d n : Nat} {M : Mem} {K : Mem → Prop} {S : Sh} {P R : List Sh} (hS : SOk S) (hG : HG n P R) (hA : Ar M 68 S) (hH : HM M P R) (hK : ∀ M', QH 1 M M' → Ar M' 69 S → Ar M' 68 S → HM M' ((S :: P).take 40) [] → K M') : CV (d + 1) μX9_act [.ref 58] M K := by
  have hl := hG.1
  refine sg_X9_act_0 ?_
  rw [hH.1]
  by_cases h40 : P.length = 40
  · rw [if_pos (by rw [h40]; rfl)]
    have loop : ∀ (r k : Nat) (M1 : Mem), r + k = 936 → QH 1 M M1 → ri M1 58 40 = nI 40 → (∀ j, ri M1 68 j = ri M 68 j) → (∀ j, j < k → ri M1 72 j = ri M 72 (24 + j)) → (∀ j, k ≤ j → ri M1 72 j = ri M 72 j) → RV (d + 1) μX9_act 11 [(0, .ref 58), (1, .int (nI k))] [] M1 K := by
      intro r
      induction r with
      | zero =>
        intro k M1 hk q e40 e68 hnew hold
        have hk : k = 936 := by omega
        subst hk
        refine sg_X9_act_11 ?_
        rw [if_pos (by decide)]
        intro M2 h2
        rw [e40, show nI 40 - 1 = nI 39 from nI_pred 39] at h2
        have r2 : ∀ k j, ri M2 k j = if k = 58 ∧ j = 40 then nI 39 else ri M1 k j := by intro k j; rw [h2, ri_wi]
        have hlen : (P.take 39).length = 39 := by rw [List.length_take, h40]; rfl
        refine m_act51 (u := 39) (Q0 := P.take 39) hlen (by omega) hS (fun i hi => ?_) (hA.keepE (fun j => by rw [r2, if_neg (by omega), e68])) (by rw [r2, if_pos ⟨rfl, rfl⟩]) (fun i hi => ?_) (fun M3 q3 a69 a68 h3 => ?_)
        · rw [List.getElem?_take, if_pos hi]; exact (hG.at (by omega)).1.1.2.2.1
        · rw [List.getElem?_take, if_pos hi]
          have := hH.2.2.1 i (by omega)
          refine this.copy (hG.at (by omega)).1.1.2.2.1 (fun j hj => ?_)
          rw [r2, if_neg (by omega), hnew _ (by omega), h40]
          congr 1
          omega
        · refine hK M3 (q.trans (QH.trans (by rw [h2]; exact qh_w40) q3)) a69 a68 ?_
          rw [show (S :: P).take 40 = S :: P.take 39 from rfl]
          exact h3
      | succ r ih =>
        intro k M1 hk q e40 e68 hnew hold
        refine sg_X9_act_11 ?_
        rw [if_neg (by rw [show (936 : Int32) = nI 936 from rfl, nI_leI (by omega) (by omega)]; omega), show (24 : Int32) + nI k = nI (24 + k) by rw [show (24 : Int32) = nI 24 from rfl, nI_add], nI_1, show nx (nI k) = k from nI_clamp (by omega), show nx (nI (24 + k)) = 24 + k from nI_clamp (by omega)]
        refine ⟨n_in (by omega) (by decide), n_in (by omega) (by decide), fun M2 h2 => ?_⟩
        have r2 : ∀ k' j, ri M2 k' j = if k' = 72 ∧ j = k then ri M1 72 (24 + k) else ri M1 k' j := by intro k' j; rw [h2, ri_wi]
        refine ih (k + 1) M2 (by omega) (q.trans (by rw [h2]; exact qh_w72)) (by rw [r2, if_neg (by omega)]; exact e40) (fun j => by rw [r2, if_neg (by omega)]; exact e68 j) (fun j hj => ?_) (fun j hj => by rw [r2, if_neg (by omega)]; exact hold j (by omega))
        rw [r2]
        by_cases hjk : j = k
        · rw [if_pos ⟨rfl, hjk⟩, hjk]; exact hold _ (by omega)
        · rw [if_neg (fun z => hjk z.2)]; exact hnew j (by omega)
    exact loop 936 0 M rfl QH.rf (by rw [hH.1, h40]) (fun _ => rfl) (fun j h => absurd h (Nat.not_lt_zero _)) (fun _ _ => rfl)
  · rw [if_neg (by rw [show (40 : Int32) = nI 40 from rfl, nI_eq (by omega) (by omega)]; exact h40)]
    refine m_act51 (u := P.length) (Q0 := P) rfl (by omega) hS (fun i hi => (hG.at hi).1.1.2.2.1) hA hH.1 hH.2.2.1 (fun M3 q3 a69 a68 h3 => ?_)
    refine hK M3 q3 a69 a68 ?_
    have : (S :: P).take 40 = S :: P := List.take_of_length_le (by rw [List.length_cons]; omega)
    rw [this]; exact h3
/-- the row f of what was and now change places -/
theorem m_exchange {d u : Nat} {M0 : Mem} {K : Mem → Prop} {S T : Sh} (hu : u ≤ 39) (hS : SOk S) (hT : SOk T) (hA : Ar M0 68 S) (hO : AO M0 72 (24 * u) T) (hK : ∀ M', QH 1 M0 M' → Ar M' 68 T → AO M' 72 (24 * u) S → (∀ j, ¬ (24 * u ≤ j ∧ j < 24 * u + 24) → ri M' 72 j = ri M0 72 j) → (∀ j, ri M' 58 j = ri M0 58 j) → K M') : CV d μX9_exchange [.ref 58, .int (24 * nI u)] M0 K := by
  refine sg_X9_exchange_0 ?_
  rw [show (24 : Int32) * nI u = nI (24 * u) by rw [show (24 : Int32) = nI 24 from rfl, n_mul]]
  have loop : ∀ (r k : Nat) (M : Mem), r + k = 24 → QH 1 M0 M → (∀ j, ri M 58 j = ri M0 58 j) → (∀ j, j < k → ri M 68 j = ri M0 72 (24 * u + j)) → (∀ j, k ≤ j → ri M 68 j = ri M0 68 j) → (∀ j, j < k → ri M 72 (24 * u + j) = ri M0 68 j) → (∀ j, ¬ (24 * u ≤ j ∧ j < 24 * u + k) → ri M 72 j = ri M0 72 j) → RV d μX9_exchange 2 [(0, .ref 58), (1, .int (nI (24 * u))), (2, .int (nI k))] [] M K := by
    intro r
    induction r with
    | zero =>
      intro k M hk q e58 a1 a2 b1 b2
      have hk : k = 24 := by omega
      subst hk
      refine sg_X9_exchange_2 ?_
      rw [if_pos (by decide)]
      refine hK M q (AO.ar (hO.copy hT.2.2.1 (fun j hj => by rw [Nat.zero_add]; exact a1 j hj))) (hA.ao.copy hS.2.2.1 (fun j hj => by rw [Nat.zero_add]; exact b1 j hj)) b2 e58
    | succ r ih =>
      intro k M hk q e58 a1 a2 b1 b2
      refine sg_X9_exchange_2 ?_
      rw [if_neg (by rw [show (24 : Int32) = nI 24 from rfl, nI_leI (by omega) (by omega)]; omega), nI_add, nI_1, show nx (nI k) = k from nI_clamp (by omega), show nx (nI (24 * u + k)) = 24 * u + k from nI_clamp (by omega)]
      refine ⟨n_in (by omega) (by decide), n_in (by omega) (by decide), n_in (by omega) (by decide), fun M1 h1 => ⟨n_in (by omega) (by decide), fun M2 h2 => ?_⟩⟩
      have r1 : ∀ k' j, ri M1 k' j = if k' = 72 ∧ j = 24 * u + k then ri M 68 k else ri M k' j := by intro k' j; rw [h1, ri_wi]
      have r2 : ∀ k' j, ri M2 k' j = if k' = 68 ∧ j = k then ri M 72 (24 * u + k) else ri M1 k' j := by intro k' j; rw [h2, ri_wi]
      refine ih (k + 1) M2 (by omega) (q.trans (QH.trans (M' := M1) (by rw [h1]; exact qh_w72) (by rw [h2]; exact qh_w68))) (fun j => by rw [r2, if_neg (by omega), r1, if_neg (by omega)]; exact e58 j) (fun j hj => ?_) (fun j hj => by rw [r2, if_neg (by omega), r1, if_neg (by omega)]; exact a2 j (by omega)) (fun j hj => ?_) (fun j hj => by rw [r2, if_neg (by omega), r1, if_neg (by omega)]; exact b2 j (by omega))
      · rw [r2]
        by_cases hjk : j = k
        · rw [if_pos ⟨rfl, hjk⟩, hjk]; exact b2 _ (by omega)
        · rw [if_neg (fun z => hjk z.2), r1, if_neg (by omega)]; exact a1 j (by omega)
      · rw [r2, if_neg (by omega), r1]
        by_cases hjk : j = k
        · rw [if_pos ⟨rfl, by omega⟩, hjk]; exact a2 k (by omega)
        · rw [if_neg (by omega)]; exact b1 j (by omega)
  exact loop 24 0 M0 rfl QH.rf (fun _ => rfl) (fun j h => absurd h (Nat.not_lt_zero _)) (fun _ _ => rfl) (fun j h => absurd h (Nat.not_lt_zero _)) (fun _ _ => rfl)
theorem m_undo {d n : Nat} {M : Mem} {K : Int32 → Mem → Prop} {S : Sh} {P R : List Sh} (hS : SOk S) (hG : HG n P R) (hA : Ar M 68 S) (hH : HM M P R) (h00 : P = [] → K 0 M) (hK : ∀ T P', P = T :: P' → ∀ M', QH 1 M M' → Ar M' 68 T → HM M' P' (S :: R) → K 1 M') : CI (d + 1) μX9_undo [.ref 58] M K := by
  have hl := hG.1
  refine sg_X9_undo_0 ?_
  rw [hH.1]
  cases hPc : P with
  | nil => rw [if_pos (by rfl)]; exact h00 hPc
  | cons T P' =>
    subst hPc
    obtain ⟨h40, h41, hP, hR⟩ := hH
    rw [List.length_cons] at h40 hl
    rw [if_neg (by rw [show (0 : Int32) = nI 0 from rfl, nI_eq (by rw [List.length_cons]; omega) (by omega)]; simp)]
    intro M1 h1 M2 h2
    rw [List.length_cons, nI_pred] at h1
    have r1 : ∀ k j, ri M1 k j = if k = 58 ∧ j = 40 then nI P'.length else ri M k j := by intro k j; rw [h1, ri_wi]
    rw [r1, if_neg (by omega), h41, nI_1] at h2
    have r2 : ∀ k j, ri M2 k j = if k = 58 ∧ j = 41 then nI (R.length + 1) else ri M1 k j := by intro k j; rw [h2, ri_wi]
    have eM : ∀ k j, k ≠ 58 → ri M2 k j = ri M k j := fun k j hk => by rw [r2, if_neg (by omega), r1, if_neg (by omega)]
    rw [show ri M2 58 40 = nI P'.length by rw [r2, if_neg (by omega), r1, if_pos ⟨rfl, rfl⟩]]
    have gT : GK n T := hG.2 T (Or.inl List.mem_cons_self)
    have hO : AO M2 72 (24 * P'.length) T := by
      have h : AO M 72 (24 * ((T :: P').length - 1 - 0)) T := hP 0 (by simp)
      rw [List.length_cons, show P'.length + 1 - 1 - 0 = P'.length by omega] at h
      exact h.copy gT.1.1.2.2.1 (fun j _ => eM _ _ (by omega))
    refine m_exchange (by omega) hS gT.1.1 (hA.keepE (fun j => eM _ _ (by omega))) hO (fun M3 q3 a3 o3 e72 e58 => ?_)
    refine hK T P' rfl M3 ?_ a3 ⟨?_, ?_, fun i hi => ?_, fun i hi => ?_⟩
    · have qa : QH 1 M M1 := by rw [h1]; exact qh_w40
      have qb : QH 1 M1 M2 := by rw [h2]; exact qh_w41
      exact (qa.trans qb).trans q3
    · rw [e58, r2, if_neg (by omega), r1, if_pos ⟨rfl, rfl⟩]
    · rw [e58, r2, if_pos ⟨rfl, rfl⟩, List.length_cons]
    · have h : AO M 72 (24 * ((T :: P').length - 1 - (i + 1))) (P'[i]?.getD S0) := hP (i + 1) (by rw [List.length_cons]; omega)
      rw [List.length_cons, show P'.length + 1 - 1 - (i + 1) = P'.length - 1 - i by omega] at h
      exact AO.copy (T := P'[i]?.getD S0) h (hG.at (i := i + 1) (by rw [List.length_cons]; omega)).1.1.2.2.1 (fun j _ => by rw [e72 _ (by omega), eM _ _ (by omega)])
    · cases i with
      | zero => exact o3
      | succ i =>
        have hiR : i < R.length := by rw [List.length_cons] at hi; omega
        have h := hR i hiR
        rw [List.length_cons] at h
        rw [show P'.length + (i + 1) = P'.length + 1 + i by omega]
        exact AO.copy (T := R[i]?.getD S0) h (hG.at2 hiR).1.1.2.2.1 (fun j _ => by rw [e72 _ (by omega), eM _ _ (by omega)])
theorem m_redo {d n : Nat} {M : Mem} {K : Int32 → Mem → Prop} {S : Sh} {P R : List Sh} (hS : SOk S) (hG : HG n P R) (hA : Ar M 68 S) (hH : HM M P R) (h00 : R = [] → K 0 M) (hK : ∀ T R', R = T :: R' → ∀ M', QH 1 M M' → Ar M' 68 T → HM M' (S :: P) R' → K 1 M') : CI (d + 1) μX9_redo [.ref 58] M K := by
  have hl := hG.1
  refine sg_X9_redo_0 ?_
  rw [hH.2.1]
  cases hRc : R with
  | nil => rw [if_pos (by rfl)]; exact h00 hRc
  | cons T R' =>
    subst hRc
    obtain ⟨h40, h41, hP, hR⟩ := hH
    rw [List.length_cons] at h41 hl
    rw [if_neg (by rw [show (0 : Int32) = nI 0 from rfl, nI_eq (by rw [List.length_cons]; omega) (by omega)]; simp), h40]
    have gT : GK n T := hG.2 T (Or.inr List.mem_cons_self)
    have hO : AO M 72 (24 * P.length) T := hR 0 (by simp)
    refine m_exchange (by omega) hS gT.1.1 hA hO (fun M1 q1 a1 o1 e72 e58 => ?_)
    intro M2 h2 M3 h3
    rw [e58, h40, nI_1] at h2
    have r2 : ∀ k j, ri M2 k j = if k = 58 ∧ j = 40 then nI (P.length + 1) else ri M1 k j := by intro k j; rw [h2, ri_wi]
    rw [r2, if_neg (by omega), e58, h41, nI_pred] at h3
    have r3 : ∀ k j, ri M3 k j = if k = 58 ∧ j = 41 then nI R'.length else ri M2 k j := by intro k j; rw [h3, ri_wi]
    have eM : ∀ k j, k ≠ 58 → ri M3 k j = ri M1 k j := fun k j hk => by rw [r3, if_neg (by omega), r2, if_neg (by omega)]
    refine hK T R' rfl M3 ?_ (a1.keepE (fun j => eM _ _ (by omega))) ⟨?_, ?_, fun i hi => ?_, fun i hi => ?_⟩
    · have qa : QH 1 M1 M2 := by rw [h2]; exact qh_w40
      have qb : QH 1 M2 M3 := by rw [h3]; exact qh_w41
      exact (q1.trans qa).trans qb
    · rw [r3, if_neg (by omega), r2, if_pos ⟨rfl, rfl⟩, List.length_cons]
    · rw [r3, if_pos ⟨rfl, rfl⟩]
    · cases i with
      | zero =>
        show AO M3 72 (24 * ((S :: P).length - 1 - 0)) S
        rw [List.length_cons, show P.length + 1 - 1 - 0 = P.length by omega]
        exact o1.copy hS.2.2.1 (fun j _ => eM _ _ (by omega))
      | succ i =>
        have hiP : i < P.length := by rw [List.length_cons] at hi; omega
        show AO M3 72 (24 * ((S :: P).length - 1 - (i + 1))) (P[i]?.getD S0)
        rw [List.length_cons, show P.length + 1 - 1 - (i + 1) = P.length - 1 - i by omega]
        exact (hP i hiP).copy (hG.at hiP).1.1.2.2.1 (fun j _ => by rw [eM _ _ (by omega), e72 _ (by omega)])
    · have h : AO M 72 (24 * (P.length + (i + 1))) (R'[i]?.getD S0) := hR (i + 1) (by rw [List.length_cons]; omega)
      rw [List.length_cons, show P.length + 1 + i = P.length + (i + 1) by omega]
      exact AO.copy (T := R'[i]?.getD S0) h (hG.at2 (i := i + 1) (by rw [List.length_cons]; omega)).1.1.2.2.1 (fun j _ => by rw [eM _ _ (by omega), e72 _ (by omega)])
