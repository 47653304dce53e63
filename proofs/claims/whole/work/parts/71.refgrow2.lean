/-! the reference's growth -/
theorem r_within99 {d : Nat} {M : Mem} {K : Int32 → Mem → Prop} {v : Int32} (h : K (cl99 v) M) : CI d μX9_within [.int v, .int (-99), .int 99] M K := by
  refine sg_X9_within_0 ?_
  unfold cl99 at h
  have n1 : (-99 : Int32).toInt = -99 := by decide
  have n2 : (99 : Int32).toInt = 99 := by decide
  by_cases c1 : (-99 : Int32) ≤ v
  · rw [if_pos c1]
    have k1 := Int32.le_iff_toInt_le.mp c1
    by_cases c2 : v ≤ 99
    · rw [if_pos c2]
      have k2 := Int32.le_iff_toInt_le.mp c2
      by_cases c3 : v < 99
      · simp only [c3, if_true] at h
        by_cases c4 : (-99 : Int32) < v
        · rw [if_pos c4] at h; exact h
        · have : v = -99 := Int32.toInt_inj.mp (by have := Int32.le_iff_toInt_le.mp (i_nlt.mp c4); omega)
          rw [if_neg c4] at h
          rw [this]; exact h
      · have : v = 99 := Int32.toInt_inj.mp (by have := Int32.le_iff_toInt_le.mp (i_nlt.mp c3); omega)
        simp only [c3, if_false] at h
        rw [if_pos (by decide)] at h
        rw [this]; exact h
    · rw [if_neg c2]
      have c3 : ¬ v < 99 := fun z => c2 (Int32.le_of_lt z)
      simp only [c3, if_false] at h
      rw [if_pos (by decide)] at h
      exact h
  · rw [if_neg c1]
    have k1 := Int32.lt_iff_toInt_lt.mp (i_nle.mp c1)
    have c3 : v < 99 := Int32.lt_iff_toInt_lt.mpr (by omega)
    simp only [c3, if_true] at h
    rw [if_neg (fun z => c1 (Int32.le_of_lt z))] at h
    exact h
def WfF (F : List Int32) : Prop := (∀ (q : Nat → Int32) (i : Nat), i < F.length → (F[i]?.getD 0 = -6 → prun q (F.take i) [] ≠ []) ∧ (F[i]?.getD 0 < -6 → 2 ≤ (prun q (F.take i) []).length) ∧ (-6 < F[i]?.getD 0 → (prun q (F.take i) []).length < 31)) ∧ ∀ q : Nat → Int32, F ≠ [] → prun q F [] ≠ []
def encAt (s a op : Int32) : Prop := (op = -6 ∧ s = 2) ∨ (op < -6 ∧ s = 3 ∧ a = sgc op) ∨ (0 ≤ op ∧ s = 0 ∧ a = op) ∨ (-6 < op ∧ op < 0 ∧ s = 1 ∧ ∃ j, j < 5 ∧ a = nI j ∧ -op = nI (j + 1))
/-- the model's formula is the row F -/
def Rf (M : Mem) (F : List Int32) : Prop := ri M 58 25 = (if F = [] then 0 else 1) ∧ ri M 58 18 = nI F.length ∧ F.length ≤ 270 ∧ (∀ x ∈ F, -16 ≤ x.toInt) ∧ ∀ i, i < F.length → encAt (ri M 63 i) (ri M 64 i) (F[i]?.getD 0)
/-- only the rows 'values' and 'asks' may change -/
def Sv (M M' : Mem) : Prop := (∀ k, k ≠ 66 → k ≠ 67 → ∀ j, ri M' k j = ri M k j) ∧ ∀ k j, rl M' k j = rl M k j
theorem Sv.rf {M : Mem} : Sv M M := ⟨fun _ _ _ _ => rfl, fun _ _ => rfl⟩
theorem Sv.trans {M M' M'' : Mem} (h : Sv M M') (h2 : Sv M' M'') : Sv M M'' := ⟨fun k a b j => (h2.1 k a b j).trans (h.1 k a b j), fun k j => (h2.2 k j).trans (h.2 k j)⟩
theorem Sv.w6 {M : Mem} {j : Nat} {x : Int32} : Sv M (wi M 66 j x) := ⟨fun k a b c => by rw [ri_wi, if_neg (fun q => a q.1)], fun _ _ => rfl⟩
theorem Sv.w7 {M : Mem} {j : Nat} {x : Int32} : Sv M (wi M 67 j x) := ⟨fun k a b c => by rw [ri_wi, if_neg (fun q => b q.1)], fun _ _ => rfl⟩
theorem Rf.keep {M M' : Mem} {F : List Int32} (h : Rf M F) (hs : Sv M M') : Rf M' F :=
  ⟨(hs.1 58 (by decide) (by decide) 25).trans h.1, (hs.1 58 (by decide) (by decide) 18).trans h.2.1, h.2.2.1, h.2.2.2.1, fun i hi => by rw [hs.1 63 (by decide) (by decide), hs.1 64 (by decide) (by decide)]; exact h.2.2.2.2 i hi⟩
theorem Ar.keepV {M M' : Mem} {a : Nat} {S : Sh} (ha : a ≠ 66) (hb : a ≠ 67) (h : Ar M a S) (hs : Sv M M') : Ar M' a S :=
  ⟨fun i hi => (hs.1 a ha hb i).trans (h.1 i hi), (hs.1 a ha hb 12).trans h.2.1, (hs.1 a ha hb 13).trans h.2.2.1, fun j hj => (hs.1 a ha hb _).trans (h.2.2.2.1 j hj), (hs.1 a ha hb 22).trans h.2.2.2.2.1, (hs.1 a ha hb 23).trans h.2.2.2.2.2⟩
def Stk2 (M : Mem) (st : List Int32) : Prop := ∀ i, i < st.length → ri M 66 i = st.reverse[i]?.getD 0
theorem Stk2.tail {M : Mem} {x : Int32} {t : List Int32} (h : Stk2 M (x :: t)) : Stk2 M t := fun i hi => by
  rw [h i (by simp; omega), rev_low x t hi]
theorem Stk2.top {M : Mem} {x : Int32} {t : List Int32} (h : Stk2 M (x :: t)) : ri M 66 t.length = x := by
  rw [h t.length (by simp), rev_top]
theorem Stk2.push {M : Mem} {t : List Int32} (h : Stk2 M t) (x : Int32) : Stk2 (wi M 66 t.length x) (x :: t) := fun i hi => by
  rw [ri_wi]
  by_cases c : i = t.length
  · subst c; rw [if_pos ⟨rfl, rfl⟩, rev_top]
  · have hi' : i < t.length := by simp at hi; omega
    rw [if_neg (fun z => c z.2), rev_low x t hi']
    exact h i hi'
theorem r_grow_loop {d : Nat} {K : Int32 → Mem → Prop} {F : List Int32} {q : Nat → Int32} {p : Int32} (hW : WfF F) (hne : F ≠ []) (M0 : Mem) (hF : Rf M0 F) (hK : ∀ M', Sv M0 M' → K (cl99 ((prun q F []).reverse[0]?.getD 0)) M') :
    ∀ (f i : Nat) (st : List Int32) (M : Mem), f + i = F.length → st = prun q (F.take i) [] → st.length ≤ 31 → Sv M0 M → (∀ j, j < 5 → ri M 67 j = q (j + 1)) → Stk2 M st → RI (d + 2) μX9_growth 97 [(0, .ref 58), (1, .int p), (2, .int (nI st.length)), (3, .int (nI i))] [] M K := by
  have h270 := hF.2.2.1
  intro f
  induction f with
  | zero =>
    intro i st M hi hst hl hs hq hStk
    have hi : i = F.length := by omega
    subst hi
    rw [List.take_length] at hst
    refine sg_X9_growth_97 ?_
    rw [(hF.keep hs).2.1, if_pos (by rw [nI_leI (by omega) (by omega)]; omega)]
    have hpos := hW.2 q hne
    rw [← hst] at hpos
    have hlen : 0 < st.length := by cases st with | nil => exact absurd rfl hpos | cons x t => simp
    rw [show nx 0 = 0 from rfl, hStk 0 hlen]
    have := hK M hs
    rw [← hst] at this
    exact r_within99 this
  | succ f ih =>
    intro i st M hi hst hl hs hq hStk
    have hlt : i < F.length := by omega
    have hF1 := hF.keep hs
    have henc := hF1.2.2.2.2 i hlt
    have hw := hW.1 q i hlt
    rw [← hst] at hw
    have hmem : F[i]?.getD 0 ∈ F := by rw [List.getElem?_eq_getElem hlt]; exact List.getElem_mem _
    have hrange := hF.2.2.2.1 _ hmem
    have hin : vp_in (nI i) 320 := n_in (by omega) (by decide)
    have hnx : nx (nI i) = i := nI_clamp (by omega)
    generalize hopv : F[i]?.getD 0 = op at henc hw hrange
    have hnext : prun q (F.take (i + 1)) [] = pst q op st := by
      rw [List.take_add_one, List.getElem?_eq_getElem hlt]
      unfold prun
      rw [List.foldl_append]
      show pst q (F[i]) (prun q (F.take i) []) = _
      rw [← hst, ← hopv, List.getElem?_eq_getElem hlt]
      rfl
    have hlen' := pst_len (q := q) (op := op) hl
    have go : ∀ M', Sv M M' → (∀ j, j < 5 → ri M' 67 j = q (j + 1)) → Stk2 M' (pst q op st) → RI (d + 2) μX9_growth 97 [(0, .ref 58), (1, .int p), (2, .int (nI (pst q op st).length)), (3, .int (nI i + 1))] [] M' K := by
      intro M' h1 h2 h3
      rw [nI_1]
      exact ih (i + 1) _ M' (by omega) hnext.symm hlen' (hs.trans h1) h2 h3
    have hq2 : ∀ (M' : Mem) (t : Nat) (x : Int32), M' = wi M 66 t x → ∀ j, j < 5 → ri M' 67 j = q (j + 1) := by
      intro M' t x e j hj
      rw [e, ri_wi, if_neg (fun z => by omega)]
      exact hq j hj
    refine sg_X9_growth_97 ?_
    rw [hF1.2.1, if_neg (by rw [nI_leI (by omega) (by omega)]; omega), hnx]
    refine ⟨hin, ?_⟩
    rcases henc with ⟨e1, e2⟩ | ⟨e1, e2, e3⟩ | ⟨e1, e2, e3⟩ | ⟨e0, e1, e2, j, hj, e3, e4⟩
    · rw [e2, if_neg (by decide)]
      refine ⟨hin, ?_⟩
      rw [if_neg (by decide)]
      refine ⟨hin, ?_⟩
      rw [if_pos rfl]
      match hst2 : st with
      | [] => exact absurd rfl (hw.1 e1)
      | x :: t =>
        simp only [List.length_cons] at hl
        have el : nI (x :: t).length - 1 = nI t.length := nI_pred t.length
        rw [el]
        have ht1 : ri M 66 (nx (nI t.length)) = x := by rw [show nx (nI t.length) = t.length from nI_clamp (by omega)]; exact hStk.top
        refine ⟨n_in (by omega) (by decide), ?_⟩
        rw [ht1]
        have ev : pst q op (x :: t) = (if x = 0 then 1 else 0) :: t := by unfold pst; rw [if_pos e1]
        by_cases cx : x = 0
        · rw [if_pos cx]
          refine r_t1 ⟨n_in (by omega) (by decide), ?_⟩
          intro M1 h1
          rw [show nx (nI t.length) = t.length from nI_clamp (by omega)] at h1
          have := go M1 (by rw [h1]; exact Sv.w6) (hq2 M1 _ _ h1) (by rw [ev, if_pos cx, h1]; exact hStk.tail.push _)
          rw [ev, List.length_cons] at this
          exact this
        · rw [if_neg cx]
          refine r_t0 ⟨n_in (by omega) (by decide), ?_⟩
          intro M1 h1
          rw [show nx (nI t.length) = t.length from nI_clamp (by omega)] at h1
          have := go M1 (by rw [h1]; exact Sv.w6) (hq2 M1 _ _ h1) (by rw [ev, if_neg cx, h1]; exact hStk.tail.push _)
          rw [ev, List.length_cons] at this
          exact this
    · rw [e2, if_neg (by decide)]
      refine ⟨hin, ?_⟩
      rw [if_neg (by decide)]
      refine ⟨hin, ?_⟩
      rw [if_neg (by decide)]
      have h2l := hw.2.1 e1
      match hst2 : st with
      | [] => simp at h2l
      | [x] => simp at h2l
      | y :: x :: t =>
        have el : nI (y :: x :: t).length + -1 = nI (t.length + 1) := by rw [nI_m1]; exact nI_pred (t.length + 1)
        have el2 : nI (t.length + 1) - 1 = nI t.length := nI_pred t.length
        simp only [List.length_cons] at hl
        rw [el, el2, e3]
        have ht1 : ri M 66 (nx (nI t.length)) = x := by rw [show nx (nI t.length) = t.length from nI_clamp (by omega)]; exact hStk.tail.top
        have ht2 : ri M 66 (nx (nI (t.length + 1))) = y := by rw [show nx (nI (t.length + 1)) = t.length + 1 from nI_clamp (by omega)]; exact hStk.top
        refine ⟨hin, n_in (by omega) (by decide), n_in (by omega) (by decide), ?_⟩
        rw [ht1, ht2]
        refine r_done e1 hrange ?_
        refine ⟨n_in (by omega) (by decide), ?_⟩
        intro M3 h3
        rw [show nx (nI t.length) = t.length from nI_clamp (by omega)] at h3
        have ev : pst q op (y :: x :: t) = jn op x y :: t := by
          unfold pst
          rw [if_neg (fun z => by rw [z] at e1; exact absurd e1 (by decide)), if_pos e1]
        have := go M3 (by rw [h3]; exact Sv.w6) (hq2 M3 _ _ h3) (by rw [ev, h3]; exact hStk.tail.tail.push _)
        rw [ev, List.length_cons] at this
        exact this
    · rw [e2, if_pos rfl]
      refine sg_X9_growth_124 ?_
      rw [hnx, e2]
      refine ⟨hin, ?_⟩
      rw [if_pos rfl, e3]
      have n6 : (-6 : Int32).toInt = -6 := by decide
      have n0 : (0 : Int32).toInt = 0 := by decide
      have k0 := Int32.le_iff_toInt_le.mp e1
      have c6 : -6 < op := Int32.lt_iff_toInt_lt.mpr (by omega)
      have hl31 := hw.2.2 c6
      refine ⟨hin, n_in (by omega) (by decide), ?_⟩
      intro M1 h1
      rw [show nx (nI st.length) = st.length from nI_clamp (by omega)] at h1
      have ev : pst q op st = op :: st := by
        unfold pst
        rw [if_neg (fun z => by rw [z] at c6; exact absurd c6 (by decide)), if_neg (fun z => absurd (Int32.le_of_lt z) (i_nle.mpr c6)), if_pos hl31, if_neg (i_nlt.mpr e1)]
      have := go M1 (by rw [h1]; exact Sv.w6) (hq2 M1 _ _ h1) (by rw [ev, h1]; exact hStk.push _)
      rw [ev, List.length_cons, ← nI_1] at this
      exact this
    · rw [e2, if_neg (by decide)]
      refine ⟨hin, ?_⟩
      rw [if_pos rfl]
      refine sg_X9_growth_124 ?_
      rw [hnx, e2]
      refine ⟨hin, ?_⟩
      rw [if_neg (by decide), e3]
      have hl31 := hw.2.2 e0
      refine ⟨hin, n_in (by omega) (by decide), n_in (by omega) (by decide), ?_⟩
      intro M1 h1
      rw [show nx (nI st.length) = st.length from nI_clamp (by omega), show nx (nI j) = j from nI_clamp (by omega), hq j hj] at h1
      have ev : pst q op st = q (j + 1) :: st := by
        unfold pst
        rw [if_neg (fun z => by rw [z] at e0; exact absurd e0 (by decide)), if_neg (fun z => absurd (Int32.le_of_lt z) (i_nle.mpr e0)), if_pos hl31, if_pos e1, e4, show nx (nI (j + 1)) = j + 1 from nI_clamp (by omega)]
      have := go M1 (by rw [h1]; exact Sv.w6) (hq2 M1 _ _ h1) (by rw [ev, h1]; exact hStk.push _)
      rw [ev, List.length_cons, ← nI_1] at this
      exact this
