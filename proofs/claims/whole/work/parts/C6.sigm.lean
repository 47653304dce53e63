/-! the model's small steps -/
/-- no fault is said yet (one may wait: a token that is none) -/
def RN (M : Mem) (L : Nat) (T : Nat → Nat) (σ : Rdg) : Prop := ri M 58 2 = 0 ∧ match σ with
  | .inl a => RT M L T a ∧ a ≤ L ∧ tK T L a ≠ 3 ∧ ri M 58 3 = -1
  | .inr x => x.1 = 1 ∧ ri M 58 6 = 3 ∧ ri M 58 7 = nI x.2
def RF (M : Mem) (x : Nat × Nat) : Prop := ri M 58 2 = nI x.1 ∧ ri M 58 3 = nI x.2 ∧ 0 < x.1 ∧ x.1 < 10
def RS (M : Mem) (L : Nat) (T : Nat → Nat) (σ : Rdg) : Prop := RN M L T σ ∨ ∃ x, σ = .inr x ∧ RF M x
/-- no fault is said, and c; or one is -/
def RO (M : Mem) (L : Nat) (T : Nat → Nat) (σ : Rdg) (c : Prop) : Prop := (RN M L T σ ∧ c) ∨ ∃ x, σ = .inr x ∧ RF M x
theorem RO.rs {M : Mem} {L : Nat} {T : Nat → Nat} {σ : Rdg} {c : Prop} (h : RO M L T σ c) : RS M L T σ := by
  rcases h with h | h
  · exact Or.inl h.1
  · exact Or.inr h
theorem RF.ne {M : Mem} {x : Nat × Nat} (h : RF M x) : ¬ ri M 58 2 = 0 := by
  rw [h.1]; intro q
  have := nI_inj (a := x.1) (b := 0) (by have := h.2.2; omega) (by omega) q
  have := h.2.2; omega
theorem RF.gt {M : Mem} {x : Nat × Nat} (h : RF M x) : ¬ ri M 58 2 ≤ 0 := by
  rw [h.1, show (0 : Int32) = nI 0 from rfl, nI_leI (by have := h.2.2; omega) (by omega)]
  have := h.2.2; omega
theorem RN.le {M : Mem} {L : Nat} {T : Nat → Nat} {σ : Rdg} (h : RN M L T σ) : ri M 58 2 ≤ 0 := by rw [h.1]; decide
theorem RN.keep {M M' : Mem} {L : Nat} {T : Nat → Nat} {σ : Rdg} (h : RN M L T σ) (e : ∀ j, j = 2 ∨ j = 3 ∨ j = 4 ∨ j = 6 ∨ j = 7 ∨ j = 8 → ri M' 58 j = ri M 58 j) (el : rl M' 58 9 = rl M 58 9) : RN M' L T σ := by
  refine ⟨by rw [e 2 (by omega)]; exact h.1, ?_⟩
  cases σ with
  | inl a =>
    obtain ⟨-, ⟨h1, h2, h3, h4, h5⟩, h6, h7, h8⟩ := h
    exact ⟨⟨by rw [e 6 (by omega)]; exact h1, by rw [e 7 (by omega)]; exact h2, fun q => by rw [e 4 (by omega)]; exact h3 q, fun q => by rw [el]; exact h4 q, fun q => by rw [e 8 (by omega)]; exact h5 q⟩, h6, h7, by rw [e 3 (by omega)]; exact h8⟩
  | inr x =>
    obtain ⟨-, h1, h2, h3⟩ := h
    exact ⟨h1, by rw [e 6 (by omega)]; exact h2, by rw [e 7 (by omega)]; exact h3⟩
theorem RF.keep {M M' : Mem} {x : Nat × Nat} (h : RF M x) (e2 : ri M' 58 2 = ri M 58 2) (e3 : ri M' 58 3 = ri M 58 3) : RF M' x := ⟨by rw [e2]; exact h.1, by rw [e3]; exact h.2.1, h.2.2⟩
theorem RS.keep {M M' : Mem} {L : Nat} {T : Nat → Nat} {σ : Rdg} (h : RS M L T σ) (e : ∀ j, j = 2 ∨ j = 3 ∨ j = 4 ∨ j = 6 ∨ j = 7 ∨ j = 8 → ri M' 58 j = ri M 58 j) (el : rl M' 58 9 = rl M 58 9) : RS M' L T σ := by
  rcases h with h | ⟨x, hx, h⟩
  · exact Or.inl (h.keep (fun j hj => e j (by omega)) el)
  · exact Or.inr ⟨x, hx, h.keep (e 2 (by omega)) (e 3 (by omega))⟩
theorem r_tok {d L a : Nat} {T : Nat → Nat} {M : Mem} {K : Mem → Prop} (hT : TZ M L T) (hO : TOk L T) (h : RN M L T (.inl a)) (hK : ∀ M', QTm M M' → RN M' L T (nxt T L (.inl a)) → K M') : CV (d + 1) μX9_token [.ref 58] M K := by
  obtain ⟨h0, h1, h2, h3, h33⟩ := h
  have hE := tE_le (T := T) h2
  refine r_token hT hO (h1.2.2.1 h3) hE (fun M' q c => hK M' q.1 ⟨by rw [q.2.1]; exact h0, ?_⟩)
  show match tA T L (tE T L a) with
    | .inl a => RT M' L T a ∧ a ≤ L ∧ tK T L a ≠ 3 ∧ ri M' 58 3 = -1
    | .inr x => x.1 = 1 ∧ ri M' 58 6 = 3 ∧ ri M' 58 7 = nI x.2
  unfold tA
  by_cases h3 : tK T L (tE T L a) = 3
  · rw [if_pos h3]; exact ⟨rfl, by rw [c.1, h3]; rfl, c.2.1⟩
  · rw [if_neg h3]; exact ⟨c, hE, h3, by rw [q.2.2]; exact h33⟩
theorem r_wrong {d L f : Nat} {T : Nat → Nat} {M : Mem} {K : Mem → Prop} {σ : Rdg} (hf : 0 < f ∧ f < 10) (h : RN M L T σ) (hK : ∀ M', QTm M M' → RF M' (blP T L f σ) → K M') : CV d μX9_wrong [.ref 58, .int (nI f)] M K := by
  refine sg_X9_wrong_0 ?_
  rw [if_pos h.le]
  have go : ∀ (g p : Nat), (0 < g ∧ g < 10) → ri M 58 7 = nI p → blP T L f σ = (g, p) → ∀ M1, M1 = wi M 58 2 (nI g) → ∀ M2, M2 = wi M1 58 3 (ri M1 58 7) → K M2 := by
    intro g p hg h7 hb M1 g1 M2 g2
    have r1 : ∀ k j, ri M1 k j = if k = 58 ∧ j = 2 then nI g else ri M k j := by intro k j; rw [g1, ri_wi]
    rw [show ri M1 58 7 = nI p by rw [r1, if_neg (by omega)]; exact h7] at g2
    have r2 : ∀ k j, ri M2 k j = if k = 58 ∧ j = 3 then nI p else ri M1 k j := by intro k j; rw [g2, ri_wi]
    refine hK M2 (QTm.trans (show QTm M M1 by rw [g1]; exact qt_w (by omega)) (by rw [g2]; exact qt_w (by omega))) ?_
    rw [hb]
    exact ⟨by rw [r2, if_neg (by omega), r1, if_pos ⟨rfl, rfl⟩], by rw [r2, if_pos ⟨rfl, rfl⟩], hg⟩
  cases σ with
  | inl a =>
    obtain ⟨h0, h1, h2, h3, h33⟩ := h
    rw [h1.1, if_neg (show ¬ nI (tK T L a) = 3 from fun q => h3 (nI_inj (b := 3) (by have := tKc T L a; omega) (by omega) q))]
    exact go f (tS T L a) hf h1.2.1 rfl
  | inr x =>
    obtain ⟨h0, h1, h2, h3⟩ := h
    rw [h2, if_pos rfl]
    exact go 1 x.2 (by omega) h3 (by show x = (1, x.2); rw [← h1])
theorem r_wrongF {d : Nat} {M : Mem} {K : Mem → Prop} {x : Nat × Nat} {y : Int32} (h : RF M x) (hK : K M) : CV d μX9_wrong [.ref 58, .int y] M K := by
  refine sg_X9_wrong_0 ?_
  rw [if_neg h.gt]; exact hK
theorem RN.k {M : Mem} {L : Nat} {T : Nat → Nat} {σ : Rdg} (h : RN M L T σ) {k : Nat} (hk : k ≠ 3) (hk2 : k < 1000) : ri M 58 6 = nI k ↔ isK T L k σ = true := by
  cases σ with
  | inl a =>
    obtain ⟨h0, h1, h2, h3⟩ := h
    rw [h1.1]
    show _ ↔ decide (tK T L a = k) = true
    rw [decide_eq_true_iff]
    exact ⟨fun q => nI_inj (by have := tKc T L a; omega) (by omega) q, fun q => by rw [q]⟩
  | inr x =>
    obtain ⟨h0, h1, h2, h3⟩ := h
    rw [h2]
    exact ⟨fun q => absurd (nI_inj (a := 3) (by omega) (by omega) q) (fun z => hk z.symm), fun q => by cases q⟩
theorem RN.w {M : Mem} {L : Nat} {T : Nat → Nat} {σ : Rdg} (h : RN M L T σ) (h1 : isK T L 1 σ = true) : rl M 58 9 = lN (v256 (sW T L σ)) ∧ WO (sW T L σ) := by
  cases σ with
  | inl a =>
    have q := of_decide_eq_true (show decide (tK T L a = 1) = true from h1)
    exact ⟨h.2.1.2.2.2.1 q, tW_ok q⟩
  | inr x => cases h1
theorem RN.n {M : Mem} {L : Nat} {T : Nat → Nat} {σ : Rdg} (h : RN M L T σ) (h1 : isK T L 2 σ = true) : ri M 58 8 = nI (sN T L σ) := by
  cases σ with
  | inl a => exact h.2.1.2.2.2.2 (of_decide_eq_true (show decide (tK T L a = 2) = true from h1))
  | inr x => cases h1
theorem r_isWord {d L w : Nat} {T : Nat → Nat} {M : Mem} {K : Int32 → Mem → Prop} {σ : Rdg} {c : Int64} (hw : w < 14) (hc : c = lN (v256 (own w))) (h : RN M L T σ) (hK : K (bI (isO T L w σ)) M) : CI d μX9_isWord [.ref 58, .long c] M K := by
  refine sg_X9_isWord_0 ?_
  unfold isO at hK
  have hk : ri M 58 6 = 1 ↔ isK T L 1 σ = true := h.k (k := 1) (by omega) (by omega)
  by_cases h1 : isK T L 1 σ = true
  · obtain ⟨e9, hwo⟩ := h.w h1
    rw [show ri M 58 6 = 1 from hk.mpr h1, if_pos rfl, e9, hc]
    rw [h1, Bool.true_and] at hK
    have e := n256_eq hwo (own_ok hw)
    by_cases hq : sW T L σ = own w
    · rw [if_pos ((lg_cmp_eq _ _).mpr (e.mpr hq))]; rw [decide_eq_true hq] at hK; exact hK
    · rw [if_neg (fun z => hq (e.mp ((lg_cmp_eq _ _).mp z)))]; rw [decide_eq_false hq] at hK; exact hK
  · rw [if_neg (fun q => h1 (hk.mp q))]
    rw [Bool.eq_false_iff.mpr h1, Bool.false_and] at hK; exact hK
theorem ow_lord : (1819243108 : Int64) = lN (v256 (own 0)) := by decide +kernel
theorem ow_flip : (1718380912 : Int64) = lN (v256 (own 1)) := by decide +kernel
theorem ow_grows : (444301539187 : Int64) = lN (v256 (own 2)) := by decide +kernel
theorem ow_straw : (495874892151 : Int64) = lN (v256 (own 3)) := by decide +kernel
theorem ow_draw : (1685217655 : Int64) = lN (v256 (own 4)) := by decide +kernel
theorem ow_size : (1936292453 : Int64) = lN (v256 (own 5)) := by decide +kernel
theorem ow_at : (24948 : Int64) = lN (v256 (own 6)) := by decide +kernel
theorem ow_or : (28530 : Int64) = lN (v256 (own 7)) := by decide +kernel
theorem ow_and : (6385252 : Int64) = lN (v256 (own 8)) := by decide +kernel
theorem ow_not : (7237492 : Int64) = lN (v256 (own 9)) := by decide +kernel
theorem ow_sides : (495689426291 : Int64) = lN (v256 (own 10)) := by decide +kernel
theorem ow_near : (1852137842 : Int64) = lN (v256 (own 11)) := by decide +kernel
theorem ow_lords : (465726235763 : Int64) = lN (v256 (own 12)) := by decide +kernel
theorem ow_season : (126879263846254 : Int64) = lN (v256 (own 13)) := by decide +kernel
theorem r_isOwn {d : Nat} {M : Mem} {K : Int32 → Mem → Prop} {l : List Nat} (hl : WO l) (h9 : rl M 58 9 = lN (v256 l)) (hK : K (bI (!decide (owF l 14 = -1))) M) : CI d μX9_isOwn [.ref 58] M K := by
  refine sg_X9_isOwn_0 ?_
  have one : ∀ (w : Nat) (c : Int64) (B : Prop), w < 14 → c = lN (v256 (own w)) → (l ≠ own w → B) → (if lg_cmp (rl M 58 9) c = 0 then K 1 M else B) := by
    intro w c B hw hc hB
    have e := n256_eq hl (own_ok hw)
    rw [h9, hc]
    by_cases hq : l = own w
    · rw [if_pos ((lg_cmp_eq _ _).mpr (e.mpr hq))]
      have : ¬ owF l 14 = -1 := by
        rw [(owF_eq hw).mpr hq]; intro z
        have := nI_nn (v := w) (by omega); rw [z] at this; exact absurd this (by decide)
      rw [decide_eq_false this] at hK; exact hK
    · rw [if_neg (fun z => hq (e.mp ((lg_cmp_eq _ _).mp z)))]; exact hB hq
  refine one 0 _ _ (by omega) ow_lord (fun n0 => ?_)
  refine one 5 _ _ (by omega) ow_size (fun n5 => ?_)
  refine one 6 _ _ (by omega) ow_at (fun n6 => ?_)
  refine one 1 _ _ (by omega) ow_flip (fun n1 => ?_)
  refine one 2 _ _ (by omega) ow_grows (fun n2 => ?_)
  refine one 3 _ _ (by omega) ow_straw (fun n3 => ?_)
  refine one 4 _ _ (by omega) ow_draw (fun n4 => ?_)
  refine one 10 _ _ (by omega) ow_sides (fun n10 => ?_)
  refine one 11 _ _ (by omega) ow_near (fun n11 => ?_)
  refine one 12 _ _ (by omega) ow_lords (fun n12 => ?_)
  refine one 13 _ _ (by omega) ow_season (fun n13 => ?_)
  refine one 8 _ _ (by omega) ow_and (fun n8 => ?_)
  refine one 7 _ _ (by omega) ow_or (fun n7 => ?_)
  refine one 9 _ _ (by omega) ow_not (fun n9 => ?_)
  have : owF l 14 = -1 := owF_none 14 (fun w hw => by
    have : w = 0 ∨ w = 1 ∨ w = 2 ∨ w = 3 ∨ w = 4 ∨ w = 5 ∨ w = 6 ∨ w = 7 ∨ w = 8 ∨ w = 9 ∨ w = 10 ∨ w = 11 ∨ w = 12 ∨ w = 13 := by omega
    rcases this with rfl | rfl | rfl | rfl | rfl | rfl | rfl | rfl | rfl | rfl | rfl | rfl | rfl | rfl <;> assumption)
  rw [decide_eq_true this] at hK; exact hK
theorem r_isName {d L : Nat} {T : Nat → Nat} {M : Mem} {K : Int32 → Mem → Prop} {σ : Rdg} (h : RN M L T σ) (hK : K (bI (isN T L σ)) M) : CI (d + 1) μX9_isName [.ref 58] M K := by
  refine sg_X9_isName_0 ?_
  unfold isN at hK
  have hk : ri M 58 6 = 1 ↔ isK T L 1 σ = true := h.k (k := 1) (by omega) (by omega)
  by_cases h1 : isK T L 1 σ = true
  · obtain ⟨e9, hwo⟩ := h.w h1
    rw [show ri M 58 6 = 1 from hk.mpr h1, if_pos rfl]
    rw [h1, Bool.true_and] at hK
    refine r_isOwn hwo e9 ?_
    cases hc : decide (owF (sW T L σ) 14 = -1) with
    | true => rw [if_pos (by decide)]; rw [hc] at hK; exact hK
    | false => rw [if_neg (by decide)]; rw [hc] at hK; exact hK
  · rw [if_neg (fun q => h1 (hk.mp q))]
    rw [Bool.eq_false_iff.mpr h1, Bool.false_and] at hK; exact hK
theorem RS.wrong {d L f : Nat} {T : Nat → Nat} {M : Mem} {K : Mem → Prop} {σ : Rdg} (hf : 0 < f ∧ f < 10) (h : RS M L T σ) (hK : ∀ M', QTm M M' → RF M' (blP T L f σ) → K M') : CV d μX9_wrong [.ref 58, .int (nI f)] M K := by
  rcases h with h | ⟨x, hx, h⟩
  · exact r_wrong hf h hK
  · subst hx; exact r_wrongF h (hK M QTm.rf h)
theorem r_want {d L w : Nat} {T : Nat → Nat} {M : Mem} {K : Mem → Prop} {σ : Rdg} {c : Int64} (hw : w < 14) (hc : c = lN (v256 (own w))) (hT : TZ M L T) (hO : TOk L T) (h : RS M L T σ) (hK : ∀ M', QTm M M' → RO M' L T (twS T L w σ) (isO T L w σ = true) → K M') : CV (d + 2) μX9_want [.ref 58, .long c] M K := by
  refine sg_X9_want_0 ?_
  rcases h with h | ⟨x, hx, h⟩
  · rw [if_pos h.le]
    refine r_isWord hw hc h ?_
    unfold twS at hK
    cases hb : isO T L w σ with
    | true =>
      rw [hb, if_pos rfl] at hK
      rw [if_neg (by decide)]
      cases σ with
      | inl a => exact r_tok hT hO h (fun M' q c => hK M' q (Or.inl ⟨c, rfl⟩))
      | inr x => cases hb
    | false =>
      rw [hb, if_neg (by decide)] at hK
      rw [if_pos (by decide)]
      exact r_wrong (f := 2) (by omega) h (fun M' q c => hK M' q (Or.inr ⟨_, rfl, c⟩))
  · subst hx
    rw [if_neg h.gt]
    exact hK M QTm.rf (Or.inr ⟨x, rfl, h⟩)
theorem r_toldNumber {d L most : Nat} {T : Nat → Nat} {M : Mem} {K : Int32 → Mem → Prop} {σ : Rdg} (hm : most < 10000) (hT : TZ M L T) (hO : TOk L T) (h : RS M L T σ) (hK : ∀ r M', QTm M M' → RO M' L T (tnS T L most σ) ((isK T L 2 σ = true ∧ sN T L σ ≤ most) ∧ r = nI (tnV T L most σ)) → K r M') : CI (d + 2) μX9_toldNumber [.ref 58, .int (nI most)] M K := by
  refine sg_X9_toldNumber_0 ?_
  rcases h with h | ⟨x, hx, h⟩
  · rw [if_pos h.le]
    have hk : ri M 58 6 = 2 ↔ isK T L 2 σ = true := h.k (k := 2) (by omega) (by omega)
    have bad : ∀ (f : Nat), ¬ (isK T L 2 σ = true ∧ sN T L σ ≤ most) → tnS T L most σ = blm T L f σ → (0 < f ∧ f < 10) → CV (d + 1) μX9_wrong [.ref 58, .int (nI f)] M (fun M1 => RI (d + 2) μX9_toldNumber 38 [(0, .ref 58), (1, .int (nI most))] [] M1 K) := by
      intro f hn hs hf
      refine r_wrong hf h (fun M1 q1 c1 => ?_)
      refine sg_X9_toldNumber_38 ?_
      rw [if_neg c1.ne]
      exact hK _ M1 q1 (by rw [hs]; exact Or.inr ⟨_, rfl, c1⟩)
    by_cases h2 : isK T L 2 σ = true
    · have hl := sN_lt h2
      rw [show ri M 58 6 = 2 from hk.mpr h2, if_pos rfl, h.n h2]
      by_cases hc : sN T L σ ≤ most
      · rw [if_pos (by rw [nI_leI (by omega) (by omega)]; exact hc)]
        refine sg_X9_toldNumber_38 ?_
        rw [h.1, if_pos rfl, h.n h2]
        have e1 : tnS T L most σ = nxt T L σ := by unfold tnS; rw [if_pos h2, if_pos hc]
        have e2 : tnV T L most σ = sN T L σ := by unfold tnV; rw [if_pos ⟨h2, hc⟩]
        rw [e1, e2] at hK
        cases σ with
        | inl a => exact r_tok hT hO h (fun M' q c => hK _ M' q (Or.inl ⟨c, ⟨h2, hc⟩, rfl⟩))
        | inr x => cases h2
      · rw [if_neg (by rw [nI_leI (by omega) (by omega)]; exact hc)]
        exact bad 4 (fun z => hc z.2) (by unfold tnS; rw [if_pos h2, if_neg hc]) (by omega)
    · rw [if_neg (fun q => h2 (hk.mp q))]
      exact bad 2 (fun z => h2 z.1) (by unfold tnS; rw [if_neg h2]) (by omega)
  · subst hx
    rw [if_neg h.gt]
    exact hK 0 M QTm.rf (Or.inr ⟨x, rfl, h⟩)
theorem r_told {d L w most : Nat} {T : Nat → Nat} {M : Mem} {K : Int32 → Mem → Prop} {σ : Rdg} {c : Int64} (hw : w < 14) (hc : c = lN (v256 (own w))) (hm : most < 10000) (hT : TZ M L T) (hO : TOk L T) (h : RS M L T σ) (hK : ∀ r M', QTm M M' → RO M' L T (tnS T L most (twS T L w σ)) ((isK T L 2 (twS T L w σ) = true ∧ sN T L (twS T L w σ) ≤ most) ∧ r = nI (tnV T L most (twS T L w σ))) → K r M') : CI (d + 3) μX9_told [.ref 58, .long c, .int (nI most)] M K := by
  refine sg_X9_told_0 (r_want hw hc hT hO h (fun M1 q1 c1 => ?_))
  exact r_toldNumber hm (hT.qt q1) hO c1.rs (fun r M2 q2 c2 => hK r M2 (q1.trans q2) c2)
/-- the names that the model has read -/
def NM (M : Mem) (NL : List (List Nat)) : Prop := ri M 58 31 = nI NL.length ∧ NL.length ≤ 8 ∧ (∀ k, k < NL.length → rl M 60 k = lN (v256 (NL.getD k []))) ∧ ∀ l ∈ NL, WO l
def NLd (NL : List (List Nat)) : Prop := ∀ i j, i < NL.length → j < NL.length → NL.getD i [] = NL.getD j [] → i = j
theorem NM.wo {M : Mem} {NL : List (List Nat)} (h : NM M NL) {k : Nat} (hk : k < NL.length) : WO (NL.getD k []) := by
  rw [show NL.getD k [] = NL[k] by simp [List.getD, hk]]
  exact h.2.2.2 _ (List.getElem_mem hk)
def rfN (NL : List (List Nat)) (l : List Nat) : Nat → Option Nat
  | 0 => none
  | q + 1 => if NL.getD q [] = l then some q else rfN NL l q
theorem rfN_fnd {NL : List (List Nat)} {l : List Nat} (hd : NLd NL) : ∀ q, q ≤ NL.length → (∀ i, rfN NL l q = some i → i < q ∧ NL.getD i [] = l) ∧ (rfN NL l q = none → ∀ i, i < q → NL.getD i [] ≠ l)
  | 0, _ => ⟨fun i h => (by cases h), fun _ i h => absurd h (Nat.not_lt_zero _)⟩
  | q + 1, hq => by
    have ih := rfN_fnd (l := l) hd q (by omega)
    unfold rfN
    by_cases hc : NL.getD q [] = l
    · rw [if_pos hc]; exact ⟨fun i h => by cases h; exact ⟨by omega, hc⟩, fun h => by cases h⟩
    · rw [if_neg hc]
      refine ⟨fun i h => ⟨by have := (ih.1 i h).1; omega, (ih.1 i h).2⟩, fun h i hi => ?_⟩
      by_cases hiq : i = q
      · rw [hiq]; exact hc
      · exact ih.2 h i (by omega)
theorem rfN_eq {NL : List (List Nat)} {l : List Nat} (hd : NLd NL) : rfN NL l NL.length = fnd NL l := by
  have h := rfN_fnd (l := l) hd NL.length (Nat.le_refl _)
  cases h1 : rfN NL l NL.length with
  | none =>
    cases h2 : fnd NL l with
    | none => rfl
    | some i => have := fnd_some h2; exact absurd this.2 (h.2 h1 i this.1)
  | some i =>
    have hi := h.1 i h1
    cases h2 : fnd NL l with
    | none => exact absurd hi.2 (fnd_none h2 i hi.1)
    | some j => have hj := fnd_some h2; rw [hd i j hi.1 hj.1 (by rw [hi.2, hj.2])]
theorem r_find {d : Nat} {M : Mem} {K : Int32 → Mem → Prop} {NL : List (List Nat)} {l : List Nat} (hN : NM M NL) (hd : NLd NL) (hl : WO l) (h9 : rl M 58 9 = lN (v256 l)) (hK : K (oI (fnd NL l)) M) : CI d μX9_find [.ref 58] M K := by
  have h8 := hN.2.1
  refine sg_X9_find_0 ?_
  rw [← rfN_eq hd] at hK
  have loop : ∀ (k q : Nat), k + q = NL.length → RI d μX9_find 4 [(0, .ref 58), (1, .int (oI (rfN NL l q))), (2, .int (nI q))] [] M K := by
    intro k
    induction k with
    | zero =>
      intro q hq
      have hq : q = NL.length := by omega
      subst hq
      refine sg_X9_find_4 ?_
      rw [hN.1, if_pos (by rw [nI_leI (by omega) (by omega)]; omega)]
      exact hK
    | succ k ih =>
      intro q hq
      have hn := ih (q + 1) (by omega)
      unfold rfN at hn
      refine sg_X9_find_4 ?_
      rw [hN.1, if_neg (by rw [nI_leI (by omega) (by omega)]; omega), show nx (nI q) = q from nI_clamp (by omega), hN.2.2.1 q (by omega), h9, nI_1]
      refine ⟨n_in (by omega) (by decide), ?_⟩
      have e := n256_eq (hN.wo (k := q) (by omega)) hl
      by_cases hc : NL.getD q [] = l
      · rw [if_pos ((lg_cmp_eq _ _).mpr (e.mpr hc))]; rw [if_pos hc] at hn; exact hn
      · rw [if_neg (fun z => hc (e.mp ((lg_cmp_eq _ _).mp z)))]; rw [if_neg hc] at hn; exact hn
  exact loop NL.length 0 rfl
theorem NM.qt {M M' : Mem} {NL : List (List Nat)} (h : NM M NL) (q : QTm M M') : NM M' NL := ⟨by rw [q.1 58 31 (by omega)]; exact h.1, h.2.1, fun k hk => by rw [q.2 60 k (by omega)]; exact h.2.2.1 k hk, h.2.2.2⟩
theorem oI_lt {o : Option Nat} (h : ∀ i, o = some i → i < 100) : oI o < 0 ↔ o = none := by
  cases o with
  | none => exact ⟨fun _ => rfl, fun _ => (by decide)⟩
  | some i => exact ⟨fun q => absurd q (i_nlt.mpr (nI_nn (by have := h i rfl; omega))), fun q => by cases q⟩
theorem r_oldLord {d L : Nat} {T : Nat → Nat} {M : Mem} {K : Int32 → Mem → Prop} {NL : List (List Nat)} {σ : Rdg} (hN : NM M NL) (hd : NLd NL) (h : RS M L T σ) (hK : ∀ r M', QTm M M' → RO M' L T (lhS T L NL σ) (∃ k, lhV T L NL σ = some k ∧ r = nI k) → K r M') : CI (d + 2) μX9_oldLord [.ref 58] M K := by
  refine sg_X9_oldLord_0 ?_
  rcases h with h | ⟨x, hx, h⟩
  · rw [if_pos h.le]
    refine r_isName h ?_
    have bad : ∀ (f : Nat), lhV T L NL σ = none → lhS T L NL σ = blm T L f σ → (0 < f ∧ f < 10) → CV (d + 1) μX9_wrong [.ref 58, .int (nI f)] M (fun M1 => RI (d + 2) μX9_oldLord 36 [(0, .ref 58)] [] M1 K) := by
      intro f hv hs hf
      refine r_wrong hf h (fun M1 q1 c1 => ?_)
      refine sg_X9_oldLord_36 ?_
      rw [if_neg c1.gt]
      exact hK 0 M1 q1 (by rw [hs]; exact Or.inr ⟨_, rfl, c1⟩)
    cases hn : isN T L σ with
    | false =>
      rw [if_pos (by decide)]
      exact bad 2 (by unfold lhV; rw [hn, if_neg (by decide)]) (by unfold lhS; rw [hn, if_neg (by decide)]) (by omega)
    | true =>
      rw [if_neg (by decide)]
      have h1 : isK T L 1 σ = true := by unfold isN at hn; exact (Bool.and_eq_true _ _ ▸ hn).1
      obtain ⟨e9, hwo⟩ := h.w h1
      refine r_find hN hd hwo e9 ?_
      have hm := oI_lt (o := fnd NL (sW T L σ)) (fun i hi => by have := (fnd_some hi).1; have := hN.2.1; omega)
      cases hf : fnd NL (sW T L σ) with
      | none =>
        rw [if_neg (by decide)]
        exact bad 5 (by unfold lhV; rw [hn, if_pos rfl, hf]) (by unfold lhS; rw [hn, if_pos rfl, if_pos hf]) (by omega)
      | some k =>
        have hk := (fnd_some hf).1
        have := hN.2.1
        rw [if_pos (show (0 : Int32) ≤ oI (some k) from nI_nn (v := k) (by omega))]
        refine sg_X9_oldLord_36 ?_
        rw [if_pos h.le]
        refine r_find hN hd hwo e9 ?_
        rw [hf]
        refine hK _ M QTm.rf (Or.inl ⟨?_, k, ?_, rfl⟩)
        · unfold lhS; rw [hn, if_pos rfl, if_neg (by rw [hf]; intro z; cases z)]; exact h
        · unfold lhV; rw [hn, if_pos rfl, hf]
  · subst hx
    rw [if_neg h.gt]
    exact hK 0 M QTm.rf (Or.inr ⟨x, rfl, h⟩)
