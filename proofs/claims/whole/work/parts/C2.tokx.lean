/-! the class reads a token -/
theorem n_sub {a b : Nat} (h : b ≤ a) : nI a - nI b = nI (a - b) := by
  have e : nI a = nI (a - b) + nI b := by rw [nI_add, Nat.sub_add_cancel h]
  rw [e, Int32.add_sub_cancel]
/-- what a reading may write; while no fault is said, fault and place stay -/
def QA (M M' : Mem) : Prop := (∀ k j, k ≠ 1 ∨ j = 2 ∨ j = 3 ∨ (j < 2 ∧ ri M' 1 0 = 0) → ri M' k j = ri M k j) ∧ ∀ k j, k ≠ 1 → rl M' k j = rl M k j
theorem QA.rf {M : Mem} : QA M M := ⟨fun _ _ _ => rfl, fun _ _ _ => rfl⟩
theorem QA.trans {M M' M'' : Mem} (h : QA M M') (h2 : QA M' M'') : QA M M'' := by
  refine ⟨fun k j a => ?_, fun k j a => (h2.2 k j a).trans (h.2 k j a)⟩
  rcases a with a | a | a | ⟨a, b⟩
  · exact (h2.1 k j (Or.inl a)).trans (h.1 k j (Or.inl a))
  · exact (h2.1 k j (Or.inr (Or.inl a))).trans (h.1 k j (Or.inr (Or.inl a)))
  · exact (h2.1 k j (Or.inr (Or.inr (Or.inl a)))).trans (h.1 k j (Or.inr (Or.inr (Or.inl a))))
  · have b' : ri M' 1 0 = 0 := by rw [← h2.1 1 0 (Or.inr (Or.inr (Or.inr ⟨by omega, b⟩)))]; exact b
    exact (h2.1 k j (Or.inr (Or.inr (Or.inr ⟨a, b⟩)))).trans (h.1 k j (Or.inr (Or.inr (Or.inr ⟨a, b'⟩))))
theorem qa_w {M : Mem} {j : Nat} {x : Int32} (h2 : j ≠ 2) (h3 : 4 ≤ j) : QA M (wi M 1 j x) := ⟨fun k i h => by rw [ri_wi, if_neg (fun q => by rcases h with a | a | a | ⟨a, _⟩ <;> omega)], fun _ _ _ => rfl⟩
theorem qa_l {M : Mem} {j : Nat} {x : Int64} : QA M (wl M 1 j x) := ⟨fun _ _ _ => rfl, fun k i h => by rw [rl_wl, if_neg (fun q => h q.1)]⟩
theorem TX.qa {M M' : Mem} {L : Nat} {T : Nat → Nat} (h : TX M L T) (q : QA M M') : TX M' L T := ⟨by rw [q.1 1 2 (by omega)]; exact h.1, fun i hi => by rw [q.1 14 i (by omega)]; exact h.2 i hi⟩
theorem j_latin {d i : Nat} {M : Mem} {K : Int32 → Mem → Prop} (hi : i < 2) (h : K 1 M) : CI d μJ0_isLatin1_aae02 [.ref (102 + 2 * i)] M K := by
  refine sg_J0_isLatin1_aae02_0 hi ?_
  rw [if_neg (by decide), if_pos rfl]; exact h
theorem chr_tab : ((List.range 112).all fun k => decide (((((bytS.getD 1 []).getD k 0) &&& 255).toUInt32 % 65536).toInt32 = nI (wdB k)) && decide (wdB k < 256)) = true := by decide +kernel
theorem nar_tab : ((List.range 256).all fun b => match narrow .char (.int (nI b)) with
  | .int y => decide (y = nI b)
  | _ => false) = true := by decide +kernel
theorem nar_c {b : Nat} (hb : b < 256) : narrow .char (.int (nI b)) = .int (nI b) := by
  have h := List.all_eq_true.mp nar_tab b (List.mem_range.mpr hb)
  revert h
  cases narrow .char (.int (nI b)) with
  | int y => intro h; rw [of_decide_eq_true h]
  | _ => intro h; cases h
theorem j_charAt {d k : Nat} {M : Mem} {K : Int32 → Mem → Prop} (hk : k < 112) (h : K (nI (wdB k)) M) : CI (d + 4) μJ0_charAt_5068e [.ref (102 + 2 * 1), .int (nI k)] M K := by
  have ht := List.all_eq_true.mp chr_tab k (List.mem_range.mpr hk)
  rw [Bool.and_eq_true] at ht
  have e := of_decide_eq_true ht.1
  have hb := of_decide_eq_true ht.2
  refine sg_J0_charAt_5068e_0 (by decide) (j_latin (by decide) ?_)
  rw [if_neg (by decide)]
  refine sg_J1_charAt_3b067_0 (by decide) ?_
  refine sg_J0_checkIndex_df160_0 (fun v hv => ?_)
  refine sg_J3_checkIndex_8e157_0 ?_
  rw [if_neg (i_nlt.mpr (nI_nn (by omega))), if_pos (by show nI k < nI 112; rw [nI_ltI (by omega) (by omega)]; exact hk)]
  rw [show nx (nI k) = k from nI_clamp (by omega), e]
  exact ⟨n_in hk (by decide), nar_c hb, nar_c hb, h⟩
def sgF (y : Int32) : Nat → Int32
  | 0 => -1
  | k + 1 => if (bytS.getD 0 []).getD (11 - (k + 1)) 0 = y then nI (11 - (k + 1)) else sgF y k
theorem j_ixc {d : Nat} {M : Mem} {K : Int32 → Mem → Prop} {x1 x2 y : Int32} : ∀ (k q : Nat), k + q = 11 → K (sgF y k) M → RI d μJ1_indexOfChar_4cfef 7 [(0, .ref (103 + 2 * 0)), (1, .int x1), (2, .int x2), (3, .int (nI 11)), (4, .int y), (5, .int (nI q))] [] M K := by
  intro k
  induction k with
  | zero =>
    intro q hq h
    have hq : q = 11 := by omega
    subst hq
    refine sg_J1_indexOfChar_4cfef_7 (by decide) ?_
    rw [if_pos (by decide)]; exact h
  | succ k ih =>
    intro q hq h
    have h : K (if (bytS.getD 0 []).getD (11 - (k + 1)) 0 = y then nI (11 - (k + 1)) else sgF y k) M := h
    rw [show 11 - (k + 1) = q by omega] at h
    refine sg_J1_indexOfChar_4cfef_7 (by decide) ?_
    rw [if_neg (by rw [nI_leI (by omega) (by omega)]; omega), show nx (nI q) = q from nI_clamp (by omega)]
    refine ⟨n_in (show q < 11 by omega) (by decide), ?_⟩
    by_cases hc : (bytS.getD 0 []).getD q 0 = y
    · rw [if_pos hc]; rw [if_pos hc] at h; exact h
    · rw [if_neg hc, nI_1]; rw [if_neg hc] at h; exact ih (q + 1) (by omega) h
theorem j_coder {d i : Nat} {M : Mem} {K : Int32 → Mem → Prop} (hi : i < 2) (h : K 0 M) : CI d μJ0_coder_7d493 [.ref (102 + 2 * i)] M K := by
  refine sg_J0_coder_7d493_0 hi ?_
  rw [if_neg (by decide)]; exact ⟨by rfl, h⟩
theorem j_indexOf {d b : Nat} {M : Mem} {K : Int32 → Mem → Prop} (hb : b < 256) (h : K (sgF ((nI b).toInt8.toInt32) 11) M) : CI (d + 4) μJ0_indexOf_0f7a4 [.ref (102 + 2 * 0), .int (nI b)] M K := by
  refine sg_J0_indexOf_0f7a4_0 (by decide) ?_
  refine sg_J0_indexOf_7cf53_0 (by decide) (j_latin (by decide) ?_)
  rw [if_neg (by decide)]
  refine sg_J0_length_8abf5_0 (by decide) (j_coder (by decide) ?_)
  rw [show (Int32.ofNat (lenS.getD 0 0)) >>> ((0 : Int32) &&& 31) = nI 11 by decide]
  refine sg_J1_indexOf_4cfef_0 (by decide) ?_
  refine sg_J1_canEncode_9a6ad_0 ?_
  rw [if_neg (i_nlt.mpr (nI_nn (by omega))), if_neg (by rw [show (255 : Int32) = nI 255 from rfl, nI_ltI (by omega) (by omega)]; omega)]
  rw [if_neg (by decide), show (if (0 : Int32) < 0 then 0 else 0) = nI 0 by decide, show (if Int32.ofNat (lenS.getD 0 0) < nI 11 then Int32.ofNat (lenS.getD 0 0) else nI 11) = nI 11 by decide, if_pos (by decide)]
  refine sg_J1_indexOfChar_4cfef_0 (by decide) ?_
  exact j_ixc 11 0 rfl h
theorem sg_tab : ((List.range 256).all fun b => decide (decide (sgF ((nI b).toInt8.toInt32) 11 < 0) = !sgB b)) = true := by decide +kernel
theorem sgF_iff {b : Nat} (hb : b < 256) : sgF ((nI b).toInt8.toInt32) 11 < 0 ↔ sgB b = false := by
  have h := of_decide_eq_true (List.all_eq_true.mp sg_tab b (List.mem_range.mpr hb))
  cases hg : sgB b with
  | false => rw [hg] at h; exact ⟨fun _ => rfl, fun _ => of_decide_eq_true h⟩
  | true => rw [hg] at h; exact ⟨fun q => absurd q (of_decide_eq_false h), fun q => by cases q⟩
theorem sB_cmp : ((List.range 256).all fun b => decide ((if sB b < 97 then (0 : Int32) else if 122 < sB b then 0 else 1) = bI (lB b)) && decide ((if sB b < 48 then (0 : Int32) else if 57 < sB b then 0 else 1) = bI (dB b)) && decide (decide (sB b = 32) = decide (b = 32)) && decide (decide (sB b = 10) = decide (b = 10)) && decide (((sB b &&& 255).toUInt32 % 65536).toInt32 = nI b)) = true := by decide +kernel
theorem sB_all {b : Nat} (hb : b < 256) : (if sB b < 97 then (0 : Int32) else if 122 < sB b then 0 else 1) = bI (lB b) ∧ (if sB b < 48 then (0 : Int32) else if 57 < sB b then 0 else 1) = bI (dB b) ∧ (sB b = 32 ↔ b = 32) ∧ (sB b = 10 ↔ b = 10) ∧ ((sB b &&& 255).toUInt32 % 65536).toInt32 = nI b := by
  have h := List.all_eq_true.mp sB_cmp b (List.mem_range.mpr hb)
  simp only [Bool.and_eq_true, decide_eq_true_eq] at h
  exact ⟨h.1.1.1.1, h.1.1.1.2, decide_eq_decide.mp h.1.1.2, decide_eq_decide.mp h.1.2, h.2⟩
theorem x_isLetter {d L a : Nat} {T : Nat → Nat} {M : Mem} {K : Int32 → Mem → Prop} (hT : TX M L T) (hO : TOk L T) (ha : a ≤ 1600) (h : K (bI (decide (a < L ∧ lB (T a) = true))) M) : CI d μX6_isLetter [.ref 1, .int (nI a)] M K := by
  have hL := hO.1
  refine sg_X6_isLetter_0 ?_
  rw [hT.1]
  by_cases haL : a < L
  · rw [if_neg (by rw [nI_leI (by omega) (by omega)]; omega), show nx (nI a) = a from nI_clamp (by omega), hT.2 a haL]
    refine ⟨n_in (by omega) (by decide), ?_⟩
    have e := (sB_all (hO.2 a haL)).1
    have h : K (bI (lB (T a))) M := by
      cases hl : lB (T a) with
      | true => rw [hl] at h; rw [decide_eq_true ⟨haL, rfl⟩] at h; exact h
      | false => rw [hl] at h; rw [decide_eq_false (fun q => by cases q.2)] at h; exact h
    rw [← e] at h
    by_cases h1 : sB (T a) < 97
    · rw [if_pos h1]; rw [if_pos h1] at h; exact h
    · rw [if_neg h1]; rw [if_neg h1] at h
      refine ⟨n_in (by omega) (by decide), ?_⟩
      by_cases h2 : 122 < sB (T a)
      · rw [if_pos h2]; rw [if_pos h2] at h; exact h
      · rw [if_neg h2]; rw [if_neg h2] at h; exact h
  · rw [if_pos (by rw [nI_leI (by omega) (by omega)]; omega)]
    rw [decide_eq_false (fun q => haL q.1)] at h; exact h
theorem x_isDigit {d L a : Nat} {T : Nat → Nat} {M : Mem} {K : Int32 → Mem → Prop} (hT : TX M L T) (hO : TOk L T) (ha : a ≤ 1600) (h : K (bI (decide (a < L ∧ dB (T a) = true))) M) : CI d μX6_isDigit [.ref 1, .int (nI a)] M K := by
  have hL := hO.1
  refine sg_X6_isDigit_0 ?_
  rw [hT.1]
  by_cases haL : a < L
  · rw [if_neg (by rw [nI_leI (by omega) (by omega)]; omega), show nx (nI a) = a from nI_clamp (by omega), hT.2 a haL]
    refine ⟨n_in (by omega) (by decide), ?_⟩
    have e := (sB_all (hO.2 a haL)).2.1
    have h : K (bI (dB (T a))) M := by
      cases hl : dB (T a) with
      | true => rw [hl] at h; rw [decide_eq_true ⟨haL, rfl⟩] at h; exact h
      | false => rw [hl] at h; rw [decide_eq_false (fun q => by cases q.2)] at h; exact h
    rw [← e] at h
    by_cases h1 : sB (T a) < 48
    · rw [if_pos h1]; rw [if_pos h1] at h; exact h
    · rw [if_neg h1]; rw [if_neg h1] at h
      refine ⟨n_in (by omega) (by decide), ?_⟩
      by_cases h2 : 57 < sB (T a)
      · rw [if_pos h2]; rw [if_pos h2] at h; exact h
      · rw [if_neg h2]; rw [if_neg h2] at h; exact h
  · rw [if_pos (by rw [nI_leI (by omega) (by omega)]; omega)]
    rw [decide_eq_false (fun q => haL q.1)] at h; exact h
/-- a fault of the class; the first one stays -/
def CF (M : Mem) (f p : Nat) : Prop := ri M 1 0 = nI f ∧ ri M 1 1 = nI p ∧ ri M 1 6 = 0 ∧ 0 < f ∧ f < 10
theorem x_blame {d f p : Nat} {M : Mem} {K : Mem → Prop} (hf : 0 < f ∧ f < 10) (h0 : ri M 1 0 = 0) (h7 : ri M 1 7 = nI p) (hK : ∀ M', QA M M' → CF M' f p → K M') : CV d μX6_blame [.ref 1, .int (nI f)] M K := by
  refine sg_X6_blame_0 ?_
  rw [if_pos h0]
  intro M1 g1 M2 g2 M3 g3
  have r1 : ∀ k j, ri M1 k j = if k = 1 ∧ j = 0 then nI f else ri M k j := by intro k j; rw [g1, ri_wi]
  rw [show ri M1 1 7 = nI p by rw [r1, if_neg (by omega)]; exact h7] at g2
  have r2 : ∀ k j, ri M2 k j = if k = 1 ∧ j = 1 then nI p else ri M1 k j := by intro k j; rw [g2, ri_wi]
  have r3 : ∀ k j, ri M3 k j = if k = 1 ∧ j = 6 then 0 else ri M2 k j := by intro k j; rw [g3, ri_wi]
  have f3 : ri M3 1 0 = nI f := by rw [r3, if_neg (by omega), r2, if_neg (by omega), r1, if_pos ⟨rfl, rfl⟩]
  refine hK M3 ⟨fun k j a => ?_, fun k j a => by rw [g3, rl_wi, g2, rl_wi, g1, rl_wi]⟩ ⟨?_, ?_, ?_, hf.1, hf.2⟩
  · rcases a with a | a | a | ⟨a, b⟩
    · rw [r3, if_neg (by omega), r2, if_neg (by omega), r1, if_neg (by omega)]
    · rw [r3, if_neg (by omega), r2, if_neg (by omega), r1, if_neg (by omega)]
    · rw [r3, if_neg (by omega), r2, if_neg (by omega), r1, if_neg (by omega)]
    · rw [f3] at b
      have := nI_inj (a := f) (b := 0) (by omega) (by omega) b
      omega
  · rw [r3, if_neg (by omega), r2, if_neg (by omega), r1, if_pos ⟨rfl, rfl⟩]
  · rw [r3, if_neg (by omega), r2, if_pos ⟨rfl, rfl⟩]
  · rw [r3, if_pos ⟨rfl, rfl⟩]
theorem x_blameF {d f p : Nat} {M : Mem} {K : Mem → Prop} {x : Int32} (h0 : CF M f p) (hK : ∀ M', QA M M' → CF M' f p → K M') : CV d μX6_blame [.ref 1, .int x] M K := by
  refine sg_X6_blame_0 ?_
  have hf := h0.2.2.2
  rw [if_neg (by rw [h0.1]; intro q; have := nI_inj (a := f) (b := 0) (by omega) (by omega) q; omega)]
  intro M1 g1
  have r1 : ∀ k j, ri M1 k j = if k = 1 ∧ j = 6 then 0 else ri M k j := by intro k j; rw [g1, ri_wi]
  exact hK M1 (by rw [g1]; exact qa_w (by omega) (by omega)) ⟨by rw [r1, if_neg (by omega)]; exact h0.1, by rw [r1, if_neg (by omega)]; exact h0.2.1, by rw [r1, if_pos ⟨rfl, rfl⟩], hf⟩
/-- the class stands at the token that begins at a -/
def kC (k : Nat) : Int32 := if k ≤ 2 then nI k else 3
def CT (M : Mem) (L : Nat) (T : Nat → Nat) (a : Nat) : Prop := ri M 1 0 = 0 ∧ ri M 1 7 = nI (tS T L a) ∧ ri M 1 5 = nI (tE T L a) ∧ ri M 1 6 = kC (tK T L a) ∧ (tK T L a = 1 → rl M 1 11 = lN (v32 (tW T L a)) ∧ ri M 1 10 = owF (tW T L a) 14) ∧ (tK T L a = 2 → ri M 1 8 = nI (tN T L a)) ∧ (36 < tK T L a → ri M 1 9 = nI (tK T L a))
theorem dig_tab : ((List.range 256).all fun b => !dB b || decide (sB b - 48 = nI (b - 48))) = true := by decide +kernel
theorem x_scanNumber {d L s : Nat} {T : Nat → Nat} {M : Mem} {K : Mem → Prop} (hT : TX M L T) (hO : TOk L T) (h0 : ri M 1 0 = 0) (h5 : ri M 1 5 = nI s) (h7 : ri M 1 7 = nI s) (hs : s ≤ L)
    (hK : ∀ M', QA M M' → (if 4 < en dB T L s - s ∨ (en dB T L s < L ∧ lB (T (en dB T L s)) = true) then CF M' 1 s else (ri M' 1 0 = 0 ∧ ri M' 1 5 = nI (en dB T L s) ∧ ri M' 1 6 = 2 ∧ ri M' 1 7 = nI s ∧ ri M' 1 8 = nI (v10 (wd T s (en dB T L s - s))))) → K M') : CV (d + 2) μX6_scanNumber [.ref 1] M K := by
  have hL := hO.1
  refine sg_X6_scanNumber_0 ?_
  intro M1 g1
  have r1 : ∀ k j, ri M1 k j = if k = 1 ∧ j = 8 then 0 else ri M k j := by intro k j; rw [g1, ri_wi]
  have fin : ∀ (x : Int32) (M2 : Mem), QA M M2 → ri M2 1 0 = 0 → ri M2 1 5 = nI (en dB T L s) → ri M2 1 7 = nI s → ri M2 1 8 = nI (v10 (wd T s (en dB T L s - s))) → RV (d + 2) μX6_scanNumber 65 [(0, .ref 1), (1, .int x)] [] M2 K := by
    intro x M2 q2 e0 e5 e7 e8
    have hge := en_ge (p := dB) (T := T) (L := L) (a := s)
    have hle := en_le (p := dB) (T := T) hs
    refine sg_X6_scanNumber_65 ?_
    rw [e5, e7, n_sub hge]
    by_cases h4 : 4 < en dB T L s - s
    · rw [if_pos (by rw [show (4 : Int32) = nI 4 from rfl, nI_ltI (by omega) (by omega)]; exact h4)]
      refine x_blame (f := 1) (by omega) e0 e7 (fun M3 q3 c3 => hK M3 (q2.trans q3) ?_)
      rw [if_pos (Or.inl h4)]; exact c3
    · rw [if_neg (by rw [show (4 : Int32) = nI 4 from rfl, nI_ltI (by omega) (by omega)]; exact h4)]
      refine x_isLetter (hT.qa q2) hO (by omega) ?_
      by_cases hl : en dB T L s < L ∧ lB (T (en dB T L s)) = true
      · rw [if_neg (bI_ne (decide_eq_true hl))]
        refine x_blame (f := 1) (by omega) e0 e7 (fun M3 q3 c3 => hK M3 (q2.trans q3) ?_)
        rw [if_pos (Or.inr hl)]; exact c3
      · rw [if_pos (bI_eq (decide_eq_false hl))]
        intro M3 g3
        have r3 : ∀ k j, ri M3 k j = if k = 1 ∧ j = 6 then 2 else ri M2 k j := by intro k j; rw [g3, ri_wi]
        refine hK M3 (q2.trans (by rw [g3]; exact qa_w (by omega) (by omega))) ?_
        rw [if_neg (fun q => by rcases q with q | q; exact h4 q; exact hl q)]
        exact ⟨by rw [r3, if_neg (by omega)]; exact e0, by rw [r3, if_neg (by omega)]; exact e5, by rw [r3, if_pos ⟨rfl, rfl⟩], by rw [r3, if_neg (by omega)]; exact e7, by rw [r3, if_neg (by omega)]; exact e8⟩
  have loop : ∀ (k i : Nat) (M2 : Mem), k + (s + i) = L → QA M M2 → ri M2 1 0 = 0 → ri M2 1 5 = nI (s + i) → ri M2 1 7 = nI s → ri M2 1 8 = nI (v10 (wd T s i)) → en dB T L (s + i) = en dB T L s → RV (d + 2) μX6_scanNumber 7 [(0, .ref 1), (1, .int (nI i))] [] M2 K := by
    intro k
    induction k with
    | zero =>
      intro i M2 hk q2 e0 e5 e7 e8 he
      rw [en_stop (by omega)] at he
      have := fin (nI i) M2 q2 e0 (by rw [e5, he]) e7 (by rw [e8, ← he, show s + i - s = i by omega])
      refine sg_X6_scanNumber_7 ?_
      by_cases h16 : 1600 ≤ i
      · rw [if_pos (by rw [show (1600 : Int32) = nI 1600 from rfl, nI_leI (by omega) (by omega)]; exact h16)]
        exact this
      · rw [if_neg (by rw [show (1600 : Int32) = nI 1600 from rfl, nI_leI (by omega) (by omega)]; exact h16), e5]
        refine x_isDigit (hT.qa q2) hO (by omega) ?_
        rw [if_pos (bI_eq (decide_eq_false (by omega)))]
        exact this
    | succ k ih =>
      intro i M2 hk q2 e0 e5 e7 e8 he
      refine sg_X6_scanNumber_7 ?_
      rw [if_neg (by rw [show (1600 : Int32) = nI 1600 from rfl, nI_leI (by omega) (by omega)]; omega), e5]
      refine x_isDigit (hT.qa q2) hO (by omega) ?_
      by_cases hd : dB (T (s + i)) = true
      · rw [if_neg (bI_ne (decide_eq_true ⟨by omega, hd⟩)), e5, show nx (nI (s + i)) = s + i from nI_clamp (by omega), nI_1, (hT.qa q2).2 (s + i) (by omega)]
        refine ⟨n_in (by omega) (by decide), fun M3 g3 M4 g4 => ?_⟩
        have hb := hO.2 (s + i) (by omega)
        have ht := List.all_eq_true.mp dig_tab (T (s + i)) (List.mem_range.mpr hb)
        rw [hd] at ht
        have ht := of_decide_eq_true (show decide (sB (T (s + i)) - 48 = nI (T (s + i) - 48)) = true from by simpa using ht)
        rw [ht, e8, show (10 : Int32) = nI 10 from rfl, n_mul, nI_add] at g3
        have r3 : ∀ k j, ri M3 k j = if k = 1 ∧ j = 8 then nI (v10 (wd T s (i + 1))) else ri M2 k j := by intro k j; rw [g3, ri_wi]; rfl
        rw [show ri M3 1 5 = nI (s + i) by rw [r3, if_neg (by omega)]; exact e5, nI_1] at g4
        have r4 : ∀ k j, ri M4 k j = if k = 1 ∧ j = 5 then nI (s + i + 1) else ri M3 k j := by intro k j; rw [g4, ri_wi]
        refine ih (i + 1) M4 (by omega) ((q2.trans (show QA M2 M3 by rw [g3]; exact qa_w (by omega) (by omega))).trans (by rw [g4]; exact qa_w (by omega) (by omega))) ?_ ?_ ?_ ?_ ?_
        · rw [r4, if_neg (by omega), r3, if_neg (by omega)]; exact e0
        · rw [r4, if_pos ⟨rfl, rfl⟩]; rfl
        · rw [r4, if_neg (by omega), r3, if_neg (by omega)]; exact e7
        · rw [r4, if_neg (by omega), r3, if_pos ⟨rfl, rfl⟩]
        · rw [← he, en_go (by omega) hd]; rfl
      · rw [if_pos (bI_eq (decide_eq_false (fun q => hd q.2)))]
        rw [en_stop (fun q => hd q.2)] at he
        exact fin (nI i) M2 q2 e0 (by rw [e5, he]) e7 (by rw [e8, ← he, show s + i - s = i by omega])
  exact loop (L - s) 0 M1 (by omega) (by rw [g1]; exact qa_w (by omega) (by omega)) (by rw [r1, if_neg (by omega)]; exact h0) (by rw [r1, if_neg (by omega)]; exact h5) (by rw [r1, if_neg (by omega)]; exact h7) (by rw [r1, if_pos ⟨rfl, rfl⟩]; rfl) rfl
