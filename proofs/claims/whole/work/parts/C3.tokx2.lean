/-! the class: words, whole tokens -/
theorem x_isSpelled {d L s n w : Nat} {T : Nat → Nat} {M : Mem} {K : Int32 → Mem → Prop} (hT : TX M L T) (hO : TOk L T) (hw : w < 14) (hn : n ≤ 8) (hs : s + n ≤ L) (h5 : ri M 1 5 = nI (s + n)) (h7 : ri M 1 7 = nI s) (hl : ∀ i, i < n → LpC (T (s + i))) (hK : K (bI (decide (wd T s n = own w))) M) : CI (d + 5) μX6_isSpelled [.ref 1, .int (nI w)] M K := by
  have hL := hO.1
  refine sg_X6_isSpelled_0 ?_
  have loop : ∀ (k i : Nat), k + i = 8 → (∀ j, j < i → (if j < n then T (s + j) else 32) = wdB (8 * w + j)) → RI (d + 5) μX6_isSpelled 2 [(0, .ref 1), (1, .int (nI w)), (2, .int (nI i))] [] M K := by
    intro k
    induction k with
    | zero =>
      intro i hi hj
      have hi : i = 8 := by omega
      subst hi
      refine sg_X6_isSpelled_2 ?_
      rw [if_pos (by decide)]
      rw [decide_eq_true ((spell_iff hw hn hl).mp hj)] at hK
      exact hK
    | succ k ih =>
      intro i hi hj
      have at37 : ∀ p, p < 256 → (if i < n then T (s + i) else 32) = p → RI (d + 5) μX6_isSpelled 37 [(0, .ref 1), (1, .int (nI w)), (2, .int (nI i))] [.int (nI p)] M K := by
        intro p hp hpe
        refine sg_X6_isSpelled_37 ?_
        rw [show (8 : Int32) = nI 8 from rfl, n_mul, nI_add, show w * 8 + i = 8 * w + i by omega]
        have hwb : wdB (8 * w + i) < 256 := of_decide_eq_true ((Bool.and_eq_true _ _ ▸ List.all_eq_true.mp chr_tab (8 * w + i) (List.mem_range.mpr (by omega))).2)
        refine j_charAt (by omega) ?_
        by_cases hc : p = wdB (8 * w + i)
        · rw [if_pos (by rw [hc]), nI_1]
          refine ih (i + 1) (by omega) (fun j hj2 => ?_)
          by_cases hji : j = i
          · rw [hji, hpe]; exact hc
          · exact hj j (by omega)
        · rw [if_neg (fun q => hc (nI_inj (by omega) (by omega) q))]
          rw [decide_eq_false (fun q => hc (by rw [← hpe]; exact (spell_iff hw hn hl).mpr q i (by omega)))] at hK
          exact hK
      refine sg_X6_isSpelled_2 ?_
      rw [if_neg (by rw [show (8 : Int32) = nI 8 from rfl, nI_leI (by omega) (by omega)]; omega), h5, h7, nI_add]
      by_cases hin : i < n
      · rw [if_neg (by rw [nI_leI (by omega) (by omega)]; omega), show nx (nI (s + i)) = s + i from nI_clamp (by omega), hT.2 (s + i) (by omega)]
        refine ⟨n_in (by omega) (by decide), ?_⟩
        have hlp := hl i hin
        have e : sB (T (s + i)) = nI (T (s + i)) := by unfold sB; rw [if_pos (by have := hlp.2; omega)]
        rw [e]
        exact at37 (T (s + i)) (by have := hlp.2; omega) (by rw [if_pos hin])
      · rw [if_pos (by rw [nI_leI (by omega) (by omega)]; omega)]
        exact at37 32 (by omega) (by rw [if_neg hin])
  exact loop 8 0 rfl (fun j hj => absurd hj (Nat.not_lt_zero _))
theorem let_tab : ((List.range 256).all fun b => !lB b || decide (((sB b - 97) + 1).toInt64 = lN (b - 96))) = true := by decide +kernel
theorem x_scanWord {d L s : Nat} {T : Nat → Nat} {M : Mem} {K : Mem → Prop} (hT : TX M L T) (hO : TOk L T) (h0 : ri M 1 0 = 0) (h5 : ri M 1 5 = nI s) (h7 : ri M 1 7 = nI s) (hs : s ≤ L)
    (hK : ∀ M', QA M M' → (if en lB T L s - s ≤ 8 then (ri M' 1 0 = 0 ∧ ri M' 1 5 = nI (en lB T L s) ∧ ri M' 1 6 = 1 ∧ ri M' 1 7 = nI s ∧ rl M' 1 11 = lN (v32 (wd T s (en lB T L s - s))) ∧ ri M' 1 10 = owF (wd T s (en lB T L s - s)) 14) else CF M' 1 s) → K M') : CV (d + 6) μX6_scanWord [.ref 1] M K := by
  have hL := hO.1
  have hge := en_ge (p := lB) (T := T) (L := L) (a := s)
  have hle := en_le (p := lB) (T := T) hs
  refine sg_X6_scanWord_0 ?_
  intro M1 g1
  have r1 : ∀ k j, ri M1 k j = ri M k j := by intro k j; rw [g1, ri_wl]
  have fin : ∀ (x : Int32) (M2 : Mem), QA M M2 → ri M2 1 0 = 0 → ri M2 1 5 = nI (en lB T L s) → ri M2 1 7 = nI s → rl M2 1 11 = lN (v32 (wd T s (en lB T L s - s))) → RV (d + 6) μX6_scanWord 69 [(0, .ref 1), (1, .int x)] [] M2 K := by
    intro x M2 q2 e0 e5 e7 e11
    refine sg_X6_scanWord_69 ?_
    rw [e5, e7, n_sub hge]
    by_cases h8 : en lB T L s - s ≤ 8
    · rw [if_pos (by rw [show (8 : Int32) = nI 8 from rfl, nI_leI (by omega) (by omega)]; exact h8)]
      intro M3 g3 M4 g4
      have r3 : ∀ k j, ri M3 k j = if k = 1 ∧ j = 6 then 1 else ri M2 k j := by intro k j; rw [g3, ri_wi]
      have r4 : ∀ k j, ri M4 k j = if k = 1 ∧ j = 10 then -1 else ri M3 k j := by intro k j; rw [g4, ri_wi]
      have q4 : QA M M4 := (q2.trans (show QA M2 M3 by rw [g3]; exact qa_w (by omega) (by omega))).trans (by rw [g4]; exact qa_w (by omega) (by omega))
      have loop : ∀ (k w : Nat) (M5 : Mem), k + w = 14 → QA M M5 → ri M5 1 0 = 0 → ri M5 1 5 = nI (en lB T L s) → ri M5 1 6 = 1 → ri M5 1 7 = nI s → rl M5 1 11 = lN (v32 (wd T s (en lB T L s - s))) → ri M5 1 10 = owF (wd T s (en lB T L s - s)) w → RV (d + 6) μX6_scanWord 101 [(0, .ref 1), (1, .int (nI w))] [] M5 K := by
        intro k
        induction k with
        | zero =>
          intro w M5 hw q5 f0 f5 f6 f7 f11 f10
          have hw : w = 14 := by omega
          subst hw
          refine sg_X6_scanWord_101 ?_
          rw [if_pos (by decide)]
          refine hK M5 q5 ?_
          rw [if_pos h8]
          exact ⟨f0, f5, f6, f7, f11, f10⟩
        | succ k ih =>
          intro w M5 hw q5 f0 f5 f6 f7 f11 f10
          refine sg_X6_scanWord_101 ?_
          rw [if_neg (by rw [show (14 : Int32) = nI 14 from rfl, nI_leI (by omega) (by omega)]; omega)]
          refine x_isSpelled (s := s) (n := en lB T L s - s) (hT.qa q5) hO (by omega) h8 (by omega) (by rw [f5]; congr 1; omega) f7 (fun i hi => lB_iff.mp (en_in (L := L) (a := s) (by omega) (by omega))) ?_
          by_cases hc : wd T s (en lB T L s - s) = own w
          · rw [if_neg (bI_ne (decide_eq_true hc)), nI_1]
            intro M6 g6
            have r6 : ∀ k j, ri M6 k j = if k = 1 ∧ j = 10 then nI w else ri M5 k j := by intro k j; rw [g6, ri_wi]
            refine ih (w + 1) M6 (by omega) (q5.trans (by rw [g6]; exact qa_w (by omega) (by omega))) ?_ ?_ ?_ ?_ (by rw [g6, rl_wi]; exact f11) ?_
            · rw [r6, if_neg (by omega)]; exact f0
            · rw [r6, if_neg (by omega)]; exact f5
            · rw [r6, if_neg (by omega)]; exact f6
            · rw [r6, if_neg (by omega)]; exact f7
            · rw [r6, if_pos ⟨rfl, rfl⟩]
              show nI w = if wd T s (en lB T L s - s) = own w then nI w else owF (wd T s (en lB T L s - s)) w
              rw [if_pos hc]
          · rw [if_pos (bI_eq (decide_eq_false hc)), nI_1]
            refine ih (w + 1) M5 (by omega) q5 f0 f5 f6 f7 f11 ?_
            show ri M5 1 10 = if wd T s (en lB T L s - s) = own w then nI w else owF (wd T s (en lB T L s - s)) w
            rw [if_neg hc]; exact f10
      refine loop 14 0 M4 rfl q4 ?_ ?_ ?_ ?_ (by rw [g4, rl_wi, g3, rl_wi]; exact e11) (by rw [r4, if_pos ⟨rfl, rfl⟩]; rfl)
      · rw [r4, if_neg (by omega), r3, if_neg (by omega)]; exact e0
      · rw [r4, if_neg (by omega), r3, if_neg (by omega)]; exact e5
      · rw [r4, if_neg (by omega), r3, if_pos ⟨rfl, rfl⟩]
      · rw [r4, if_neg (by omega), r3, if_neg (by omega)]; exact e7
    · rw [if_neg (by rw [show (8 : Int32) = nI 8 from rfl, nI_leI (by omega) (by omega)]; exact h8)]
      refine x_blame (f := 1) (by omega) e0 e7 (fun M3 q3 c3 => hK M3 (q2.trans q3) ?_)
      rw [if_neg h8]; exact c3
  have loop : ∀ (k i : Nat) (M2 : Mem), k + (s + i) = L → QA M M2 → ri M2 1 0 = 0 → ri M2 1 5 = nI (s + i) → ri M2 1 7 = nI s → rl M2 1 11 = lN (v32 (wd T s i)) → en lB T L (s + i) = en lB T L s → RV (d + 6) μX6_scanWord 7 [(0, .ref 1), (1, .int (nI i))] [] M2 K := by
    intro k
    induction k with
    | zero =>
      intro i M2 hk q2 e0 e5 e7 e11 he
      rw [en_stop (by omega)] at he
      have := fin (nI i) M2 q2 e0 (by rw [e5, he]) e7 (by rw [e11, ← he, show s + i - s = i by omega])
      refine sg_X6_scanWord_7 ?_
      by_cases h16 : 1600 ≤ i
      · rw [if_pos (by rw [show (1600 : Int32) = nI 1600 from rfl, nI_leI (by omega) (by omega)]; exact h16)]
        exact this
      · rw [if_neg (by rw [show (1600 : Int32) = nI 1600 from rfl, nI_leI (by omega) (by omega)]; exact h16), e5]
        refine x_isLetter (hT.qa q2) hO (by omega) ?_
        rw [if_pos (bI_eq (decide_eq_false (by omega)))]
        exact this
    | succ k ih =>
      intro i M2 hk q2 e0 e5 e7 e11 he
      refine sg_X6_scanWord_7 ?_
      rw [if_neg (by rw [show (1600 : Int32) = nI 1600 from rfl, nI_leI (by omega) (by omega)]; omega), e5]
      refine x_isLetter (hT.qa q2) hO (by omega) ?_
      by_cases hd : lB (T (s + i)) = true
      · rw [if_neg (bI_ne (decide_eq_true ⟨by omega, hd⟩)), e5, show nx (nI (s + i)) = s + i from nI_clamp (by omega), nI_1, (hT.qa q2).2 (s + i) (by omega)]
        refine ⟨n_in (by omega) (by decide), fun M3 g3 M4 g4 => ?_⟩
        have hb := hO.2 (s + i) (by omega)
        have ht := List.all_eq_true.mp let_tab (T (s + i)) (List.mem_range.mpr hb)
        rw [hd] at ht
        have ht := of_decide_eq_true (show decide (((sB (T (s + i)) - 97) + 1).toInt64 = lN (T (s + i) - 96)) = true from by simpa using ht)
        rw [ht, e11, show (32 : Int64) = lN 32 from rfl, lN_mul, lN_add] at g3
        have r3 : ∀ k j, ri M3 k j = ri M2 k j := by intro k j; rw [g3, ri_wl]
        rw [show ri M3 1 5 = nI (s + i) by rw [r3]; exact e5, nI_1] at g4
        have r4 : ∀ k j, ri M4 k j = if k = 1 ∧ j = 5 then nI (s + i + 1) else ri M3 k j := by intro k j; rw [g4, ri_wi]
        refine ih (i + 1) M4 (by omega) ((q2.trans (show QA M2 M3 by rw [g3]; exact qa_l)).trans (by rw [g4]; exact qa_w (by omega) (by omega))) ?_ ?_ ?_ ?_ ?_
        · rw [r4, if_neg (by omega), r3]; exact e0
        · rw [r4, if_pos ⟨rfl, rfl⟩]; rfl
        · rw [r4, if_neg (by omega), r3]; exact e7
        · rw [g4, rl_wi, g3, rl_wl, if_pos ⟨rfl, rfl⟩]; rfl
        · rw [← he, en_go (by omega) hd]; rfl
      · rw [if_pos (bI_eq (decide_eq_false (fun q => hd q.2)))]
        rw [en_stop (fun q => hd q.2)] at he
        exact fin (nI i) M2 q2 e0 (by rw [e5, he]) e7 (by rw [e11, ← he, show s + i - s = i by omega])
  exact loop (L - s) 0 M1 (by omega) (by rw [g1]; exact qa_l) (by rw [r1]; exact h0) (by rw [r1]; exact h5) (by rw [r1]; exact h7) (by rw [g1, rl_wl, if_pos ⟨rfl, rfl⟩]; rfl) rfl
theorem x_advance {d L a : Nat} {T : Nat → Nat} {M : Mem} {K : Mem → Prop} (hT : TX M L T) (hO : TOk L T) (h0 : ri M 1 0 = 0) (h5 : ri M 1 5 = nI a) (ha : a ≤ L) (hK : ∀ M', QA M M' → (if tK T L a = 3 then CF M' 1 (tS T L a) else CT M' L T a) → K M') : CV (d + 7) μX6_advance [.ref 1] M K := by
  have hL := hO.1
  have hS := tS_le (T := T) ha
  refine sg_X6_advance_0 ?_
  rw [if_pos h0]
  have fin : ∀ (x : Int32) (M2 : Mem), QA M M2 → ri M2 1 0 = 0 → ri M2 1 5 = nI (tS T L a) → RV (d + 7) μX6_advance 72 [(0, .ref 1), (1, .int x)] [] M2 K := by
    intro x M2 q2 e0 e5
    refine sg_X6_advance_72 ?_
    intro M3 g3 M4 g4
    rw [e5] at g3
    have r3 : ∀ k j, ri M3 k j = if k = 1 ∧ j = 7 then nI (tS T L a) else ri M2 k j := by intro k j; rw [g3, ri_wi]
    have r4 : ∀ k j, ri M4 k j = if k = 1 ∧ j = 6 then 0 else ri M3 k j := by intro k j; rw [g4, ri_wi]
    have q4 : QA M M4 := (q2.trans (show QA M2 M3 by rw [g3]; exact qa_w (by omega) (by omega))).trans (by rw [g4]; exact qa_w (by omega) (by omega))
    have t4 := hT.qa q4
    have f0 : ri M4 1 0 = 0 := by rw [r4, if_neg (by omega), r3, if_neg (by omega)]; exact e0
    have f5 : ri M4 1 5 = nI (tS T L a) := by rw [r4, if_neg (by omega), r3, if_neg (by omega)]; exact e5
    have f7 : ri M4 1 7 = nI (tS T L a) := by rw [r4, if_neg (by omega), r3, if_pos ⟨rfl, rfl⟩]
    have f6 : ri M4 1 6 = 0 := by rw [r4, if_pos ⟨rfl, rfl⟩]
    rw [f5, t4.1]
    by_cases hend : L ≤ tS T L a
    · have hk : tK T L a = 0 := by unfold tK; rw [if_pos hend]
      have he : tE T L a = tS T L a := by unfold tE; rw [if_pos hend]
      rw [if_neg (by rw [nI_ltI (by omega) (by omega)]; omega)]
      refine hK M4 q4 ?_
      rw [if_neg (by rw [hk]; decide)]
      exact ⟨f0, f7, by rw [he]; exact f5, by rw [hk]; exact f6, fun q => (by rw [hk] at q; cases q), fun q => (by rw [hk] at q; cases q), fun q => by omega⟩
    · rw [if_pos (by rw [nI_ltI (by omega) (by omega)]; omega)]
      refine x_isLetter t4 hO (by omega) ?_
      by_cases hl : lB (T (tS T L a)) = true
      · have hk : tK T L a = if en lB T L (tS T L a) - tS T L a ≤ 8 then 1 else 3 := by unfold tK; rw [if_neg hend, if_pos hl]
        have he : tE T L a = en lB T L (tS T L a) := by unfold tE; rw [if_neg hend, if_pos hl]
        rw [if_neg (bI_ne (decide_eq_true ⟨by omega, hl⟩))]
        refine x_scanWord t4 hO f0 f5 f7 hS (fun M5 q5 c5 => hK M5 (q4.trans q5) ?_)
        by_cases h8 : en lB T L (tS T L a) - tS T L a ≤ 8
        · rw [if_pos h8] at hk c5
          rw [if_neg (by rw [hk]; decide)]
          exact ⟨c5.1, c5.2.2.2.1, by rw [he]; exact c5.2.1, by rw [hk]; exact c5.2.2.1, fun _ => ⟨c5.2.2.2.2.1, c5.2.2.2.2.2⟩, fun q => (by rw [hk] at q; cases q), fun q => by omega⟩
        · rw [if_neg h8] at hk c5
          rw [if_pos hk]; exact c5
      · rw [if_pos (bI_eq (decide_eq_false (fun q => hl q.2))), f5]
        refine x_isDigit t4 hO (by omega) ?_
        by_cases hd : dB (T (tS T L a)) = true
        · have hk : tK T L a = if 4 < en dB T L (tS T L a) - tS T L a ∨ (en dB T L (tS T L a) < L ∧ lB (T (en dB T L (tS T L a))) = true) then 3 else 2 := by unfold tK; rw [if_neg hend, if_neg hl, if_pos hd]
          have he : tE T L a = en dB T L (tS T L a) := by unfold tE; rw [if_neg hend, if_neg hl, if_pos hd]
          rw [if_neg (bI_ne (decide_eq_true ⟨by omega, hd⟩))]
          refine RV.deeper (d := d + 6) (Nat.le_refl _) (x_scanNumber (d := d + 4) t4 hO f0 f5 f7 hS (fun M5 q5 c5 => hK M5 (q4.trans q5) ?_))
          by_cases h4 : 4 < en dB T L (tS T L a) - tS T L a ∨ (en dB T L (tS T L a) < L ∧ lB (T (en dB T L (tS T L a))) = true)
          · rw [if_pos h4] at hk c5
            rw [if_pos hk]; exact c5
          · rw [if_neg h4] at hk c5
            rw [if_neg (by rw [hk]; decide)]
            exact ⟨c5.1, c5.2.2.2.1, by rw [he]; exact c5.2.1, by rw [hk]; exact c5.2.2.1, fun q => (by rw [hk] at q; cases q), fun _ => c5.2.2.2.2, fun q => by omega⟩
        · have hb := hO.2 (tS T L a) (by omega)
          rw [if_pos (bI_eq (decide_eq_false (fun q => hd q.2))), f5, show nx (nI (tS T L a)) = tS T L a from nI_clamp (by omega), t4.2 _ (by omega), (sB_all hb).2.2.2.2]
          refine ⟨n_in (by omega) (by decide), RI.deeper (d := d + 6) (Nat.le_refl _) (j_indexOf (d := d + 2) hb ?_)⟩
          by_cases hg : sgB (T (tS T L a)) = true
          · have hk : tK T L a = T (tS T L a) := by unfold tK; rw [if_neg hend, if_neg hl, if_neg hd, if_pos hg]
            have he : tE T L a = tS T L a + 1 := by unfold tE; rw [if_neg hend, if_neg hl, if_neg hd]
            have hgl := sgB_lt hg
            rw [if_neg (fun q => by have := (sgF_iff hb).mp q; rw [hg] at this; cases this)]
            intro M5 g5
            have r5 : ∀ k j, ri M5 k j = if k = 1 ∧ j = 6 then 3 else ri M4 k j := by intro k j; rw [g5, ri_wi]
            have q5 : QA M M5 := q4.trans (by rw [g5]; exact qa_w (by omega) (by omega))
            rw [show ri M5 1 5 = nI (tS T L a) by rw [r5, if_neg (by omega)]; exact f5, show nx (nI (tS T L a)) = tS T L a from nI_clamp (by omega)]
            refine ⟨n_in (by omega) (by decide), fun M6 g6 M7 g7 => ?_⟩
            rw [(hT.qa q5).2 _ (by omega), show sB (T (tS T L a)) = nI (T (tS T L a)) by unfold sB; rw [if_pos (by omega)]] at g6
            have r6 : ∀ k j, ri M6 k j = if k = 1 ∧ j = 9 then nI (T (tS T L a)) else ri M5 k j := by intro k j; rw [g6, ri_wi]
            rw [show ri M6 1 5 = nI (tS T L a) by rw [r6, if_neg (by omega), r5, if_neg (by omega)]; exact f5, nI_1] at g7
            have r7 : ∀ k j, ri M7 k j = if k = 1 ∧ j = 5 then nI (tS T L a + 1) else ri M6 k j := by intro k j; rw [g7, ri_wi]
            refine hK M7 ((q5.trans (show QA M5 M6 by rw [g6]; exact qa_w (by omega) (by omega))).trans (by rw [g7]; exact qa_w (by omega) (by omega))) ?_
            rw [if_neg (by rw [hk]; omega)]
            refine ⟨?_, ?_, ?_, ?_, fun q => by rw [hk] at q; omega, fun q => by rw [hk] at q; omega, fun _ => ?_⟩
            · rw [r7, if_neg (by omega), r6, if_neg (by omega), r5, if_neg (by omega)]; exact f0
            · rw [r7, if_neg (by omega), r6, if_neg (by omega), r5, if_neg (by omega)]; exact f7
            · rw [r7, if_pos ⟨rfl, rfl⟩, he]
            · rw [r7, if_neg (by omega), r6, if_neg (by omega), r5, if_pos ⟨rfl, rfl⟩]
              unfold kC
              rw [if_neg (by rw [hk]; omega)]
            · rw [r7, if_neg (by omega), r6, if_pos ⟨rfl, rfl⟩, hk]
          · have hk : tK T L a = 3 := by unfold tK; rw [if_neg hend, if_neg hl, if_neg hd, if_neg hg]
            rw [if_pos ((sgF_iff hb).mpr (Bool.eq_false_iff.mpr hg))]
            refine x_blame (f := 1) (by omega) f0 f7 (fun M5 q5 c5 => hK M5 (q4.trans q5) ?_)
            rw [if_pos hk]; exact c5
  have loop : ∀ (k i : Nat) (M2 : Mem), k + (a + i) = L → QA M M2 → ri M2 1 0 = 0 → ri M2 1 5 = nI (a + i) → en wB T L (a + i) = en wB T L a → RV (d + 7) μX6_advance 10 [(0, .ref 1), (1, .int (nI i))] [] M2 K := by
    intro k
    induction k with
    | zero =>
      intro i M2 hk q2 e0 e5 he
      rw [en_stop (by omega)] at he
      have := fin (nI i) M2 q2 e0 (by rw [e5]; unfold tS; rw [← he])
      refine sg_X6_advance_10 ?_
      by_cases h16 : 1600 ≤ i
      · rw [if_pos (by rw [show (1600 : Int32) = nI 1600 from rfl, nI_leI (by omega) (by omega)]; exact h16)]
        exact this
      · rw [if_neg (by rw [show (1600 : Int32) = nI 1600 from rfl, nI_leI (by omega) (by omega)]; exact h16), e5, (hT.qa q2).1, if_pos (by rw [nI_leI (by omega) (by omega)]; omega)]
        exact this
    | succ k ih =>
      intro i M2 hk q2 e0 e5 he
      refine sg_X6_advance_10 ?_
      have hb := hO.2 (a + i) (by omega)
      have st := sB_all hb
      rw [if_neg (by rw [show (1600 : Int32) = nI 1600 from rfl, nI_leI (by omega) (by omega)]; omega), e5, (hT.qa q2).1, if_neg (by rw [nI_leI (by omega) (by omega)]; omega), show nx (nI (a + i)) = a + i from nI_clamp (by omega), (hT.qa q2).2 (a + i) (by omega), nI_1, nI_1]
      refine ⟨n_in (by omega) (by decide), ?_⟩
      have go : wB (T (a + i)) = true → ∀ M3, M3 = wi M2 1 5 (nI (a + i + 1)) → RV (d + 7) μX6_advance 10 [(0, .ref 1), (1, .int (nI (i + 1)))] [] M3 K := by
        intro hw M3 g3
        have r3 : ∀ k j, ri M3 k j = if k = 1 ∧ j = 5 then nI (a + i + 1) else ri M2 k j := by intro k j; rw [g3, ri_wi]
        refine ih (i + 1) M3 (by omega) (q2.trans (by rw [g3]; exact qa_w (by omega) (by omega))) (by rw [r3, if_neg (by omega)]; exact e0) (by rw [r3, if_pos ⟨rfl, rfl⟩]; rfl) ?_
        rw [← he, en_go (by omega) hw]; rfl
      by_cases h32 : T (a + i) = 32
      · rw [if_pos (st.2.2.1.mpr h32)]
        exact go (by unfold wB; exact decide_eq_true (Or.inl h32))
      · rw [if_neg (fun q => h32 (st.2.2.1.mp q))]
        refine ⟨n_in (by omega) (by decide), ?_⟩
        by_cases h10 : T (a + i) = 10
        · rw [if_pos (st.2.2.2.1.mpr h10)]
          exact go (by unfold wB; exact decide_eq_true (Or.inr h10))
        · rw [if_neg (fun q => h10 (st.2.2.2.1.mp q))]
          have hw : ¬ wB (T (a + i)) = true := fun q => by unfold wB at q; rcases of_decide_eq_true q with z | z; exact h32 z; exact h10 z
          rw [en_stop (fun q => hw q.2)] at he
          exact fin (nI i) M2 q2 e0 (by rw [e5]; unfold tS; rw [← he])
  exact loop (L - a) 0 M (by omega) QA.rf h0 h5 rfl
