/-! the model reads a token -/
def QTm (M M' : Mem) : Prop := (∀ k j, ¬ (k = 58 ∧ (j = 2 ∨ j = 3 ∨ j = 4 ∨ j = 6 ∨ j = 7 ∨ j = 8)) → ri M' k j = ri M k j) ∧ ∀ k j, ¬ (k = 58 ∧ j = 9) → rl M' k j = rl M k j
theorem QTm.rf {M : Mem} : QTm M M := ⟨fun _ _ _ => rfl, fun _ _ _ => rfl⟩
theorem QTm.trans {M M' M'' : Mem} (h : QTm M M') (h2 : QTm M' M'') : QTm M M'' := ⟨fun k j a => (h2.1 k j a).trans (h.1 k j a), fun k j a => (h2.2 k j a).trans (h.2 k j a)⟩
theorem qt_w {M : Mem} {j : Nat} {x : Int32} (h : j = 2 ∨ j = 3 ∨ j = 4 ∨ j = 6 ∨ j = 7 ∨ j = 8) : QTm M (wi M 58 j x) := ⟨fun k i q => by rw [ri_wi, if_neg (fun z => q ⟨z.1, by omega⟩)], fun _ _ _ => rfl⟩
theorem qt_l {M : Mem} {x : Int64} : QTm M (wl M 58 9 x) := ⟨fun _ _ _ => rfl, fun k i q => by rw [rl_wl, if_neg q]⟩
def TZ (M : Mem) (L : Nat) (T : Nat → Nat) : Prop := ri M 58 5 = nI L ∧ ∀ i, i < L → ri M 59 i = nI (T i)
theorem TZ.qt {M M' : Mem} {L : Nat} {T : Nat → Nat} (h : TZ M L T) (q : QTm M M') : TZ M' L T := ⟨by rw [q.1 58 5 (by omega)]; exact h.1, fun i hi => by rw [q.1 59 i (by omega)]; exact h.2 i hi⟩
def hV (T : Nat → Nat) (L q : Nat) : Int32 := if q < L then nI (T q) else -1
theorem r_here {d L p i : Nat} {T : Nat → Nat} {M : Mem} {K : Int32 → Mem → Prop} (hT : TZ M L T) (hO : TOk L T) (h4 : ri M 58 4 = nI p) (hp : p + i ≤ 1600) (h : K (hV T L (p + i)) M) : CI d μX9_here [.ref 58, .int (nI i)] M K := by
  have hL := hO.1
  refine sg_X9_here_0 ?_
  rw [hT.1, h4, nI_add]
  unfold hV at h
  by_cases hq : p + i < L
  · rw [if_neg (by rw [nI_leI (by omega) (by omega)]; omega), show nx (nI (p + i)) = p + i from nI_clamp (by omega), hT.2 _ hq]
    rw [if_pos hq] at h
    exact ⟨n_in (by omega) (by decide), h⟩
  · rw [if_pos (by rw [nI_leI (by omega) (by omega)]; omega)]
    rw [if_neg hq] at h; exact h
theorem lb_tab : ((List.range 256).all fun b => decide ((if nI b < 97 then (0 : Int32) else if 122 < nI b then 0 else 1) = bI (lB b)) && decide ((if nI b < 48 then (0 : Int32) else if 57 < nI b then 0 else 1) = bI (dB b)) && decide ((nI b).toInt64 = lN b)) = true := by decide +kernel
theorem lb_all {b : Nat} (hb : b < 256) : (if nI b < 97 then (0 : Int32) else if 122 < nI b then 0 else 1) = bI (lB b) ∧ (if nI b < 48 then (0 : Int32) else if 57 < nI b then 0 else 1) = bI (dB b) ∧ (nI b).toInt64 = lN b := by
  have h := List.all_eq_true.mp lb_tab b (List.mem_range.mpr hb)
  simp only [Bool.and_eq_true, decide_eq_true_eq] at h
  exact ⟨h.1.1, h.1.2, h.2⟩
theorem b_and2 {p : Prop} {i : Decidable p} {b : Bool} (hp : p) : decide (p ∧ b = true) = b := by
  cases b with
  | true => exact decide_eq_true ⟨hp, rfl⟩
  | false => exact decide_eq_false (fun q => by cases q.2)
theorem r_isLetter {d L q : Nat} {T : Nat → Nat} {M : Mem} {K : Int32 → Mem → Prop} (hO : TOk L T) (h : K (bI (decide (q < L ∧ lB (T q) = true))) M) : CI d μX9_isLetter [.int (hV T L q)] M K := by
  refine sg_X9_isLetter_0 ?_
  unfold hV
  by_cases hq : q < L
  · rw [if_pos hq]
    rw [b_and2 hq, ← (lb_all (hO.2 q hq)).1] at h
    by_cases h1 : nI (T q) < 97
    · rw [if_pos h1]; rw [if_pos h1] at h; exact h
    · rw [if_neg h1]; rw [if_neg h1] at h
      by_cases h2 : 122 < nI (T q)
      · rw [if_pos h2]; rw [if_pos h2] at h; exact h
      · rw [if_neg h2]; rw [if_neg h2] at h; exact h
  · rw [if_neg hq, if_pos (by decide)]
    rw [decide_eq_false (fun z => hq z.1)] at h; exact h
theorem r_isDigit {d L q : Nat} {T : Nat → Nat} {M : Mem} {K : Int32 → Mem → Prop} (hO : TOk L T) (h : K (bI (decide (q < L ∧ dB (T q) = true))) M) : CI d μX9_isDigit [.int (hV T L q)] M K := by
  refine sg_X9_isDigit_0 ?_
  unfold hV
  by_cases hq : q < L
  · rw [if_pos hq]
    rw [b_and2 hq, ← (lb_all (hO.2 q hq)).2.1] at h
    by_cases h1 : nI (T q) < 48
    · rw [if_pos h1]; rw [if_pos h1] at h; exact h
    · rw [if_neg h1]; rw [if_neg h1] at h
      by_cases h2 : 57 < nI (T q)
      · rw [if_pos h2]; rw [if_pos h2] at h; exact h
      · rw [if_neg h2]; rw [if_neg h2] at h; exact h
  · rw [if_neg hq, if_pos (by decide)]
    rw [decide_eq_false (fun z => hq z.1)] at h; exact h
theorem r_isSign {d b : Nat} {M : Mem} {K : Int32 → Mem → Prop} (hb : b < 256) (h : K (bI (sgB b)) M) : CI d μX9_isSign [.int (nI b)] M K := by
  have e : ∀ c, c < 256 → (nI b = nI c ↔ b = c) := fun c hc => ⟨fun q => nI_inj (by omega) (by omega) q, fun q => by rw [q]⟩
  refine sg_X9_isSign_0 ?_
  by_cases h59 : b = 59
  · rw [if_pos (show nI b = 59 from (e 59 (by omega)).mpr h59)]; rw [h59] at h; exact h
  rw [if_neg (show ¬ nI b = 59 from fun q => h59 ((e 59 (by omega)).mp q))]
  by_cases h40 : b = 40
  · rw [if_pos (show nI b = 40 from (e 40 (by omega)).mpr h40)]; rw [h40] at h; exact h
  rw [if_neg (show ¬ nI b = 40 from fun q => h40 ((e 40 (by omega)).mp q))]
  by_cases h41 : b = 41
  · rw [if_pos (show nI b = 41 from (e 41 (by omega)).mpr h41)]; rw [h41] at h; exact h
  rw [if_neg (show ¬ nI b = 41 from fun q => h41 ((e 41 (by omega)).mp q))]
  by_cases h60 : b = 60
  · rw [if_pos (show nI b = 60 from (e 60 (by omega)).mpr h60)]; rw [h60] at h; exact h
  rw [if_neg (show ¬ nI b = 60 from fun q => h60 ((e 60 (by omega)).mp q))]
  by_cases h62 : b = 62
  · rw [if_pos (show nI b = 62 from (e 62 (by omega)).mpr h62)]; rw [h62] at h; exact h
  rw [if_neg (show ¬ nI b = 62 from fun q => h62 ((e 62 (by omega)).mp q))]
  by_cases h61 : b = 61
  · rw [if_pos (show nI b = 61 from (e 61 (by omega)).mpr h61)]; rw [h61] at h; exact h
  rw [if_neg (show ¬ nI b = 61 from fun q => h61 ((e 61 (by omega)).mp q))]
  by_cases h43 : b = 43
  · rw [if_pos (show nI b = 43 from (e 43 (by omega)).mpr h43)]; rw [h43] at h; exact h
  rw [if_neg (show ¬ nI b = 43 from fun q => h43 ((e 43 (by omega)).mp q))]
  by_cases h45 : b = 45
  · rw [if_pos (show nI b = 45 from (e 45 (by omega)).mpr h45)]; rw [h45] at h; exact h
  rw [if_neg (show ¬ nI b = 45 from fun q => h45 ((e 45 (by omega)).mp q))]
  by_cases h42 : b = 42
  · rw [if_pos (show nI b = 42 from (e 42 (by omega)).mpr h42)]; rw [h42] at h; exact h
  rw [if_neg (show ¬ nI b = 42 from fun q => h42 ((e 42 (by omega)).mp q))]
  by_cases h47 : b = 47
  · rw [if_pos (show nI b = 47 from (e 47 (by omega)).mpr h47)]; rw [h47] at h; exact h
  rw [if_neg (show ¬ nI b = 47 from fun q => h47 ((e 47 (by omega)).mp q))]
  by_cases h37 : b = 37
  · rw [if_pos (show nI b = 37 from (e 37 (by omega)).mpr h37)]; rw [h37] at h; exact h
  rw [if_neg (show ¬ nI b = 37 from fun q => h37 ((e 37 (by omega)).mp q))]
  have hs : sgB b = false := by
    cases hq : sgB b with
    | false => rfl
    | true =>
      unfold sgB at hq
      have hq := List.contains_iff_mem.mp hq
      simp only [List.mem_cons, List.not_mem_nil, or_false] at hq
      omega
  rw [hs] at h; exact h
theorem l_shl {x c : Nat} (hx : x < 2 ^ 56) (hc : c < 256) : ((lN x) <<< (Int32.toInt64 8 &&& 63)) ||| (nI c).toInt64 = lN (x * 256 + c) := by
  rw [(lb_all hc).2.2]
  apply Int64.toBitVec_inj.mp
  rw [Int64.toBitVec_or, Int64.toBitVec_shiftLeft]
  apply BitVec.eq_of_toNat_eq
  rw [BitVec.toNat_or, BitVec.shiftLeft_eq', BitVec.toNat_shiftLeft, lN_nat, lN_nat, lN_nat, show ((Int32.toInt64 8 &&& 63).toBitVec.smod 64).toNat = 8 by decide +kernel, Nat.mod_eq_of_lt (show x < 2 ^ 64 by omega), Nat.mod_eq_of_lt (show c < 2 ^ 64 by omega), Nat.mod_eq_of_lt (show x * 256 + c < 2 ^ 64 by omega), Nat.shiftLeft_eq, Nat.mod_eq_of_lt (show x * 2 ^ 8 < 2 ^ 64 by omega), Nat.mul_comm x (2 ^ 8), ← Nat.two_pow_add_eq_or_of_lt (i := 8) (by omega)]
/-- the model stands at the token that begins at a -/
def RT (M : Mem) (L : Nat) (T : Nat → Nat) (a : Nat) : Prop := ri M 58 6 = nI (tK T L a) ∧ ri M 58 7 = nI (tS T L a) ∧ (tK T L a ≠ 3 → ri M 58 4 = nI (tE T L a)) ∧ (tK T L a = 1 → rl M 58 9 = lN (v256 (tW T L a))) ∧ (tK T L a = 2 → ri M 58 8 = nI (tN T L a))
def QK (M M' : Mem) : Prop := QTm M M' ∧ ri M' 58 2 = ri M 58 2 ∧ ri M' 58 3 = ri M 58 3
theorem QK.rf {M : Mem} : QK M M := ⟨QTm.rf, rfl, rfl⟩
theorem QK.trans {M M' M'' : Mem} (h : QK M M') (h2 : QK M' M'') : QK M M'' := ⟨h.1.trans h2.1, h2.2.1.trans h.2.1, h2.2.2.trans h.2.2⟩
theorem qk_w {M : Mem} {j : Nat} {x : Int32} (h : j = 4 ∨ j = 6 ∨ j = 7 ∨ j = 8) : QK M (wi M 58 j x) := ⟨qt_w (by omega), by rw [ri_wi, if_neg (by omega)], by rw [ri_wi, if_neg (by omega)]⟩
theorem qk_l {M : Mem} {x : Int64} : QK M (wl M 58 9 x) := ⟨qt_l, rfl, rfl⟩
theorem r_token {d L a : Nat} {T : Nat → Nat} {M : Mem} {K : Mem → Prop} (hT : TZ M L T) (hO : TOk L T) (h4 : ri M 58 4 = nI a) (ha : a ≤ L) (hK : ∀ M', QK M M' → RT M' L T a → K M') : CV (d + 1) μX9_token [.ref 58] M K := by
  have hL := hO.1
  have hS := tS_le (T := T) ha
  have h0 : (0 : Int32) = nI 0 := rfl
  -- words
  have words : ∀ (x1 : Int32) (k n : Nat) (M2 : Mem), k + (tS T L a + n) = L → ¬ L ≤ tS T L a → lB (T (tS T L a)) = true → QK M M2 → ri M2 58 4 = nI (tS T L a) → ri M2 58 7 = nI (tS T L a) → (n ≤ 8 → rl M2 58 9 = lN (v256 (wd T (tS T L a) n))) → en lB T L (tS T L a + n) = en lB T L (tS T L a) → RV (d + 1) μX9_token 78 [(0, .ref 58), (1, .int x1), (2, .int (nI n))] [] M2 K := by
    intro x1 k n M2 hk hend hl
    have hkk : tK T L a = if en lB T L (tS T L a) - tS T L a ≤ 8 then 1 else 3 := by unfold tK; rw [if_neg hend, if_pos hl]
    have hee : tE T L a = en lB T L (tS T L a) := by unfold tE; rw [if_neg hend, if_pos hl]
    have hall : ∀ i, i < en lB T L (tS T L a) - tS T L a → LpC (T (tS T L a + i)) := fun i hi => lB_iff.mp (en_in (L := L) (a := tS T L a) (by omega) (by omega))
    induction k using Nat.strongRecOn generalizing n M2 with
    | ind k ih =>
      intro q2 e4 e7 e9 he
      refine sg_X9_token_78 ?_
      refine r_here (p := tS T L a) (i := n) (hT.qt q2.1) hO e4 (by omega) (r_isLetter hO ?_)
      by_cases hc : tS T L a + n < L ∧ lB (T (tS T L a + n)) = true
      · rw [if_neg (bI_ne (decide_eq_true hc)), nI_1]
        have he2 : en lB T L (tS T L a + (n + 1)) = en lB T L (tS T L a) := by rw [← he, en_go hc.1 hc.2]; rfl
        by_cases h8 : 8 ≤ n
        · rw [if_pos (by rw [show (8 : Int32) = nI 8 from rfl, nI_leI (by omega) (by omega)]; exact h8)]
          exact ih (k - 1) (by omega) (n + 1) M2 (by omega) q2 e4 e7 (fun q => by omega) he2
        · rw [if_neg (by rw [show (8 : Int32) = nI 8 from rfl, nI_leI (by omega) (by omega)]; exact h8)]
          refine r_here (p := tS T L a) (i := n) (hT.qt q2.1) hO e4 (by omega) ?_
          intro M3 g3
          have hge := en_ge (p := lB) (T := T) (L := L) (a := tS T L a + (n + 1))
          have hw : WO (wd T (tS T L a) n) := ⟨fun c hc => by obtain ⟨i, hi, e⟩ := wd_mem hc; rw [e]; exact hall i (by omega), by rw [wd_len]; omega⟩
          have hv : v256 (wd T (tS T L a) n) < 2 ^ 56 := by
            have h1 := vR_lt (B := 256) (g := fun c => c) (by decide) (wd T (tS T L a) n) (fun c hc => by have := (hw.1 c hc).2; show c < 256; omega)
            rw [wd_len] at h1
            have h2 : 256 ^ n ≤ 256 ^ 7 := Nat.pow_le_pow_right (by decide) (by omega)
            have h3 : (256 : Nat) ^ 7 = 2 ^ 56 := by decide
            unfold v256; omega
          rw [e9 (by omega), show hV T L (tS T L a + n) = nI (T (tS T L a + n)) by unfold hV; rw [if_pos hc.1], l_shl hv (hO.2 _ hc.1)] at g3
          have r3 : ∀ k j, ri M3 k j = ri M2 k j := by intro k j; rw [g3, ri_wl]
          exact ih (k - 1) (by omega) (n + 1) M3 (by omega) (q2.trans (by rw [g3]; exact qk_l)) (by rw [r3]; exact e4) (by rw [r3]; exact e7) (fun _ => by rw [g3, rl_wl, if_pos ⟨rfl, rfl⟩]; rfl) he2
      · rw [if_pos (bI_eq (decide_eq_false hc))]
        rw [en_stop hc] at he
        have hn : en lB T L (tS T L a) - tS T L a = n := by omega
        by_cases h8 : n ≤ 8
        · rw [if_pos (by rw [show (8 : Int32) = nI 8 from rfl, nI_leI (by omega) (by omega)]; exact h8)]
          rw [hn, if_pos h8] at hkk
          intro M3 g3
          have r3 : ∀ k j, ri M3 k j = if k = 58 ∧ j = 6 then 1 else ri M2 k j := by intro k j; rw [g3, ri_wi]
          rw [show ri M3 58 6 = 1 by rw [r3, if_pos ⟨rfl, rfl⟩], if_neg (by decide), show ri M3 58 4 = nI (tS T L a) by rw [r3, if_neg (by omega)]; exact e4, nI_add]
          intro M4 g4
          have r4 : ∀ k j, ri M4 k j = if k = 58 ∧ j = 4 then nI (tS T L a + n) else ri M3 k j := by intro k j; rw [g4, ri_wi]
          refine hK M4 ((q2.trans (show QK M2 M3 by rw [g3]; exact qk_w (by omega))).trans (by rw [g4]; exact qk_w (by omega))) ⟨?_, ?_, fun _ => ?_, fun _ => ?_, fun q => by rw [hkk] at q; omega⟩
          · rw [r4, if_neg (by omega), r3, if_pos ⟨rfl, rfl⟩, hkk]; rfl
          · rw [r4, if_neg (by omega), r3, if_neg (by omega)]; exact e7
          · rw [r4, if_pos ⟨rfl, rfl⟩, hee, ← he]
          · rw [g4, rl_wi, g3, rl_wi, e9 h8]; unfold tW; rw [hn]
        · rw [if_neg (by rw [show (8 : Int32) = nI 8 from rfl, nI_leI (by omega) (by omega)]; exact h8)]
          rw [hn, if_neg h8] at hkk
          intro M3 g3
          have r3 : ∀ k j, ri M3 k j = if k = 58 ∧ j = 6 then 3 else ri M2 k j := by intro k j; rw [g3, ri_wi]
          rw [show ri M3 58 6 = 3 by rw [r3, if_pos ⟨rfl, rfl⟩], if_pos rfl]
          refine hK M3 (q2.trans (by rw [g3]; exact qk_w (by omega))) ⟨?_, ?_, fun q => absurd hkk q, fun q => by rw [hkk] at q; omega, fun q => by rw [hkk] at q; omega⟩
          · rw [r3, if_pos ⟨rfl, rfl⟩, hkk]; rfl
          · rw [r3, if_neg (by omega)]; exact e7
  -- numbers
  have nums : ∀ (x1 : Int32) (k n : Nat) (M2 : Mem), k + (tS T L a + n) = L → ¬ L ≤ tS T L a → ¬ lB (T (tS T L a)) = true → dB (T (tS T L a)) = true → QK M M2 → ri M2 58 4 = nI (tS T L a) → ri M2 58 7 = nI (tS T L a) → (n ≤ 4 → ri M2 58 8 = nI (v10 (wd T (tS T L a) n))) → en dB T L (tS T L a + n) = en dB T L (tS T L a) → RV (d + 1) μX9_token 144 [(0, .ref 58), (1, .int x1), (2, .int (nI n))] [] M2 K := by
    intro x1 k n M2 hk hend hl hdd
    have hkk : tK T L a = if 4 < en dB T L (tS T L a) - tS T L a ∨ (en dB T L (tS T L a) < L ∧ lB (T (en dB T L (tS T L a))) = true) then 3 else 2 := by unfold tK; rw [if_neg hend, if_neg hl, if_pos hdd]
    have hee : tE T L a = en dB T L (tS T L a) := by unfold tE; rw [if_neg hend, if_neg hl, if_pos hdd]
    induction k using Nat.strongRecOn generalizing n M2 with
    | ind k ih =>
      intro q2 e4 e7 e8 he
      have bad : tK T L a = 3 → RV (d + 1) μX9_token 203 [(0, .ref 58), (1, .int x1), (2, .int (nI n))] [.ref 58] M2 K := by
        intro h3
        refine sg_X9_token_203 ?_
        intro M3 g3
        have r3 : ∀ k j, ri M3 k j = if k = 58 ∧ j = 6 then 3 else ri M2 k j := by intro k j; rw [g3, ri_wi]
        rw [show ri M3 58 6 = 3 by rw [r3, if_pos ⟨rfl, rfl⟩], if_pos rfl]
        refine hK M3 (q2.trans (by rw [g3]; exact qk_w (by omega))) ⟨?_, ?_, fun q => absurd h3 q, fun q => by rw [h3] at q; omega, fun q => by rw [h3] at q; omega⟩
        · rw [r3, if_pos ⟨rfl, rfl⟩, h3]; rfl
        · rw [r3, if_neg (by omega)]; exact e7
      refine sg_X9_token_144 ?_
      refine r_here (p := tS T L a) (i := n) (hT.qt q2.1) hO e4 (by omega) (r_isDigit hO ?_)
      by_cases hc : tS T L a + n < L ∧ dB (T (tS T L a + n)) = true
      · rw [if_neg (bI_ne (decide_eq_true hc)), nI_1]
        have he2 : en dB T L (tS T L a + (n + 1)) = en dB T L (tS T L a) := by rw [← he, en_go hc.1 hc.2]; rfl
        by_cases h4 : 4 ≤ n
        · rw [if_pos (by rw [show (4 : Int32) = nI 4 from rfl, nI_leI (by omega) (by omega)]; exact h4)]
          exact ih (k - 1) (by omega) (n + 1) M2 (by omega) q2 e4 e7 (fun q => by omega) he2
        · rw [if_neg (by rw [show (4 : Int32) = nI 4 from rfl, nI_leI (by omega) (by omega)]; exact h4)]
          refine r_here (p := tS T L a) (i := n) (hT.qt q2.1) hO e4 (by omega) ?_
          intro M3 g3
          have hd48 : 48 ≤ T (tS T L a + n) := (of_decide_eq_true hc.2).1
          rw [e8 (by omega), show hV T L (tS T L a + n) = nI (T (tS T L a + n)) by unfold hV; rw [if_pos hc.1], show (10 : Int32) = nI 10 from rfl, n_mul, nI_add, show (48 : Int32) = nI 48 from rfl, n_sub (by omega), show 10 * v10 (wd T (tS T L a) n) + T (tS T L a + n) - 48 = v10 (wd T (tS T L a) (n + 1)) by (show _ = v10 (wd T (tS T L a) n) * 10 + (T (tS T L a + n) - 48)); omega] at g3
          have r3 : ∀ k j, ri M3 k j = if k = 58 ∧ j = 8 then nI (v10 (wd T (tS T L a) (n + 1))) else ri M2 k j := by intro k j; rw [g3, ri_wi]
          exact ih (k - 1) (by omega) (n + 1) M3 (by omega) (q2.trans (by rw [g3]; exact qk_w (by omega))) (by rw [r3, if_neg (by omega)]; exact e4) (by rw [r3, if_neg (by omega)]; exact e7) (fun _ => by rw [r3, if_pos ⟨rfl, rfl⟩]) he2
      · rw [if_pos (bI_eq (decide_eq_false hc))]
        rw [en_stop hc] at he
        have hn : en dB T L (tS T L a) - tS T L a = n := by omega
        by_cases h4 : 4 < n
        · rw [if_pos (by rw [show (4 : Int32) = nI 4 from rfl, nI_ltI (by omega) (by omega)]; exact h4)]
          exact bad (by rw [hkk, hn, if_pos (Or.inl h4)])
        · rw [if_neg (by rw [show (4 : Int32) = nI 4 from rfl, nI_ltI (by omega) (by omega)]; exact h4)]
          refine r_here (p := tS T L a) (i := n) (hT.qt q2.1) hO e4 (by omega) (r_isLetter hO ?_)
          by_cases hl2 : tS T L a + n < L ∧ lB (T (tS T L a + n)) = true
          · rw [if_neg (bI_ne (decide_eq_true hl2))]
            exact bad (by rw [hkk, if_pos (Or.inr (by rw [← he]; exact hl2))])
          · rw [if_pos (bI_eq (decide_eq_false hl2))]
            rw [hn, ← he, if_neg (fun q => by rcases q with q | q; exact h4 q; exact hl2 q)] at hkk
            intro M3 g3
            have r3 : ∀ k j, ri M3 k j = if k = 58 ∧ j = 6 then 2 else ri M2 k j := by intro k j; rw [g3, ri_wi]
            rw [show ri M3 58 6 = 2 by rw [r3, if_pos ⟨rfl, rfl⟩], if_neg (by decide), show ri M3 58 4 = nI (tS T L a) by rw [r3, if_neg (by omega)]; exact e4, nI_add]
            intro M4 g4
            have r4 : ∀ k j, ri M4 k j = if k = 58 ∧ j = 4 then nI (tS T L a + n) else ri M3 k j := by intro k j; rw [g4, ri_wi]
            refine hK M4 ((q2.trans (show QK M2 M3 by rw [g3]; exact qk_w (by omega))).trans (by rw [g4]; exact qk_w (by omega))) ⟨?_, ?_, fun _ => ?_, fun q => by rw [hkk] at q; omega, fun _ => ?_⟩
            · rw [r4, if_neg (by omega), r3, if_pos ⟨rfl, rfl⟩, hkk]; rfl
            · rw [r4, if_neg (by omega), r3, if_neg (by omega)]; exact e7
            · rw [r4, if_pos ⟨rfl, rfl⟩, hee, ← he]
            · rw [r4, if_neg (by omega), r3, if_neg (by omega), e8 (by omega)]; unfold tN; rw [hn]
  have loop : ∀ (k p : Nat) (M2 : Mem), k + p = L → QK M M2 → ri M2 58 4 = nI p → en wB T L p = en wB T L a → RV (d + 1) μX9_token 0 [(0, .ref 58)] [] M2 K := by
    intro k
    induction k using Nat.strongRecOn with
    | ind k ih =>
      intro p M2 hk q2 e4 he
      have t2 := hT.qt q2.1
      refine sg_X9_token_0 ?_
      refine r_here (p := p) (i := 0) t2 hO e4 (by omega) ?_
      have go : p < L → wB (T p) = true → ∀ M3, M3 = wi M2 58 4 (ri M2 58 4 + 1) → RV (d + 1) μX9_token 0 [(0, .ref 58)] [] M3 K := by
        intro hp hw M3 g3
        rw [e4, nI_1] at g3
        refine ih (k - 1) (by omega) (p + 1) M3 (by omega) (q2.trans (by rw [g3]; exact qk_w (by omega))) (by rw [g3, ri_wi, if_pos ⟨rfl, rfl⟩]) ?_
        rw [← he, en_go hp hw]
      by_cases h32 : p < L ∧ T p = 32
      · rw [if_pos (by unfold hV; rw [Nat.add_zero, if_pos h32.1, h32.2]; rfl)]
        exact go h32.1 (by unfold wB; exact decide_eq_true (Or.inl h32.2))
      rw [if_neg (by
        unfold hV
        rw [Nat.add_zero]
        by_cases hp : p < L
        · rw [if_pos hp]; intro q; exact h32 ⟨hp, nI_inj (b := 32) (by have := hO.2 p hp; omega) (by omega) q⟩
        · rw [if_neg hp]; decide)]
      refine r_here (p := p) (i := 0) t2 hO e4 (by omega) ?_
      by_cases h10 : p < L ∧ T p = 10
      · rw [if_pos (by unfold hV; rw [Nat.add_zero, if_pos h10.1, h10.2]; rfl)]
        exact go h10.1 (by unfold wB; exact decide_eq_true (Or.inr h10.2))
      rw [if_neg (by
        unfold hV
        rw [Nat.add_zero]
        by_cases hp : p < L
        · rw [if_pos hp]; intro q; exact h10 ⟨hp, nI_inj (b := 10) (by have := hO.2 p hp; omega) (by omega) q⟩
        · rw [if_neg hp]; decide)]
      have hnw : ¬ (p < L ∧ wB (T p) = true) := fun q => by
        have := of_decide_eq_true q.2
        rcases this with z | z
        · exact h32 ⟨q.1, z⟩
        · exact h10 ⟨q.1, z⟩
      rw [en_stop hnw] at he
      have hp : p = tS T L a := he
      subst hp
      intro M3 g3
      rw [e4] at g3
      have r3 : ∀ k j, ri M3 k j = if k = 58 ∧ j = 7 then nI (tS T L a) else ri M2 k j := by intro k j; rw [g3, ri_wi]
      have q3 : QK M M3 := q2.trans (by rw [g3]; exact qk_w (by omega))
      refine r_here (p := tS T L a) (i := 0) (hT.qt q3.1) hO (by rw [r3, if_neg (by omega)]; exact e4) (by omega) ?_
      intro M4 g4 M5 g5
      have r5 : ∀ k j, ri M5 k j = if k = 58 ∧ j = 8 then 0 else ri M3 k j := by intro k j; rw [g5, ri_wi, g4, ri_wl]
      have q5 : QK M M5 := (q3.trans (show QK M3 M4 by rw [g4]; exact qk_l)).trans (by rw [g5]; exact qk_w (by omega))
      have f4 : ri M5 58 4 = nI (tS T L a) := by rw [r5, if_neg (by omega), r3, if_neg (by omega)]; exact e4
      have f7 : ri M5 58 7 = nI (tS T L a) := by rw [r5, if_neg (by omega), r3, if_pos ⟨rfl, rfl⟩]
      have f8 : ri M5 58 8 = 0 := by rw [r5, if_pos ⟨rfl, rfl⟩]
      have f9 : rl M5 58 9 = 0 := by rw [g5, rl_wi, g4, rl_wl, if_pos ⟨rfl, rfl⟩]
      rw [Nat.add_zero]
      by_cases hend : L ≤ tS T L a
      · have hkk : tK T L a = 0 := by unfold tK; rw [if_pos hend]
        have hee : tE T L a = tS T L a := by unfold tE; rw [if_pos hend]
        rw [if_neg (by unfold hV; rw [if_neg (by omega)]; decide)]
        intro M6 g6
        have r6 : ∀ k j, ri M6 k j = if k = 58 ∧ j = 6 then 0 else ri M5 k j := by intro k j; rw [g6, ri_wi]
        rw [show ri M6 58 6 = 0 by rw [r6, if_pos ⟨rfl, rfl⟩], if_neg (by decide), show ri M6 58 4 = nI (tS T L a) by rw [r6, if_neg (by omega)]; exact f4, Int32.add_zero]
        intro M7 g7
        have r7 : ∀ k j, ri M7 k j = if k = 58 ∧ j = 4 then nI (tS T L a) else ri M6 k j := by intro k j; rw [g7, ri_wi]
        refine hK M7 ((q5.trans (show QK M5 M6 by rw [g6]; exact qk_w (by omega))).trans (by rw [g7]; exact qk_w (by omega))) ⟨?_, ?_, fun _ => ?_, fun q => by rw [hkk] at q; omega, fun q => by rw [hkk] at q; omega⟩
        · rw [r7, if_neg (by omega), r6, if_pos ⟨rfl, rfl⟩, hkk]; rfl
        · rw [r7, if_neg (by omega), r6, if_neg (by omega)]; exact f7
        · rw [r7, if_pos ⟨rfl, rfl⟩, hee]
      · have hv : hV T L (tS T L a) = nI (T (tS T L a)) := by unfold hV; rw [if_pos (by omega)]
        have hb := hO.2 (tS T L a) (by omega)
        rw [if_pos (by rw [hv]; exact nI_nn (by omega))]
        refine r_isLetter hO ?_
        by_cases hl : lB (T (tS T L a)) = true
        · rw [if_neg (bI_ne (decide_eq_true ⟨by omega, hl⟩))]
          exact words _ (L - tS T L a) 0 M5 (by omega) hend hl q5 f4 f7 (fun _ => f9) rfl
        · rw [if_pos (bI_eq (decide_eq_false (fun q => hl q.2)))]
          refine r_isDigit hO ?_
          by_cases hdd : dB (T (tS T L a)) = true
          · rw [if_neg (bI_ne (decide_eq_true ⟨by omega, hdd⟩))]
            exact nums _ (L - tS T L a) 0 M5 (by omega) hend hl hdd q5 f4 f7 (fun _ => f8) rfl
          · rw [if_pos (bI_eq (decide_eq_false (fun q => hdd q.2))), hv]
            refine r_isSign hb ?_
            by_cases hg : sgB (T (tS T L a)) = true
            · have hkk : tK T L a = T (tS T L a) := by unfold tK; rw [if_neg hend, if_neg hl, if_neg hdd, if_pos hg]
              have hee : tE T L a = tS T L a + 1 := by unfold tE; rw [if_neg hend, if_neg hl, if_neg hdd]
              have hgl := sgB_lt hg
              rw [if_neg (bI_ne hg)]
              intro M6 g6
              have r6 : ∀ k j, ri M6 k j = if k = 58 ∧ j = 6 then nI (T (tS T L a)) else ri M5 k j := by intro k j; rw [g6, ri_wi]
              rw [show ri M6 58 6 = nI (T (tS T L a)) by rw [r6, if_pos ⟨rfl, rfl⟩], if_neg (fun q => by have := nI_inj (b := 3) (by omega) (by omega) q; omega), show ri M6 58 4 = nI (tS T L a) by rw [r6, if_neg (by omega)]; exact f4, nI_1]
              intro M7 g7
              have r7 : ∀ k j, ri M7 k j = if k = 58 ∧ j = 4 then nI (tS T L a + 1) else ri M6 k j := by intro k j; rw [g7, ri_wi]
              refine hK M7 ((q5.trans (show QK M5 M6 by rw [g6]; exact qk_w (by omega))).trans (by rw [g7]; exact qk_w (by omega))) ⟨?_, ?_, fun _ => ?_, fun q => by rw [hkk] at q; omega, fun q => by rw [hkk] at q; omega⟩
              · rw [r7, if_neg (by omega), r6, if_pos ⟨rfl, rfl⟩, hkk]
              · rw [r7, if_neg (by omega), r6, if_neg (by omega)]; exact f7
              · rw [r7, if_pos ⟨rfl, rfl⟩, hee]
            · have hkk : tK T L a = 3 := by unfold tK; rw [if_neg hend, if_neg hl, if_neg hdd, if_neg hg]
              rw [if_pos (bI_eq (Bool.eq_false_iff.mpr hg))]
              intro M6 g6
              have r6 : ∀ k j, ri M6 k j = if k = 58 ∧ j = 6 then 3 else ri M5 k j := by intro k j; rw [g6, ri_wi]
              rw [show ri M6 58 6 = 3 by rw [r6, if_pos ⟨rfl, rfl⟩], if_pos rfl]
              refine hK M6 (q5.trans (by rw [g6]; exact qk_w (by omega))) ⟨?_, ?_, fun q => absurd hkk q, fun q => by rw [hkk] at q; omega, fun q => by rw [hkk] at q; omega⟩
              · rw [r6, if_pos ⟨rfl, rfl⟩, hkk]; rfl
              · rw [r6, if_neg (by omega)]; exact f7
  exact loop (L - a) a M (by omega) QK.rf h4 rfl
