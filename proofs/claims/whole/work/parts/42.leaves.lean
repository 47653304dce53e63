/-! corners as bits of three; their order; small methods of Froth -/
def low8 (m : Nat) : Nat := match bitsL m with
  | a :: _ => a
  | _ => 8
theorem bc_small : ∀ x, x < 256 → nI (pc8 x) = ((((((((nI x) - (((Int32.toUInt32 (nI x) >>> (Int32.toUInt32 1 &&& Int32.toUInt32 31)).toInt32) &&& 1431655765)) &&& 858993459) + (((Int32.toUInt32 ((nI x) - (((Int32.toUInt32 (nI x) >>> (Int32.toUInt32 1 &&& Int32.toUInt32 31)).toInt32) &&& 1431655765)) >>> (Int32.toUInt32 2 &&& Int32.toUInt32 31)).toInt32) &&& 858993459)) + ((Int32.toUInt32 ((((nI x) - (((Int32.toUInt32 (nI x) >>> (Int32.toUInt32 1 &&& Int32.toUInt32 31)).toInt32) &&& 1431655765)) &&& 858993459) + (((Int32.toUInt32 ((nI x) - (((Int32.toUInt32 (nI x) >>> (Int32.toUInt32 1 &&& Int32.toUInt32 31)).toInt32) &&& 1431655765)) >>> (Int32.toUInt32 2 &&& Int32.toUInt32 31)).toInt32) &&& 858993459)) >>> (Int32.toUInt32 4 &&& Int32.toUInt32 31)).toInt32)) &&& 252645135) + ((Int32.toUInt32 ((((((nI x) - (((Int32.toUInt32 (nI x) >>> (Int32.toUInt32 1 &&& Int32.toUInt32 31)).toInt32) &&& 1431655765)) &&& 858993459) + (((Int32.toUInt32 ((nI x) - (((Int32.toUInt32 (nI x) >>> (Int32.toUInt32 1 &&& Int32.toUInt32 31)).toInt32) &&& 1431655765)) >>> (Int32.toUInt32 2 &&& Int32.toUInt32 31)).toInt32) &&& 858993459)) + ((Int32.toUInt32 ((((nI x) - (((Int32.toUInt32 (nI x) >>> (Int32.toUInt32 1 &&& Int32.toUInt32 31)).toInt32) &&& 1431655765)) &&& 858993459) + (((Int32.toUInt32 ((nI x) - (((Int32.toUInt32 (nI x) >>> (Int32.toUInt32 1 &&& Int32.toUInt32 31)).toInt32) &&& 1431655765)) >>> (Int32.toUInt32 2 &&& Int32.toUInt32 31)).toInt32) &&& 858993459)) >>> (Int32.toUInt32 4 &&& Int32.toUInt32 31)).toInt32)) &&& 252645135) >>> (Int32.toUInt32 8 &&& Int32.toUInt32 31)).toInt32)) + ((Int32.toUInt32 (((((((nI x) - (((Int32.toUInt32 (nI x) >>> (Int32.toUInt32 1 &&& Int32.toUInt32 31)).toInt32) &&& 1431655765)) &&& 858993459) + (((Int32.toUInt32 ((nI x) - (((Int32.toUInt32 (nI x) >>> (Int32.toUInt32 1 &&& Int32.toUInt32 31)).toInt32) &&& 1431655765)) >>> (Int32.toUInt32 2 &&& Int32.toUInt32 31)).toInt32) &&& 858993459)) + ((Int32.toUInt32 ((((nI x) - (((Int32.toUInt32 (nI x) >>> (Int32.toUInt32 1 &&& Int32.toUInt32 31)).toInt32) &&& 1431655765)) &&& 858993459) + (((Int32.toUInt32 ((nI x) - (((Int32.toUInt32 (nI x) >>> (Int32.toUInt32 1 &&& Int32.toUInt32 31)).toInt32) &&& 1431655765)) >>> (Int32.toUInt32 2 &&& Int32.toUInt32 31)).toInt32) &&& 858993459)) >>> (Int32.toUInt32 4 &&& Int32.toUInt32 31)).toInt32)) &&& 252645135) + ((Int32.toUInt32 ((((((nI x) - (((Int32.toUInt32 (nI x) >>> (Int32.toUInt32 1 &&& Int32.toUInt32 31)).toInt32) &&& 1431655765)) &&& 858993459) + (((Int32.toUInt32 ((nI x) - (((Int32.toUInt32 (nI x) >>> (Int32.toUInt32 1 &&& Int32.toUInt32 31)).toInt32) &&& 1431655765)) >>> (Int32.toUInt32 2 &&& Int32.toUInt32 31)).toInt32) &&& 858993459)) + ((Int32.toUInt32 ((((nI x) - (((Int32.toUInt32 (nI x) >>> (Int32.toUInt32 1 &&& Int32.toUInt32 31)).toInt32) &&& 1431655765)) &&& 858993459) + (((Int32.toUInt32 ((nI x) - (((Int32.toUInt32 (nI x) >>> (Int32.toUInt32 1 &&& Int32.toUInt32 31)).toInt32) &&& 1431655765)) >>> (Int32.toUInt32 2 &&& Int32.toUInt32 31)).toInt32) &&& 858993459)) >>> (Int32.toUInt32 4 &&& Int32.toUInt32 31)).toInt32)) &&& 252645135) >>> (Int32.toUInt32 8 &&& Int32.toUInt32 31)).toInt32)) >>> (Int32.toUInt32 16 &&& Int32.toUInt32 31)).toInt32)) &&& 63 := by decide +kernel
theorem cb_small : ∀ x, x < 256 → pc8 x = 3 → ∀ y, y < 256 → pc8 y = 3 → ((nI x &&& (nI x ^^^ nI y)) &&& (-(nI x ^^^ nI y)) = 0 ↔ ¬ cdm x < cdm y) := by decide +kernel
theorem low_zero : ∀ m, m < 256 → (∀ j, j < 8 → m.testBit j = false) → m = 0 := by decide +kernel
theorem low_firstB : ∀ m, m < 256 → ∀ i, i < 8 → (m.testBit i && (List.range i).all (fun j => !m.testBit j)) = true → ¬ m = 0 ∧ low8 m = i := by decide +kernel
theorem low_first (m : Nat) (hm : m < 256) (i : Nat) (hi : i < 8) (h : m.testBit i = true) (hj : ∀ j, j < i → m.testBit j = false) : ¬ m = 0 ∧ low8 m = i := by
  refine low_firstB m hm i hi ?_
  rw [h, Bool.true_and, List.all_eq_true]
  intro j hj'
  rw [hj j (List.mem_range.mp hj')]
  rfl
theorem c_bitCount {d : Nat} {M : Mem} {K : Int32 → Mem → Prop} {a : Nat} (ha : a < 256) (h : K (nI (pc8 a)) M) : CI d μJ6_bitCount_0f7a4 [.int (nI a)] M K := by
  refine sg_J6_bitCount_0f7a4_0 ?_
  refine cast (congrArg (fun z => K z M) ?_) h
  exact bc_small a ha
theorem c_comesBefore {d : Nat} {M : Mem} {K : Int32 → Mem → Prop} {x y : Nat} (hx : T3 x) (hy : T3 y) (h : K (bI (decide (cdm x < cdm y))) M) : CI d μX2_comesBefore [.int (nI x), .int (nI y)] M K := by
  refine sg_X2_comesBefore_0 ?_
  have e := cb_small x hx.1 hx.2 y hy.1 hy.2
  by_cases q : (nI x &&& (nI x ^^^ nI y)) &&& (-(nI x ^^^ nI y)) = 0
  · rw [if_pos q]
    have := e.mp q
    rw [show decide (cdm x < cdm y) = false by simp [this]] at h
    exact h
  · rw [if_neg q]
    have : cdm x < cdm y := by
      rcases Nat.lt_or_ge (cdm x) (cdm y) with z | z
      · exact z
      · exact absurd (e.mpr (by omega)) q
    rw [show decide (cdm x < cdm y) = true by simp [this]] at h
    exact h
theorem low_loop {d : Nat} {M : Mem} {K : Int32 → Mem → Prop} {m : Nat} (hm : m < 256) : ∀ (f i : Nat), f + i = 8 → (∀ j, j < i → m.testBit j = false) → K (if m = 0 then -1 else nI (low8 m)) M → RI d μX8_lowest 2 [(0, .int (nI m)), (1, .int (nI i))] [] M K := by
  intro f
  induction f with
  | zero =>
    intro i hi hj h
    have : i = 8 := by omega
    subst this
    refine sg_X8_lowest_2 ?_
    rw [if_pos (by rw [l_8, nI_leI (by omega) (by omega)]; omega)]
    have hz := low_zero m hm (fun j hj' => hj j hj')
    rw [if_pos hz] at h
    exact h
  | succ f ih =>
    intro i hi hj h
    refine sg_X8_lowest_2 ?_
    rw [if_neg (by rw [l_8, nI_leI (by omega) (by omega)]; omega), n_bit (by omega) (by omega)]
    by_cases ht : m.testBit i
    · rw [if_pos ht, if_pos rfl]
      have hz := low_first m hm i (by omega) ht (fun j hj' => hj j hj')
      rw [if_neg hz.1, hz.2] at h
      exact h
    · rw [if_neg ht, if_neg (by decide), nI_1]
      refine ih (i + 1) (by omega) (fun j hj' => ?_) h
      rcases Nat.lt_or_ge j i with q | q
      · exact hj j q
      · have : j = i := by omega
        subst this; simpa using ht
theorem c_lowest {d : Nat} {M : Mem} {K : Int32 → Mem → Prop} {m : Nat} (hm : m < 256) (h : K (if m = 0 then -1 else nI (low8 m)) M) : CI d μX8_lowest [.int (nI m)] M K :=
  sg_X8_lowest_0 (low_loop hm 8 0 rfl (fun _ h => absurd h (Nat.not_lt_zero _)) h)
/-- is he there: any int -/
def thI (S : Sh) (a : Int32) : Bool := decide (0 ≤ a ∧ a < nI (sn S)) && (sb S).testBit (nx a)
theorem c_isThere {d o : Nat} {M : Mem} {K : Int32 → Mem → Prop} {S : Sh} {a : Int32} (ho : kd o = (0, 2)) (hF : FB M o S) (hS : SOk S) (h : K (bI (thI S a)) M) : CI d μX2_isThere [.ref o, .int a] M K := by
  refine sg_X2_isThere_0 ho ?_
  have h8 : sn S ≤ 8 := hS.1
  have hout : ∀ q : ¬ (0 ≤ a ∧ a < nI (sn S)), K 0 M := by
    intro q
    have e : thI S a = false := by unfold thI; simp only [q, decide_false, Bool.false_and]
    rw [e] at h
    exact h
  rw [hF.1, hF.2.1]
  by_cases h1 : a < 0
  · rw [if_pos h1]; exact hout (fun q => absurd h1 (i_nlt.mpr q.1))
  rw [if_neg h1]
  by_cases h2 : nI (sn S) ≤ a
  · rw [if_pos h2]; exact hout (fun q => absurd h2 (i_nle.mpr q.2))
  rw [if_neg h2]
  obtain ⟨i, hi, rfl⟩ := n_nat (i_nlt.mp h1) (i_nle.mp h2) (by omega)
  have hb : sb S < 256 := hS.2.1
  have e : thI S (nI i) = (sb S).testBit i := by
    unfold thI nx
    rw [nI_clamp (by omega)]
    simp only [i_nlt.mp h1, i_nle.mp h2, and_self, decide_true, Bool.true_and]
  rw [e] at h
  rw [n_bit (by omega) (by omega)]
  by_cases ht : (sb S).testBit i
  · rw [if_pos ht, if_pos rfl]; rw [ht] at h; exact h
  · rw [if_neg ht, if_neg (by decide)]; rw [Bool.not_eq_true] at ht; rw [ht] at h; exact h
theorem c_isTold {d o : Nat} {M : Mem} {K : Int32 → Mem → Prop} {S : Sh} {a : Int32} (ho : kd o = (0, 2)) (hF : FB M o S) (h : K (bI (decide (0 ≤ a ∧ a < nI (sn S)))) M) : CI d μX2_isTold [.ref o, .int a] M K := by
  refine sg_X2_isTold_0 ho ?_
  rw [hF.1]
  by_cases h1 : a < 0
  · rw [if_pos h1]
    rw [show decide (0 ≤ a ∧ a < nI (sn S)) = false by simp [i_nle.mpr h1]] at h
    exact h
  rw [if_neg h1]
  by_cases h2 : nI (sn S) ≤ a
  · rw [if_pos h2]
    rw [show decide (0 ≤ a ∧ a < nI (sn S)) = false by simp [i_nlt.mpr h2]] at h
    exact h
  rw [if_neg h2]
  rw [show decide (0 ≤ a ∧ a < nI (sn S)) = true by simp [i_nlt.mp h1, i_nle.mp h2]] at h
  exact h
theorem c_howManyThere {d o : Nat} {M : Mem} {K : Int32 → Mem → Prop} {S : Sh} (ho : kd o = (0, 2)) (hF : FB M o S) (hS : SOk S) (h : K (nI (pc8 (sb S))) M) : CI (d + 1) μX2_howManyThere [.ref o] M K := by
  refine sg_X2_howManyThere_0 ho ?_
  rw [hF.2.1]
  exact c_bitCount hS.2.1 h
