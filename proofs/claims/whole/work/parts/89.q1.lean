/-! questions about what is now: lord, wall, corner, aunts -/
theorem Ar.keepE {M M' : Mem} {a : Nat} {S : Sh} (h : Ar M a S) (e : ∀ j, ri M' a j = ri M a j) : Ar M' a S := by
  refine ⟨fun i hi => ?_, ?_, ?_, fun j hj => ?_, ?_, ?_⟩ <;> rw [e]
  · exact h.1 i hi
  · exact h.2.1
  · exact h.2.2.1
  · exact h.2.2.2.1 j hj
  · exact h.2.2.2.2.1
  · exact h.2.2.2.2.2
theorem bI_ne {b : Bool} (h : b = true) : ¬ bI b = 0 := by rw [h]; decide
theorem bI_eq {b : Bool} (h : b = false) : bI b = 0 := by rw [h]; rfl
def aLord (S : Sh) (F : List Int32) (x1 x2 : Int32) : Int32 :=
  if tdI S x1 = true then (if x2 = 0 then bI (thI S x1) else if x2 = 1 then nI (sz S (nx x1)) else if x2 = 2 then nI (dgm (sc S) (nx x1)) else if x2 = 3 then nI (nbm (sc S) (nx x1)) else if x2 = 4 then (if thI S x1 = true then grS S F (nx x1) else 0) else -100) else -100
theorem x_lord {d t : Nat} {M : Mem} {K : Int32 → Mem → Prop} {F : List Int32} {st : Nat} {S S1 : Sh} {x1 x2 : Int32} (hX : CX M t F st S S1) (hK : ∀ M', Q M M' → K (aLord S F x1 x2) M') : CI (d + 4) μX8_lord [.ref 0, .int x1, .int x2] M K := by
  have hF := hX.2.2.2.2.2
  have hS := hF.2.2
  refine sg_X8_lord_0 (c_isTold (by decide +kernel) hF.1 ?_)
  show if bI (tdI S x1) = 0 then _ else _
  have hk := hK M Q.rf
  cases htd : tdI S x1 with
  | false => rw [if_pos (by decide)]; unfold aLord at hk; rw [htd] at hk; exact hk
  | true =>
    rw [if_neg (by decide)]
    obtain ⟨i, hi, rfl⟩ := tdI_nat hS htd
    have h8 := hS.1
    have e1 : nx (nI i) = i := nI_clamp (by omega)
    unfold aLord at hk hK
    rw [htd] at hk hK
    simp only [if_true, e1] at hk hK
    refine ⟨fun h => ?_, fun h => ?_, fun h => ?_, fun h => ?_, fun h => ?_, fun h => ?_⟩
    · subst h
      refine c_isThere (by decide +kernel) hF.1 hS ?_
      rw [if_pos rfl] at hk
      cases hth : thI S (nI i) with
      | false => rw [if_pos (by decide)]; rw [hth] at hk; exact hk
      | true => rw [if_neg (by decide)]; rw [hth] at hk; exact hk
    · subst h
      rw [if_neg (by decide), if_pos rfl] at hk
      rw [e1, hF.1.2.2.2.2.2.1 i (by omega)]
      exact ⟨n_in (by omega) (by decide), hk⟩
    · subst h
      rw [if_neg (by decide), if_neg (by decide), if_pos rfl] at hk
      rw [e1, hF.2.1.2 i (by omega)]
      exact ⟨n_in (by omega) (by decide), hk⟩
    · subst h
      rw [if_neg (by decide), if_neg (by decide), if_neg (by decide), if_pos rfl] at hk
      rw [e1, hF.2.1.1 i (by omega)]
      exact ⟨n_in (by omega) (by decide), hk⟩
    · subst h
      rw [if_neg (by decide), if_neg (by decide), if_neg (by decide), if_neg (by decide), if_pos rfl] at hk hK
      refine c_isThere (by decide +kernel) hF.1 hS ?_
      cases hth : thI S (nI i) with
      | false => rw [if_pos (by decide)]; rw [hth] at hk; exact hk
      | true =>
        rw [if_neg (by decide)]
        rw [hth, if_pos rfl] at hK
        refine ⟨t, hX.1, (tell_kd hX.2.1).1, ?_⟩
        exact c_growthOf (by decide +kernel) (tell_kd hX.2.1).2.1 hi hF hX.2.2.1 (fun M1 s1 => hK M1 (s1.q hX.2.1))
    · have n : ∀ c : Int32, (0 ≤ c.toInt ∧ c.toInt ≤ 4) → x2 ≠ c := by intro c hc q; rw [q] at h; omega
      rw [if_neg (n 0 (by decide)), if_neg (n 1 (by decide)), if_neg (n 2 (by decide)), if_neg (n 3 (by decide)), if_neg (n 4 (by decide))] at hk
      exact hk
theorem n_in14 {i : Nat} (hi : i < 8) : vp_in (14 + nI i) 24 ∧ nx (14 + nI i) = 14 + i := by
  rw [n_14]
  exact ⟨n_in (by omega) (by decide), nI_clamp (by omega)⟩
theorem m_lord {d : Nat} {M : Mem} {K : Int32 → Mem → Prop} {F : List Int32} {st : Nat} {S S1 : Sh} {x1 x2 : Int32} (hR : CR M F st S S1) (hP : CP F st S S1) (hK : ∀ M', Q M M' → K (aLord S F x1 x2) M') : CI (d + 3) μX9_lord [.ref 58, .int x1, .int x2] M K := by
  have hS := hP.1.1
  refine sg_X9_lord_0 (r_isLord hS hR.2.2.2.1 ?_)
  have hk := hK M Q.rf
  cases htd : tdI S x1 with
  | false => rw [if_pos (by decide)]; unfold aLord at hk; rw [htd] at hk; exact hk
  | true =>
    rw [if_neg (by decide)]
    refine r_fillS hR hS (fun M1 q1 a1 c1 => ?_)
    have hk := hK M1 q1
    obtain ⟨i, hi, rfl⟩ := tdI_nat hS htd
    have h8 := hS.1
    have e1 : nx (nI i) = i := nI_clamp (by omega)
    unfold aLord at hk hK
    rw [htd] at hk hK
    rw [thI_nat hS hi] at hk hK
    simp only [if_true, e1] at hk hK
    refine ⟨fun h => ?_, fun h => ?_, fun h => ?_, fun h => ?_, fun h => ?_, fun h => ?_⟩
    · subst h
      rw [if_pos rfl] at hk
      exact r_isThere (by omega) hS.2.1 a1 (r_truth hk)
    · subst h
      rw [if_neg (by decide), if_pos rfl] at hk
      have := n_in14 (show i < 8 by omega)
      rw [this.2, a1.2.2.2.1 i (by omega)]
      exact ⟨this.1, hk⟩
    · subst h
      rw [if_neg (by decide), if_neg (by decide), if_pos rfl] at hk
      exact r_sidesOf (by omega) hS a1 hk
    · subst h
      rw [if_neg (by decide), if_neg (by decide), if_neg (by decide), if_pos rfl] at hk
      exact r_bordersOf (by omega) hS a1 hk
    · subst h
      rw [if_neg (by decide), if_neg (by decide), if_neg (by decide), if_neg (by decide), if_pos rfl] at hk hK
      refine r_isThere (by omega) hS.2.1 a1 ?_
      cases hth : (sb S).testBit i with
      | false => rw [if_pos (by decide)]; rw [hth] at hk; exact hk
      | true =>
        rw [if_neg (by decide)]
        rw [hth, if_pos rfl] at hK
        exact r_growth hi hS hP.1.2.2.2.1 hP.2.2.2.1 a1 c1.2.2.1 (fun M2 s2 => hK M2 (q1.trans s2.q))
    · have n : ∀ c : Int32, (0 ≤ c.toInt ∧ c.toInt ≤ 4) → x2 ≠ c := by intro c hc q; rw [q] at h; omega
      rw [if_neg (n 0 (by decide)), if_neg (n 1 (by decide)), if_neg (n 2 (by decide)), if_neg (n 3 (by decide)), if_neg (n 4 (by decide))] at hk
      exact hk
/-- two lords who are there -/
def twI (S : Sh) (x y : Int32) : Bool := decide (x ≠ y) && thI S x && thI S y
theorem x_areTwo {d : Nat} {M : Mem} {K : Int32 → Mem → Prop} {S : Sh} {x y : Int32} (hF : Fr M 27 S) (hK : K (bI (twI S x y)) M) : CI (d + 1) μX8_areTwo [.ref 0, .int x, .int y] M K := by
  refine sg_X8_areTwo_0 ?_
  unfold twI at hK
  by_cases h : x = y
  · rw [if_pos h]; rw [decide_eq_false (fun q => q h)] at hK; exact hK
  rw [if_neg h]
  rw [decide_eq_true (show x ≠ y from h), Bool.true_and] at hK
  refine c_isThere (by decide +kernel) hF.1 hF.2.2 ?_
  cases h1 : thI S x with
  | false => rw [if_pos (by decide)]; rw [h1] at hK; exact hK
  | true =>
    rw [if_neg (by decide)]
    rw [h1, Bool.true_and] at hK
    refine c_isThere (by decide +kernel) hF.1 hF.2.2 ?_
    cases h2 : thI S y with
    | false => rw [if_pos (by decide)]; rw [h2] at hK; exact hK
    | true => rw [if_neg (by decide)]; rw [h2] at hK; exact hK
theorem thI_is {S : Sh} (hS : SOk S) {x : Int32} (h : thI S x = true) : ∃ i, i < sn S ∧ x = nI i ∧ (sb S).testBit i = true := by
  have h0 := h
  unfold thI at h
  rw [Bool.and_eq_true] at h
  obtain ⟨i, hi, rfl⟩ := tdI_nat hS (x := x) h.1
  rw [thI_nat hS hi] at h0
  exact ⟨i, hi, rfl, h0⟩
def aWall (S : Sh) (x y : Int32) : Int32 := if twI S x y = true then (if mtI S x y = true then (1 + 2 * bI (decide (feI S x y ≠ 0))) + 4 * bI (cmI S x y) else 0) else -1
theorem x_wall {d : Nat} {M : Mem} {K : Int32 → Mem → Prop} {S : Sh} {x y : Int32} (hF : Fr M 27 S) (hK : K (aWall S x y) M) : CI (d + 3) μX8_wall [.ref 0, .int x, .int y] M K := by
  refine sg_X8_wall_0 (x_areTwo hF ?_)
  unfold aWall at hK
  cases h2 : twI S x y with
  | false => rw [if_pos (by decide)]; rw [h2] at hK; exact hK
  | true =>
    rw [if_neg (by decide)]
    rw [h2, if_pos rfl] at hK
    refine c_meets (by decide +kernel) hF ?_
    cases hm : mtI S x y with
    | false => rw [if_pos (by decide)]; rw [hm] at hK; exact hK
    | true =>
      rw [if_neg (by decide)]
      rw [hm, if_pos rfl] at hK
      refine c_flippedEnds (by decide +kernel) hF ?_
      have hlt := feI_lt hF.2.2 x y
      have w42 : ∀ b : Bool, b = decide (feI S x y ≠ 0) → RI (d + 3) μX8_wall 42 [(0, .ref 0), (1, .int x), (2, .int y)] [.int (if b then 2 else 0)] M K := by
        intro b hb
        refine sg_X8_wall_42 (c_canMerge (by decide +kernel) hF ?_)
        rw [← hb] at hK
        cases b <;> cases hc : cmI S x y <;> rw [hc] at hK
        · rw [if_pos (by decide)]; exact hK
        · rw [if_neg (by decide)]; exact hK
        · rw [if_pos (by decide)]; exact hK
        · rw [if_neg (by decide)]; exact hK
      by_cases hf : feI S x y = 0
      · rw [if_pos (by rw [hf]; rfl)]
        exact w42 false (by simp [hf])
      · rw [if_neg (by rw [show (0 : Int32) = nI 0 from rfl, nI_eq (by omega) (by omega)]; exact hf)]
        exact w42 true (by simp [hf])
theorem m_wall {d : Nat} {M : Mem} {K : Int32 → Mem → Prop} {F : List Int32} {st : Nat} {S S1 : Sh} {x y : Int32} (hR : CR M F st S S1) (hP : CP F st S S1) (hK : ∀ M', Q M M' → K (aWall S x y) M') : CI (d + 4) μX9_wall [.ref 58, .int x, .int y] M K := by
  have hS := hP.1.1
  refine sg_X9_wall_0 ?_
  unfold aWall at hK
  by_cases h : x = y
  · rw [if_pos h]
    have hk := hK M Q.rf
    unfold twI at hk
    rw [decide_eq_false (fun q => q h)] at hk; exact hk
  rw [if_neg h]
  have e2 : twI S x y = (thI S x && thI S y) := by unfold twI; rw [decide_eq_true (show x ≠ y from h), Bool.true_and]
  rw [e2] at hK
  refine r_isThereNow hR hS (fun M1 q1 a1 c1 => ?_)
  cases h1 : thI S x with
  | false => rw [if_pos (by decide)]; have hk := hK M1 q1; rw [h1] at hk; exact hk
  | true =>
    rw [if_neg (by decide)]
    refine r_isThereNow c1 hS (fun M2 q2 a2 c2 => ?_)
    have hk := hK M2 (q1.trans q2)
    cases h2 : thI S y with
    | false => rw [if_pos (by decide)]; rw [h1, h2] at hk; exact hk
    | true =>
      rw [if_neg (by decide)]
      rw [h1, h2, Bool.and_self, if_pos rfl] at hk
      obtain ⟨i, hi, rfl, -⟩ := thI_is hS h1
      obtain ⟨j, hj, rfl, -⟩ := thI_is hS h2
      have h8 := hS.1
      refine r_doBorder (by omega) (by omega) hS a2 ?_
      rw [mtI_nat hS hi hj] at hk
      cases hm : (nbm (sc S) i).testBit j with
      | false => rw [if_pos (by decide)]; rw [hm] at hk; exact hk
      | true =>
        rw [if_neg (by decide)]
        rw [hm, if_pos rfl, feI_nat hS hi hj] at hk
        refine r_canFlip hi hj hS hP.1.2.2.1 hP.1.2.2.2.1 a2 (r_truth ?_)
        exact r_canPop hi hj hS a2 (r_truth hk)
def aAunts (S : Sh) (x y : Int32) : Int32 := if twI S x y = true then nI (pc8 (nbm (sc S) (nx x) &&& nbm (sc S) (nx y))) else -1
theorem x_aunts {d : Nat} {M : Mem} {K : Int32 → Mem → Prop} {S : Sh} {x y : Int32} (hF : Fr M 27 S) (hK : K (aAunts S x y) M) : CI (d + 2) μX8_aunts [.ref 0, .int x, .int y] M K := by
  have hS := hF.2.2
  refine sg_X8_aunts_0 (x_areTwo hF ?_)
  unfold aAunts at hK
  cases h2 : twI S x y with
  | false => rw [if_pos (by decide)]; rw [h2] at hK; exact hK
  | true =>
    rw [if_neg (by decide)]
    rw [h2, if_pos rfl] at hK
    unfold twI at h2
    rw [Bool.and_eq_true, Bool.and_eq_true] at h2
    obtain ⟨i, hi, rfl, -⟩ := thI_is hS h2.1.2
    obtain ⟨j, hj, rfl, -⟩ := thI_is hS h2.2
    have h8 := hS.1
    have e1 : nx (nI i) = i := nI_clamp (by omega)
    have e2 : nx (nI j) = j := nI_clamp (by omega)
    rw [e1, e2] at hK
    rw [e1, e2, hF.2.1.1 i (by omega), hF.2.1.1 j (by omega), n_and]
    refine ⟨n_in (by omega) (by decide), n_in (by omega) (by decide), ?_⟩
    exact c_bitCount (Nat.lt_of_le_of_lt Nat.and_le_left (nbm_lt8 hS i)) hK
theorem m_aunts {d : Nat} {M : Mem} {K : Int32 → Mem → Prop} {F : List Int32} {st : Nat} {S S1 : Sh} {x y : Int32} (hR : CR M F st S S1) (hP : CP F st S S1) (hK : ∀ M', Q M M' → K (aAunts S x y) M') : CI (d + 3) μX9_aunts [.ref 58, .int x, .int y] M K := by
  have hS := hP.1.1
  refine sg_X9_aunts_0 ?_
  unfold aAunts at hK
  by_cases h : x = y
  · rw [if_pos h]
    have hk := hK M Q.rf
    unfold twI at hk
    rw [decide_eq_false (fun q => q h)] at hk; exact hk
  rw [if_neg h]
  have e2 : twI S x y = (thI S x && thI S y) := by unfold twI; rw [decide_eq_true (show x ≠ y from h), Bool.true_and]
  rw [e2] at hK
  refine r_isThereNow hR hS (fun M1 q1 a1 c1 => ?_)
  cases h1 : thI S x with
  | false => rw [if_pos (by decide)]; have hk := hK M1 q1; rw [h1] at hk; exact hk
  | true =>
    rw [if_neg (by decide)]
    refine r_isThereNow c1 hS (fun M2 q2 a2 c2 => ?_)
    have hk := hK M2 (q1.trans q2)
    cases h2 : thI S y with
    | false => rw [if_pos (by decide)]; rw [h1, h2] at hk; exact hk
    | true =>
      rw [if_neg (by decide)]
      rw [h1, h2, Bool.and_self, if_pos rfl] at hk
      obtain ⟨i, hi, rfl, -⟩ := thI_is hS h1
      obtain ⟨j, hj, rfl, -⟩ := thI_is hS h2
      have h8 := hS.1
      have e1 : nx (nI i) = i := nI_clamp (by omega)
      have e2 : nx (nI j) = j := nI_clamp (by omega)
      rw [e1, e2] at hk
      refine r_bordersOf (by omega) hS a2 (r_bordersOf (by omega) hS a2 ?_)
      rw [n_and]
      exact r_members (Nat.lt_of_le_of_lt Nat.and_le_left (nbm_lt8 hS i)) hk
def aCorner (S : Sh) (x y : Int32) : Int32 := if 0 ≤ x ∧ x < nI (sc S).length ∧ 0 ≤ y ∧ y ≤ 2 then (if y = 0 then nI (bx ((sc S)[nx x]?.getD 0)) else if y = 1 then nI (bY ((sc S)[nx x]?.getD 0)) else nI (bz ((sc S)[nx x]?.getD 0))) else -1
theorem l2B : ∀ m, m < 256 → pc8 m = 3 → m ≠ 0 ∧ l2m m < 256 ∧ l2m m ≠ 0 ∧ l2m (l2m m) < 256 ∧ l2m (l2m m) ≠ 0 ∧ nI m &&& (nI m - 1) = nI (l2m m) ∧ nI (l2m m) &&& (nI (l2m m) - 1) = nI (l2m (l2m m)) := by decide +kernel
theorem sc_T3 {S : Sh} (hS : SOk S) {i : Nat} (hi : i < (sc S).length) : T3 ((sc S)[i]?.getD 0) := by
  rw [List.getElem?_eq_getElem hi]
  exact hS.2.2.2.1 _ (List.getElem_mem hi)
theorem x_corner {d : Nat} {M : Mem} {K : Int32 → Mem → Prop} {S : Sh} {x y : Int32} (hF : Fr M 27 S) (hK : K (aCorner S x y) M) : CI (d + 1) μX8_corner [.ref 0, .int x, .int y] M K := by
  have hS := hF.2.2
  have h12 := hS.2.2.1
  refine sg_X8_corner_0 ?_
  unfold aCorner at hK
  rw [hF.1.2.2.2.2.1]
  by_cases h1 : x < 0
  · rw [if_pos h1]; rw [if_neg (fun q => absurd h1 (i_nlt.mpr q.1))] at hK; exact hK
  rw [if_neg h1]
  by_cases h2 : nI (sc S).length ≤ x
  · rw [if_pos h2]; rw [if_neg (fun q => absurd h2 (i_nle.mpr q.2.1))] at hK; exact hK
  rw [if_neg h2]
  by_cases h3 : y < 0
  · rw [if_pos h3]; rw [if_neg (fun q => absurd h3 (i_nlt.mpr q.2.2.1))] at hK; exact hK
  rw [if_neg h3]
  by_cases h4 : y ≤ 2
  · rw [if_pos h4]
    rw [if_pos ⟨i_nlt.mp h1, i_nle.mp h2, i_nlt.mp h3, h4⟩] at hK
    obtain ⟨i, hi, rfl⟩ := n_nat (i_nlt.mp h1) (i_nle.mp h2) (by omega)
    have e1 : nx (nI i) = i := nI_clamp (by omega)
    have hy : y < nI 3 := by
      have : (2 : Int32) < nI 3 := by decide
      exact Int32.lt_of_le_of_lt h4 this
    obtain ⟨j, hj, rfl⟩ := n_nat (i_nlt.mp h3) hy (by omega)
    rw [e1, hF.1.2.2.2.2.2.2 i hi]
    rw [e1] at hK
    refine ⟨n_in (by omega) (by decide), ?_⟩
    have hT := sc_T3 hS hi
    generalize (sc S)[i]?.getD 0 = m at hT hK ⊢
    obtain ⟨l0, l1, l2, l3, l4, l5, l6⟩ := l2B m hT.1 hT.2
    have : j = 0 ∨ j = 1 ∨ j = 2 := by omega
    rcases this with rfl | rfl | rfl
    · refine sg_X8_corner_39 ?_
      rw [if_pos (by decide)]
      refine c_lowest hT.1 ?_
      rw [if_neg l0]; exact hK
    · refine sg_X8_corner_39 ?_
      rw [if_neg (by decide), l5]
      refine sg_X8_corner_39 ?_
      rw [if_pos (by decide)]
      refine c_lowest l1 ?_
      rw [if_neg l2]; exact hK
    · refine sg_X8_corner_39 ?_
      rw [if_neg (by decide), l5]
      refine sg_X8_corner_39 ?_
      rw [if_neg (by decide), l6]
      refine sg_X8_corner_39 ?_
      rw [if_pos (by decide)]
      refine c_lowest l3 ?_
      rw [if_neg l4]; exact hK
  · rw [if_neg h4]; rw [if_neg (fun q => absurd q.2.2.2 h4)] at hK; exact hK
theorem m_corner {d : Nat} {M : Mem} {K : Int32 → Mem → Prop} {F : List Int32} {st : Nat} {S S1 : Sh} {x y : Int32} (hR : CR M F st S S1) (hS : SOk S) (hK : K (aCorner S x y) M) : CI (d + 1) μX9_corner [.ref 58, .int x, .int y] M K := by
  have h12 := hS.2.2.1
  refine sg_X9_corner_0 ?_
  unfold aCorner at hK
  rw [x_12, hR.1.2.1]
  refine r_isIn ?_
  by_cases h1 : 0 ≤ x ∧ x < nI (sc S).length
  · have e : (0 ≤ x ∧ x ≤ nI (sc S).length - 1) := ⟨h1.1, (i_pred (by omega) h1.1).mpr h1.2⟩
    rw [if_neg (bI_ne (decide_eq_true e))]
    refine r_isIn ?_
    by_cases h2 : 0 ≤ y ∧ y ≤ 2
    · rw [if_neg (bI_ne (decide_eq_true h2))]
      rw [if_pos ⟨h1.1, h1.2, h2.1, h2.2⟩] at hK
      obtain ⟨i, hi, rfl⟩ := n_nat h1.1 h1.2 (by omega)
      have e1 : nx (nI i) = i := nI_clamp (by omega)
      have hy : y < nI 3 := by
        have : (2 : Int32) < nI 3 := by decide
        exact Int32.lt_of_le_of_lt h2.2 this
      obtain ⟨j, hj, rfl⟩ := n_nat h2.1 hy (by omega)
      rw [e1, hR.1.1 i hi]
      rw [e1] at hK
      refine ⟨n_in (by omega) (by decide), ?_⟩
      have hT := sc_T3 hS hi
      have : j = 0 ∨ j = 1 ∨ j = 2 := by omega
      rcases this with rfl | rfl | rfl
      · exact r_lord0 hT hK
      · exact r_lord1 hT hK
      · exact r_lord2 hT hK
    · rw [if_pos (bI_eq (decide_eq_false h2))]
      rw [if_neg (fun q => h2 ⟨q.2.2.1, q.2.2.2⟩)] at hK
      exact hK
  · have e : ¬ (0 ≤ x ∧ x ≤ nI (sc S).length - 1) := fun q => h1 ⟨q.1, (i_pred (by omega) q.1).mp q.2⟩
    rw [if_pos (bI_eq (decide_eq_false e))]
    rw [if_neg (fun q => h1 ⟨q.1, q.2.1⟩)] at hK
    exact hK
