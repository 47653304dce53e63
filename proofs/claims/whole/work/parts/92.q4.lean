/-! what lies ahead: will, sides, left, ending -/
def aWill (F : List Int32) (st : Nat) (S : Sh) (x n w : Int32) : Int32 :=
  if tdI S x = true ∧ (0 ≤ n ∧ n ≤ 60) ∧ (0 ≤ w ∧ w ≤ 1) then (if (sb (goS F st (decide (w = 1)) (nx n) S)).testBit (nx x) = true then nI (sz (goS F st (decide (w = 1)) (nx n) S) (nx x)) else -2) else -1
theorem le_nat {n : Int32} {k : Nat} (h0 : 0 ≤ n) (h1 : n ≤ nI k) (hk : k < 2 ^ 30) : ∃ i, i ≤ k ∧ n = nI i := by
  have : n < nI (k + 1) := by
    obtain ⟨j, hj, rfl⟩ := nI_of (i_nlt.mpr h0)
    rw [nI_leI hj (by omega)] at h1
    rw [nI_ltI hj (by omega)]
    omega
  obtain ⟨i, hi, rfl⟩ := n_nat h0 this (by omega)
  exact ⟨i, by omega, rfl⟩
theorem sn_goS (F : List Int32) (st : Nat) (b : Bool) : ∀ (n : Nat) (S : Sh), sn (goS F st b n S) = sn S
  | 0, _ => rfl
  | n + 1, S => by
    show sn (goS F st b n (if b then seaS S F st else sea0 S F)) = sn S
    rw [sn_goS F st b n]
    cases b
    · exact sn_sea0 S F
    · exact sn_seaS S F st
theorem look_tie (F : List Int32) (st : Nat) (b : Bool) (n : Nat) (S : Sh) : ∃ v, seasS F (if b then st else 0) n S = setD (goS F st b n S) v := by
  cases b
  · exact go_tie F st n S S ⟨sd S, rfl⟩
  · exact ⟨sd (goS F st true n S), by rw [show (if true = true then st else 0) = st from rfl, go_straw]; rfl⟩
theorem x_will {d t : Nat} {M : Mem} {K : Int32 → Mem → Prop} {F : List Int32} {st : Nat} {S S1 : Sh} {x n w : Int32} (hX : CX M t F st S S1) (hP : CP F st S S1) (hK : ∀ M', Q M M' → K (aWill F st S x n w) M') : CI (d + 7) μX8_will [.ref 0, .int x, .int n, .int w] M K := by
  have hF := hX.2.2.2.2.2
  have hS := hF.2.2
  refine sg_X8_will_0 (c_isTold (by decide +kernel) hF.1 ?_)
  show if bI (tdI S x) = 0 then _ else _
  have hk := hK M Q.rf
  unfold aWill at hk hK
  cases htd : tdI S x with
  | false => rw [if_pos (by decide)]; rw [if_neg (by rw [htd]; simp)] at hk; exact hk
  | true =>
    rw [if_neg (by decide)]
    by_cases h1 : n < 0
    · rw [if_pos h1]; rw [if_neg (fun q => absurd h1 (i_nlt.mpr q.2.1.1))] at hk; exact hk
    rw [if_neg h1]
    by_cases h2 : 60 < n
    · rw [if_pos h2]; rw [if_neg (fun q => absurd h2 (i_nlt.mpr q.2.1.2))] at hk; exact hk
    rw [if_neg h2]
    by_cases h3 : w < 0
    · rw [if_pos h3]; rw [if_neg (fun q => absurd h3 (i_nlt.mpr q.2.2.1))] at hk; exact hk
    rw [if_neg h3]
    by_cases h4 : w ≤ 1
    · rw [if_pos h4]
      rw [if_pos ⟨htd, ⟨i_nlt.mp h1, i_nlt.mp h2⟩, ⟨i_nlt.mp h3, h4⟩⟩] at hK
      obtain ⟨i, hi, rfl⟩ := tdI_nat hS htd
      obtain ⟨k, hk60, rfl⟩ := le_nat (i_nlt.mp h1) (i_nlt.mp h2) (k := 60) (by decide)
      have h8 := hS.1
      have e1 : nx (nI i) = i := nI_clamp (by omega)
      have e2 : nx (nI k) = k := nI_clamp (by omega)
      rw [e1, e2] at hK
      have go : ∀ b : Bool, decide (w = 1) = b → RI (d + 7) μX8_will 50 [(0, .ref 0), (1, .int (nI i)), (2, .int (nI k)), (3, .int w)] [.int (nI (if b then st else 0)), .int (nI k), .ref 0] M K := by
        intro b hb
        rw [hb] at hK
        refine sg_X8_will_50 ?_
        refine x_lookAhead hX hP.1 (by cases b <;> simp <;> exact hP.2.2.2.2) (by omega) (fun M1 q1 f1 g1 => ?_)
        obtain ⟨v, hv⟩ := look_tie F st b k S
        rw [hv] at f1 g1
        refine c_isThere (by decide +kernel) f1.1 f1.2.2 ?_
        have hk1 := hK M1 q1
        have hsn : i < sn (setD (goS F st b k S) v) := by
          show i < sn (goS F st b k S)
          rw [sn_goS]; exact hi
        rw [thI_nat f1.2.2 hsn]
        show if bI ((sb (goS F st b k S)).testBit i) = 0 then _ else _
        cases ht : (sb (goS F st b k S)).testBit i with
        | false => rw [if_pos (by decide)]; rw [ht, if_neg (by decide)] at hk1; exact hk1
        | true =>
          rw [if_neg (by decide)]
          rw [ht, if_pos rfl] at hk1
          rw [e1, f1.1.2.2.2.2.2.1 i (by omega)]
          exact ⟨n_in (by omega) (by decide), hk1⟩
      by_cases h5 : w = 1
      · rw [if_pos h5]
        refine ⟨t, hX.1, (tell_kd hX.2.1).1, ?_⟩
        rw [hX.2.2.2.1]
        exact go true (decide_eq_true h5)
      · rw [if_neg h5]
        exact go false (decide_eq_false h5)
    · rw [if_neg h4]; rw [if_neg (fun q => absurd q.2.2.2 h4)] at hk; exact hk
theorem m_will {d : Nat} {M : Mem} {K : Int32 → Mem → Prop} {F : List Int32} {st : Nat} {S S1 : Sh} {x n w : Int32} (hR : CR M F st S S1) (hP : CP F st S S1) (hK : ∀ M', Q M M' → K (aWill F st S x n w) M') : CI (d + 7) μX9_will [.ref 58, .int x, .int n, .int w] M K := by
  have hS := hP.1.1
  refine sg_X9_will_0 (r_isLord hS hR.2.2.2.1 ?_)
  have hk := hK M Q.rf
  unfold aWill at hk hK
  cases htd : tdI S x with
  | false => rw [if_pos (by decide)]; rw [if_neg (by rw [htd]; simp)] at hk; exact hk
  | true =>
    rw [if_neg (by decide)]
    refine r_isIn ?_
    by_cases h1 : 0 ≤ n ∧ n ≤ 60
    · rw [if_neg (bI_ne (decide_eq_true h1))]
      refine r_isIn ?_
      by_cases h2 : 0 ≤ w ∧ w ≤ 1
      · rw [if_neg (bI_ne (decide_eq_true h2))]
        rw [if_pos ⟨htd, h1, h2⟩] at hK
        refine r_fillS hR hS (fun M1 q1 a1 c1 => ?_)
        obtain ⟨i, hi, rfl⟩ := tdI_nat hS htd
        obtain ⟨k, hk60, rfl⟩ := le_nat h1.1 h1.2 (k := 60) (by decide)
        have h8 := hS.1
        have e1 : nx (nI i) = i := nI_clamp (by omega)
        have e2 : nx (nI k) = k := nI_clamp (by omega)
        rw [e1, e2] at hK
        have go : ∀ b : Bool, decide (w = 1) = b → RI (d + 7) μX9_will 45 [(0, .ref 58), (1, .int (nI i)), (2, .int (nI k)), (3, .int w)] [.int (bI b), .int (nI k), .ref 58] M1 K := by
          intro b hb
          rw [hb] at hK
          refine sg_X9_will_45 ?_
          refine r_go GS_Clo GS_2 hP.2.2.2.2 (by omega) b hP.1 hP.2.2.2.1 a1 c1.2.2.1 c1.2.2.2.1 c1.2.2.2.2 (fun M2 s2 a2 g2 => ?_)
          have hk1 := hK M2 (q1.trans s2.q)
          refine r_isThere (by omega) g2.1.2.1 a2 ?_
          cases ht : (sb (goS F st b k S)).testBit i with
          | false => rw [if_pos (by decide)]; rw [ht, if_neg (by decide)] at hk1; exact hk1
          | true =>
            rw [if_neg (by decide)]
            rw [ht, if_pos rfl] at hk1
            have := n_in14 (show i < 8 by omega)
            rw [this.2, a2.2.2.2.1 i (by omega)]
            exact ⟨this.1, hk1⟩
        by_cases h5 : w = 1
        · rw [if_pos h5]; exact go true (decide_eq_true h5)
        · rw [if_neg h5]; exact go false (decide_eq_false h5)
      · rw [if_pos (bI_eq (decide_eq_false h2))]
        rw [if_neg (fun q => h2 q.2.2)] at hk
        exact hk
    · rw [if_pos (bI_eq (decide_eq_false h1))]
      rw [if_neg (fun q => h1 q.2.1)] at hk
      exact hk
def aSides (F : List Int32) (st : Nat) (S : Sh) (x n : Int32) : Int32 :=
  if tdI S x = true ∧ (0 ≤ n ∧ n ≤ 60) then nI (dgm (sc (goS F st false (nx n) S)) (nx x)) else -1
theorem look0 {d t : Nat} {M : Mem} {K : Mem → Prop} {F : List Int32} {st n : Nat} {S S1 : Sh} (hX : CX M t F st S S1) (hG : GS S) (hn : n < 1000) (hK : ∀ M' v, Q M M' → Fr M' 33 (setD (goS F st false n S) v) → K M') : CV (d + 6) μX8_lookAhead [.ref 0, .int (nI n), .int 0] M K := by
  refine x_lookAhead (s := 0) hX hG (by omega) hn (fun M1 q1 f1 _ => ?_)
  obtain ⟨v, hv⟩ := look_tie F st false n S
  rw [show (if false = true then st else 0) = 0 from rfl] at hv
  rw [hv] at f1
  exact hK M1 v q1 f1
theorem x_sides {d t : Nat} {M : Mem} {K : Int32 → Mem → Prop} {F : List Int32} {st : Nat} {S S1 : Sh} {x n : Int32} (hX : CX M t F st S S1) (hP : CP F st S S1) (hK : ∀ M', Q M M' → K (aSides F st S x n) M') : CI (d + 7) μX8_sides [.ref 0, .int x, .int n] M K := by
  have hF := hX.2.2.2.2.2
  have hS := hF.2.2
  refine sg_X8_sides_0 (c_isTold (by decide +kernel) hF.1 ?_)
  show if bI (tdI S x) = 0 then _ else _
  have hk := hK M Q.rf
  unfold aSides at hk hK
  cases htd : tdI S x with
  | false => rw [if_pos (by decide)]; rw [if_neg (by rw [htd]; simp)] at hk; exact hk
  | true =>
    rw [if_neg (by decide)]
    by_cases h1 : n < 0
    · rw [if_pos h1]; rw [if_neg (fun q => absurd h1 (i_nlt.mpr q.2.1))] at hk; exact hk
    rw [if_neg h1]
    by_cases h2 : n ≤ 60
    · rw [if_pos h2]
      rw [if_pos ⟨htd, i_nlt.mp h1, h2⟩] at hK
      obtain ⟨i, hi, rfl⟩ := tdI_nat hS htd
      obtain ⟨k, hk60, rfl⟩ := le_nat (i_nlt.mp h1) h2 (k := 60) (by decide)
      have h8 := hS.1
      have e1 : nx (nI i) = i := nI_clamp (by omega)
      have e2 : nx (nI k) = k := nI_clamp (by omega)
      rw [e1, e2] at hK
      refine look0 hX hP.1 (by omega) (fun M1 v q1 f1 => ?_)
      rw [e1, f1.2.1.2 i (by omega)]
      exact ⟨n_in (by omega) (by decide), hK M1 q1⟩
    · rw [if_neg h2]; rw [if_neg (fun q => absurd q.2.2 h2)] at hk; exact hk
theorem go0 {d : Nat} {M : Mem} {K : Mem → Prop} {F : List Int32} {st n : Nat} {S0 S S1 : Sh} (hR : CR M F st S0 S1) (h0 : sn S0 = sn S) (hG : GS S) (hW : WfF F) (hst : st ≤ 100) (hn : n < 1000) (hA : Ar M 69 S) (hK : ∀ M', Q M M' → Ar M' 69 (goS F st false n S) → GS (goS F st false n S) → K M') : CV (d + 6) μX9_go [.ref 58, .int (nI n), .int 0] M K :=
  r_go GS_Clo GS_2 hst hn false hG hW hA hR.2.2.1 (by rw [← h0]; exact hR.2.2.2.1) hR.2.2.2.2 (fun M2 s2 a2 g2 => hK M2 s2.q a2 g2)
theorem m_sides {d : Nat} {M : Mem} {K : Int32 → Mem → Prop} {F : List Int32} {st : Nat} {S S1 : Sh} {x n : Int32} (hR : CR M F st S S1) (hP : CP F st S S1) (hK : ∀ M', Q M M' → K (aSides F st S x n) M') : CI (d + 7) μX9_sides [.ref 58, .int x, .int n] M K := by
  have hS := hP.1.1
  refine sg_X9_sides_0 (r_isLord hS hR.2.2.2.1 ?_)
  have hk := hK M Q.rf
  unfold aSides at hk hK
  cases htd : tdI S x with
  | false => rw [if_pos (by decide)]; rw [if_neg (by rw [htd]; simp)] at hk; exact hk
  | true =>
    rw [if_neg (by decide)]
    refine r_isIn ?_
    by_cases h1 : 0 ≤ n ∧ n ≤ 60
    · rw [if_neg (bI_ne (decide_eq_true h1))]
      rw [if_pos ⟨htd, h1⟩] at hK
      refine r_fillS hR hS (fun M1 q1 a1 c1 => ?_)
      obtain ⟨i, hi, rfl⟩ := tdI_nat hS htd
      obtain ⟨k, hk60, rfl⟩ := le_nat h1.1 h1.2 (k := 60) (by decide)
      have h8 := hS.1
      have e1 : nx (nI i) = i := nI_clamp (by omega)
      have e2 : nx (nI k) = k := nI_clamp (by omega)
      rw [e1, e2] at hK
      refine go0 c1 rfl hP.1 hP.2.2.2.1 hP.2.2.2.2 (by omega) a1 (fun M2 q2 a2 g2 => ?_)
      exact r_sidesOf (by omega) g2.1 a2 (hK M2 (q1.trans q2))
    · rw [if_pos (bI_eq (decide_eq_false h1))]
      rw [if_neg (fun q => h1 q.2)] at hk
      exact hk
def aLeft (F : List Int32) (st : Nat) (S : Sh) (n : Int32) : Int32 :=
  if 0 ≤ n ∧ n ≤ 60 then nI (sb (goS F st false (nx n) S)) else -1
theorem x_left {d t : Nat} {M : Mem} {K : Int32 → Mem → Prop} {F : List Int32} {st : Nat} {S S1 : Sh} {n : Int32} (hX : CX M t F st S S1) (hP : CP F st S S1) (hK : ∀ M', Q M M' → K (aLeft F st S n) M') : CI (d + 7) μX8_left [.ref 0, .int n] M K := by
  refine sg_X8_left_0 ?_
  have hk := hK M Q.rf
  unfold aLeft at hk hK
  by_cases h1 : n < 0
  · rw [if_pos h1]; rw [if_neg (fun q => absurd h1 (i_nlt.mpr q.1))] at hk; exact hk
  rw [if_neg h1]
  by_cases h2 : n ≤ 60
  · rw [if_pos h2]
    rw [if_pos ⟨i_nlt.mp h1, h2⟩] at hK
    obtain ⟨k, hk60, rfl⟩ := le_nat (i_nlt.mp h1) h2 (k := 60) (by decide)
    have e2 : nx (nI k) = k := nI_clamp (by omega)
    rw [e2] at hK
    refine look0 hX hP.1 (by omega) (fun M1 v q1 f1 => ?_)
    rw [f1.1.2.1]
    exact hK M1 q1
  · rw [if_neg h2]; rw [if_neg (fun q => absurd q.2 h2)] at hk; exact hk
theorem m_left {d : Nat} {M : Mem} {K : Int32 → Mem → Prop} {F : List Int32} {st : Nat} {S S1 : Sh} {n : Int32} (hR : CR M F st S S1) (hP : CP F st S S1) (hK : ∀ M', Q M M' → K (aLeft F st S n) M') : CI (d + 7) μX9_left [.ref 58, .int n] M K := by
  have hS := hP.1.1
  refine sg_X9_left_0 (r_isIn ?_)
  have hk := hK M Q.rf
  unfold aLeft at hk hK
  by_cases h1 : 0 ≤ n ∧ n ≤ 60
  · rw [if_neg (bI_ne (decide_eq_true h1))]
    rw [if_pos h1] at hK
    refine r_fillS hR hS (fun M1 q1 a1 c1 => ?_)
    obtain ⟨k, hk60, rfl⟩ := le_nat h1.1 h1.2 (k := 60) (by decide)
    have e2 : nx (nI k) = k := nI_clamp (by omega)
    rw [e2] at hK
    refine go0 c1 rfl hP.1 hP.2.2.2.1 hP.2.2.2.2 (by omega) a1 (fun M2 q2 a2 g2 => ?_)
    rw [x_13, a2.2.2.1]
    exact hK M2 (q1.trans q2)
  · rw [if_pos (bI_eq (decide_eq_false h1))]
    rw [if_neg h1] at hk
    exact hk
/-- the first season from k on in which p is not there -/
def enF (F : List Int32) (p : Nat) : Nat → Nat → Sh → Int32
  | 0, _, _ => -1
  | r + 1, k, S => if (sb S).testBit p = true then enF F p r (k + 1) (sea0 S F) else nI k
def aEnding (F : List Int32) (S : Sh) (x : Int32) : Int32 := if tdI S x = true then enF F (nx x) 61 0 S else -1
theorem x_ending {d t : Nat} {M : Mem} {K : Int32 → Mem → Prop} {F : List Int32} {st : Nat} {S S1 : Sh} {x : Int32} (hX : CX M t F st S S1) (hP : CP F st S S1) (hK : ∀ M', Q M M' → K (aEnding F S x) M') : CI (d + 5) μX8_ending [.ref 0, .int x] M K := by
  have hF := hX.2.2.2.2.2
  have hS := hF.2.2
  refine sg_X8_ending_0 (c_isTold (by decide +kernel) hF.1 ?_)
  show if bI (tdI S x) = 0 then _ else _
  have hk := hK M Q.rf
  unfold aEnding at hk hK
  cases htd : tdI S x with
  | false => rw [if_pos (by decide)]; rw [if_neg (by rw [htd]; simp)] at hk; exact hk
  | true =>
    rw [if_neg (by decide)]
    rw [if_pos htd] at hK
    obtain ⟨i, hi, rfl⟩ := tdI_nat hS htd
    have h8 := hS.1
    have e1 : nx (nI i) = i := nI_clamp (by omega)
    rw [e1] at hK
    refine c_copyFrom (by decide +kernel) (by decide +kernel) (by decide) hF (fun M1 s1 f1 => ?_)
    have loop : ∀ (r k : Nat) (T T' : Sh) (M1 : Mem), r + k = 61 → Q M M1 → (∃ v, T' = setD T v) → i < sn T → Fr M1 33 T' → GS T' → (∀ M', Q M M' → K (enF F i r k T) M') → RI (d + 5) μX8_ending 26 [(0, .ref 0), (1, .int (nI i)), (2, .int (nI k))] [] M1 K := by
      intro r
      induction r with
      | zero =>
        intro k T T' M1 hk q1 _ _ _ _ hK1
        refine sg_X8_ending_26 ?_
        rw [if_pos (by rw [show (60 : Int32) = nI 60 from rfl, nI_ltI (by omega) (by omega)]; omega)]
        exact hK1 M1 q1
      | succ r ih =>
        intro k T T' M1 hk q1 hv hiT f1 g1 hK1
        obtain ⟨v, rfl⟩ := hv
        refine sg_X8_ending_26 ?_
        rw [if_neg (by rw [show (60 : Int32) = nI 60 from rfl, nI_ltI (by omega) (by omega)]; omega), nI_1]
        refine c_isThere (by decide +kernel) f1.1 f1.2.2 ?_
        rw [thI_nat f1.2.2 (show i < sn (setD T v) from hiT)]
        show if bI ((sb T).testBit i) = 0 then _ else _
        unfold enF at hK1
        cases ht : (sb T).testBit i with
        | false =>
          rw [if_pos (by decide)]
          rw [ht, if_neg (by decide)] at hK1
          exact hK1 M1 q1
        | true =>
          rw [if_neg (by decide)]
          rw [ht, if_pos rfl] at hK1
          have hX1 := hX.keep q1
          refine ⟨t, hX1.1, (tell_kd hX.2.1).1, ?_⟩
          refine c_passSeason (straw := 0) (by decide +kernel) (tell_kd hX.2.1).2.1 GS_Clo (by omega) f1 g1 hX1.2.2.1 (fun M2 s2 f2 g2 _ => ?_)
          obtain ⟨w, hw⟩ := sea_0 (setD T v) F
          rw [sea0_D] at hw
          exact ih (k + 1) (sea0 T F) _ M2 (by omega) (q1.trans (s2.q hX.2.1)) ⟨w, hw⟩ (by rw [sn_sea0]; exact hiT) f2 g2 hK1
    exact loop 61 0 S S M1 rfl s1.q ⟨sd S, rfl⟩ hi f1 hP.1 hK
theorem m_ending {d : Nat} {M : Mem} {K : Int32 → Mem → Prop} {F : List Int32} {st : Nat} {S S1 : Sh} {x : Int32} (hR : CR M F st S S1) (hP : CP F st S S1) (hK : ∀ M', Q M M' → K (aEnding F S x) M') : CI (d + 6) μX9_ending [.ref 58, .int x] M K := by
  have hS := hP.1.1
  refine sg_X9_ending_0 (r_isLord hS hR.2.2.2.1 ?_)
  have hk := hK M Q.rf
  unfold aEnding at hk hK
  cases htd : tdI S x with
  | false => rw [if_pos (by decide)]; rw [if_neg (by rw [htd]; simp)] at hk; exact hk
  | true =>
    rw [if_neg (by decide)]
    rw [if_pos htd] at hK
    obtain ⟨i, hi, rfl⟩ := tdI_nat hS htd
    have h8 := hS.1
    have e1 : nx (nI i) = i := nI_clamp (by omega)
    rw [e1] at hK
    refine r_fillS hR hS (fun M1 q1 a1 c1 => ?_)
    have loop : ∀ (r k : Nat) (T : Sh) (M1 : Mem), r + k = 61 → Q M M1 → sn T = sn S → Ar M1 69 T → GS T → (∀ M', Q M M' → K (enF F i r k T) M') → RI (d + 6) μX9_ending 16 [(0, .ref 58), (1, .int (nI i)), (2, .int (nI k))] [] M1 K := by
      intro r
      induction r with
      | zero =>
        intro k T M1 hk q1 _ _ _ hK1
        refine sg_X9_ending_16 ?_
        rw [if_pos (by rw [show (60 : Int32) = nI 60 from rfl, nI_ltI (by omega) (by omega)]; omega)]
        exact hK1 M1 q1
      | succ r ih =>
        intro k T M1 hk q1 hn a1 g1 hK1
        refine sg_X9_ending_16 ?_
        rw [if_neg (by rw [show (60 : Int32) = nI 60 from rfl, nI_ltI (by omega) (by omega)]; omega), nI_1]
        refine r_isThere (by omega) g1.1.2.1 a1 ?_
        unfold enF at hK1
        cases ht : (sb T).testBit i with
        | false =>
          rw [if_pos (by decide)]
          rw [ht, if_neg (by decide)] at hK1
          exact hK1 M1 q1
        | true =>
          rw [if_neg (by decide)]
          rw [ht, if_pos rfl] at hK1
          have c1 := hR.keep q1
          refine r_goSeason GS_Clo GS_2 hP.2.2.2.2 false g1 hP.2.2.2.1 a1 c1.2.2.1 (by rw [hn]; exact c1.2.2.2.1) c1.2.2.2.2 (fun M2 s2 a2 g2 => ?_)
          exact ih (k + 1) (sea0 T F) M2 (by omega) (q1.trans s2.q) ((sn_sea0 T F).trans hn) a2 g2 hK1
    exact loop 61 0 S M1 rfl q1 rfl a1 hP.1 hK
