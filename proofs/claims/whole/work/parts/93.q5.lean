/-! save, boost -/
theorem nI_inj {a b : Nat} (ha : a < 2 ^ 31) (hb : b < 2 ^ 31) (h : nI a = nI b) : a = b := (nI_eq ha hb).mp h
def svI (P : Nat → Nat → Bool) (n a : Nat) : Nat → Option Nat
  | 0 => none
  | r + 1 => if P a (n - (r + 1)) = true then some (8 * a + (n - (r + 1))) else svI P n a r
def svO (P : Nat → Nat → Bool) (n : Nat) : Nat → Option Nat
  | 0 => none
  | r + 1 => match svI P n (n - (r + 1)) n with
    | some v => some v
    | none => svO P n r
theorem svI_at {P : Nat → Nat → Bool} {n a r b : Nat} (e : r + 1 + b = n) : svI P n a (r + 1) = if P a b = true then some (8 * a + b) else svI P n a r := by
  show (if P a (n - (r + 1)) = true then some (8 * a + (n - (r + 1))) else svI P n a r) = _
  rw [show n - (r + 1) = b by omega]
theorem svO_at {P : Nat → Nat → Bool} {n r a : Nat} (e : r + 1 + a = n) : svO P n (r + 1) = match svI P n a n with
    | some v => some v
    | none => svO P n r := by
  show (match svI P n (n - (r + 1)) n with
    | some v => some v
    | none => svO P n r) = _
  rw [show n - (r + 1) = a by omega]
def svP (F : List Int32) (st : Nat) (S : Sh) (l n a b : Nat) : Bool := decide (b ≠ l) && cmI S (nI a) (nI b) && (sb (goS F st false n (mgS S a b))).testBit l
def aSave (F : List Int32) (st : Nat) (S : Sh) (x n : Int32) : Int32 := if thI S x = true ∧ 0 ≤ n ∧ n ≤ 30 then oI (svO (svP F st S (nx x) (nx n)) (sn S) (sn S)) else -1
theorem nI_88 (a b : Nat) : nI a * 8 + nI b = nI (8 * a + b) := by
  rw [show (8 : Int32) = nI 8 from rfl, n_mul, nI_add, Nat.mul_comm]
theorem nI_8 (a b : Nat) : 8 * nI a + nI b = nI (8 * a + b) := by
  rw [show (8 : Int32) = nI 8 from rfl, n_mul, nI_add]
theorem bI_01 (b : Bool) : bI b = 0 ∨ bI b = 1 := by cases b <;> decide
theorem x_isSavedBy {d t : Nat} {M : Mem} {K : Int32 → Mem → Prop} {F : List Int32} {st : Nat} {S S1 : Sh} {l n a b : Nat} (hX : CX M t F st S S1) (hG : GS S) (hl : l < sn S) (ha : a < sn S) (hb : b < sn S) (hn : n < 1000) (hcm : cmI S (nI a) (nI b) = true) (hK : ∀ M', Q M M' → K (bI ((sb (goS F st false n (mgS S a b))).testBit l)) M') : CI (d + 6) μX8_isSavedBy [.ref 0, .int (nI l), .int (nI n), .int (nI a), .int (nI b)] M K := by
  have hF := hX.2.2.2.2.2
  have hS := hF.2.2
  have h8 := hS.1
  refine sg_X8_isSavedBy_0 ?_
  refine c_copyFrom (by decide +kernel) (by decide +kernel) (by decide) hF (fun M1 s1 f1 => ?_)
  refine c_merge (by decide +kernel) f1 (fun h => by rw [hcm] at h; cases h) (fun i j M2 e1 e2 hi hj _ s2 f2 => ?_)
  have e1 := nI_inj (by omega) (by omega) e1
  have e2 := nI_inj (by omega) (by omega) e2
  subst e1 e2
  have hX2 := hX.keep (s1.q.trans s2.q)
  refine ⟨t, hX2.1, (tell_kd hX.2.1).1, ?_⟩
  refine c_passSeasons (straw := 0) (by decide +kernel) (tell_kd hX.2.1).2.1 GS_Clo (by omega) hn f2 (GS_pop hG ha hb hcm) hX2.2.2.1 (fun M3 s3 f3 g3 _ => ?_)
  obtain ⟨v, hv⟩ := go_tie F st n (mgS S a b) (mgS S a b) ⟨sd S, rfl⟩
  rw [hv] at f3
  refine c_isThere (by decide +kernel) f3.1 f3.2.2 ?_
  have hsn : l < sn (setD (goS F st false n (mgS S a b)) v) := by
    show l < sn (goS F st false n (mgS S a b))
    rw [sn_goS]; exact hl
  rw [thI_nat f3.2.2 hsn]
  have hk := hK M3 ((s1.q.trans s2.q).trans (s3.q hX.2.1))
  exact ⟨bI_01 _, hk⟩
theorem x_save {d t : Nat} {M : Mem} {K : Int32 → Mem → Prop} {F : List Int32} {st : Nat} {S S1 : Sh} {x n : Int32} (hX : CX M t F st S S1) (hP : CP F st S S1) (hK : ∀ M', Q M M' → K (aSave F st S x n) M') : CI (d + 7) μX8_save [.ref 0, .int x, .int n] M K := by
  have hF := hX.2.2.2.2.2
  have hS := hF.2.2
  have h8 := hS.1
  refine sg_X8_save_0 (c_isThere (by decide +kernel) hF.1 hS ?_)
  have hk := hK M Q.rf
  unfold aSave at hk hK
  cases hth : thI S x with
  | false => rw [if_pos (by decide)]; rw [if_neg (by rw [hth]; simp)] at hk; exact hk
  | true =>
    rw [if_neg (by decide)]
    by_cases h1 : n < 0
    · rw [if_pos h1]; rw [if_neg (fun q => absurd h1 (i_nlt.mpr q.2.1))] at hk; exact hk
    rw [if_neg h1]
    by_cases h2 : n ≤ 30
    · rw [if_pos h2]
      rw [if_pos ⟨hth, i_nlt.mp h1, h2⟩] at hK
      obtain ⟨l, hl, rfl, -⟩ := thI_is hS hth
      obtain ⟨k, hk30, rfl⟩ := le_nat (i_nlt.mp h1) h2 (k := 30) (by decide)
      have e1 : nx (nI l) = l := nI_clamp (by omega)
      have e2 : nx (nI k) = k := nI_clamp (by omega)
      rw [e1, e2] at hK
      have inner : ∀ (a : Nat), a < sn S → ∀ (r b : Nat) (M1 : Mem), r + b = sn S → Q M M1 → (∀ v, svI (svP F st S l k) (sn S) a r = some v → ∀ M', Q M M' → K (nI v) M') → (svI (svP F st S l k) (sn S) a r = none → ∀ M', Q M M' → RI (d + 7) μX8_save 25 [(0, .ref 0), (1, .int (nI l)), (2, .int (nI k)), (3, .int (nI (a + 1)))] [] M' K) → RI (d + 7) μX8_save 39 [(0, .ref 0), (1, .int (nI l)), (2, .int (nI k)), (3, .int (nI a)), (4, .int (nI b))] [] M1 K := by
        intro a ha r
        induction r with
        | zero =>
          intro b M1 hb q1 _ hk2
          refine sg_X8_save_39 ?_
          rw [(hX.keep q1).2.2.2.2.2.1.1, if_pos (by rw [nI_leI (by omega) (by omega)]; omega), nI_1]
          exact hk2 rfl M1 q1
        | succ r ih =>
          intro b M1 hb q1 hk1 hk2
          have hX1 := hX.keep q1
          rw [svI_at (show r + 1 + b = sn S by omega)] at hk1 hk2
          refine sg_X8_save_39 ?_
          rw [hX1.2.2.2.2.2.1.1, if_neg (by rw [nI_leI (by omega) (by omega)]; omega), nI_1]
          have skip : ∀ M', Q M M' → svP F st S l k a b = false → RI (d + 7) μX8_save 39 [(0, .ref 0), (1, .int (nI l)), (2, .int (nI k)), (3, .int (nI a)), (4, .int (nI (b + 1)))] [] M' K := by
            intro M' q' hf
            rw [if_neg (by rw [hf]; decide)] at hk1 hk2
            exact ih (b + 1) M' (by omega) q' hk1 hk2
          by_cases hbl : b = l
          · rw [if_pos (by rw [hbl])]
            exact skip M1 q1 (by unfold svP; rw [decide_eq_false (fun q => q hbl)]; rfl)
          · rw [if_neg (fun q => hbl (nI_inj (by omega) (by omega) q))]
            refine c_canMerge (by decide +kernel) hX1.2.2.2.2.2 ?_
            cases hcm : cmI S (nI a) (nI b) with
            | false => rw [if_pos (by decide)]; exact skip M1 q1 (by unfold svP; rw [hcm, Bool.and_false, Bool.false_and])
            | true =>
              rw [if_neg (by decide)]
              refine x_isSavedBy hX1 hP.1 hl ha (by omega) (by omega) hcm (fun M2 q2 => ?_)
              have eP : svP F st S l k a b = (sb (goS F st false k (mgS S a b))).testBit l := by unfold svP; rw [hcm, decide_eq_true (show b ≠ l from hbl), Bool.and_self, Bool.true_and]
              cases hs : (sb (goS F st false k (mgS S a b))).testBit l with
              | false => rw [if_pos (by decide)]; exact skip M2 (q1.trans q2) (by rw [eP, hs])
              | true =>
                rw [if_neg (by decide), nI_88]
                rw [if_pos (by rw [eP, hs])] at hk1
                exact hk1 _ rfl M2 (q1.trans q2)
      have outer : ∀ (r a : Nat) (M1 : Mem), r + a = sn S → Q M M1 → (∀ M', Q M M' → K (oI (svO (svP F st S l k) (sn S) r)) M') → RI (d + 7) μX8_save 25 [(0, .ref 0), (1, .int (nI l)), (2, .int (nI k)), (3, .int (nI a))] [] M1 K := by
        intro r
        induction r with
        | zero =>
          intro a M1 ha q1 hk1
          refine sg_X8_save_25 ?_
          rw [(hX.keep q1).2.2.2.2.2.1.1, if_pos (by rw [nI_leI (by omega) (by omega)]; omega)]
          exact hk1 M1 q1
        | succ r ih =>
          intro a M1 ha q1 hk1
          rw [svO_at (show r + 1 + a = sn S by omega)] at hk1
          refine sg_X8_save_25 ?_
          rw [(hX.keep q1).2.2.2.2.2.1.1, if_neg (by rw [nI_leI (by omega) (by omega)]; omega)]
          refine inner a (by omega) (sn S) 0 M1 (by omega) q1 (fun v hv M' q' => ?_) (fun hv M' q' => ?_)
          · rw [hv] at hk1; exact hk1 M' q'
          · rw [hv] at hk1; exact ih (a + 1) M' (by omega) q' hk1
      exact outer (sn S) 0 M (by omega) Q.rf hK
    · rw [if_neg h2]; rw [if_neg (fun q => absurd q.2.2 h2)] at hk; exact hk
theorem m_save {d : Nat} {M : Mem} {K : Int32 → Mem → Prop} {F : List Int32} {st : Nat} {S S1 : Sh} {x n : Int32} (hR : CR M F st S S1) (hP : CP F st S S1) (hK : ∀ M', Q M M' → K (aSave F st S x n) M') : CI (d + 7) μX9_save [.ref 58, .int x, .int n] M K := by
  have hS := hP.1.1
  have h8 := hS.1
  refine sg_X9_save_0 (r_isThereNow hR hS (fun M1 q1 a1 c1 => ?_))
  have hk := hK M1 q1
  unfold aSave at hk hK
  cases hth : thI S x with
  | false => rw [if_pos (by decide)]; rw [if_neg (by rw [hth]; simp)] at hk; exact hk
  | true =>
    rw [if_neg (by decide)]
    refine r_isIn ?_
    by_cases h1 : 0 ≤ n ∧ n ≤ 30
    · rw [if_neg (bI_ne (decide_eq_true h1))]
      rw [if_pos ⟨hth, h1⟩] at hK
      obtain ⟨l, hl, rfl, -⟩ := thI_is hS hth
      obtain ⟨k, hk30, rfl⟩ := le_nat h1.1 h1.2 (k := 30) (by decide)
      have e1 : nx (nI l) = l := nI_clamp (by omega)
      have e2 : nx (nI k) = k := nI_clamp (by omega)
      rw [e1, e2] at hK
      have inner : ∀ (a : Nat), a < sn S → ∀ (r b : Nat) (M1 : Mem), r + b = sn S → Q M M1 → (∀ v, svI (svP F st S l k) (sn S) a r = some v → ∀ M', Q M M' → K (nI v) M') → (svI (svP F st S l k) (sn S) a r = none → ∀ M', Q M M' → RI (d + 7) μX9_save 22 [(0, .ref 58), (1, .int (nI l)), (2, .int (nI k)), (3, .int (nI (a + 1)))] [] M' K) → RI (d + 7) μX9_save 33 [(0, .ref 58), (1, .int (nI l)), (2, .int (nI k)), (3, .int (nI a)), (4, .int (nI b))] [] M1 K := by
        intro a ha r
        induction r with
        | zero =>
          intro b M1 hb q1 _ hk2
          refine sg_X9_save_33 ?_
          rw [(hR.keep q1).2.2.2.1, if_pos (by rw [nI_leI (by omega) (by omega)]; omega), nI_1]
          exact hk2 rfl M1 q1
        | succ r ih =>
          intro b M1 hb q1 hk1 hk2
          rw [svI_at (show r + 1 + b = sn S by omega)] at hk1 hk2
          refine sg_X9_save_33 ?_
          rw [(hR.keep q1).2.2.2.1, if_neg (by rw [nI_leI (by omega) (by omega)]; omega), nI_1]
          have skip : ∀ M', Q M M' → svP F st S l k a b = false → RI (d + 7) μX9_save 33 [(0, .ref 58), (1, .int (nI l)), (2, .int (nI k)), (3, .int (nI a)), (4, .int (nI (b + 1)))] [] M' K := by
            intro M' q' hf
            rw [if_neg (by rw [hf]; decide)] at hk1 hk2
            exact ih (b + 1) M' (by omega) q' hk1 hk2
          refine r_fillS (hR.keep q1) hS (fun M2 q2 a2 c2 => ?_)
          by_cases hbl : b = l
          · rw [if_pos (by rw [hbl])]
            exact skip M2 (q1.trans q2) (by unfold svP; rw [decide_eq_false (fun q => q hbl)]; rfl)
          · rw [if_neg (fun q => hbl (nI_inj (by omega) (by omega) q))]
            refine r_canPop ha (by omega) hS a2 ?_
            cases hcm : cmI S (nI a) (nI b) with
            | false => rw [if_pos (by decide)]; exact skip M2 (q1.trans q2) (by unfold svP; rw [hcm, Bool.and_false, Bool.false_and])
            | true =>
              rw [if_neg (by decide)]
              have hm := hcm
              rw [cmI_nat hS ha (by omega), Bool.and_eq_true, Bool.and_eq_true] at hm
              have hab : a ≠ b := by
                intro q
                have hm2 := hm.1.1
                rw [q, nbm_self] at hm2
                cases hm2
              refine r_doPop ha (by omega) hab hS hP.1.2.1 hP.1.2.2.1 hm.1.1 a2 (fun M3 s3 a3 => ?_)
              refine go0 (S := mgS S a b) (c2.keep s3.q) rfl (GS_pop hP.1 ha (by omega) hcm) hP.2.2.2.1 hP.2.2.2.2 (by omega) a3 (fun M4 q4 a4 g4 => ?_)
              have qq := ((q1.trans q2).trans s3.q).trans q4
              refine r_isThere (by omega) g4.1.2.1 a4 ?_
              have eP : svP F st S l k a b = (sb (goS F st false k (mgS S a b))).testBit l := by unfold svP; rw [hcm, decide_eq_true (show b ≠ l from hbl), Bool.and_self, Bool.true_and]
              cases hs : (sb (goS F st false k (mgS S a b))).testBit l with
              | false => rw [if_pos (by decide)]; exact skip M4 qq (by rw [eP, hs])
              | true =>
                rw [if_neg (by decide), nI_8]
                rw [if_pos (by rw [eP, hs])] at hk1
                exact hk1 _ rfl M4 qq
      have outer : ∀ (r a : Nat) (M1 : Mem), r + a = sn S → Q M M1 → (∀ M', Q M M' → K (oI (svO (svP F st S l k) (sn S) r)) M') → RI (d + 7) μX9_save 22 [(0, .ref 58), (1, .int (nI l)), (2, .int (nI k)), (3, .int (nI a))] [] M1 K := by
        intro r
        induction r with
        | zero =>
          intro a M1 ha q1 hk1
          refine sg_X9_save_22 ?_
          rw [(hR.keep q1).2.2.2.1, if_pos (by rw [nI_leI (by omega) (by omega)]; omega)]
          exact hk1 M1 q1
        | succ r ih =>
          intro a M1 ha q1 hk1
          rw [svO_at (show r + 1 + a = sn S by omega)] at hk1
          refine sg_X9_save_22 ?_
          rw [(hR.keep q1).2.2.2.1, if_neg (by rw [nI_leI (by omega) (by omega)]; omega)]
          refine inner a (by omega) (sn S) 0 M1 (by omega) q1 (fun v hv M' q' => ?_) (fun hv M' q' => ?_)
          · rw [hv] at hk1; exact hk1 M' q'
          · rw [hv] at hk1; exact ih (a + 1) M' (by omega) q' hk1
      exact outer (sn S) 0 M1 (by omega) q1 hK
    · rw [if_pos (bI_eq (decide_eq_false h1))]
      rw [if_neg (fun q => h1 q.2)] at hk
      exact hk
