/-! puzzles: far, hermits, cut, both sides -/
theorem n_bit0 {s p : Nat} (hs : s < 256) (hp : p < 31) : ((nI s >>> (nI p &&& 31)) &&& 1 = 1) ↔ s.testBit p = true := by
  rw [n_bit (by omega) hp]
  cases s.testBit p
  · simp
  · simp
theorem n_bitz {s p : Nat} (hs : s < 256) (hp : p < 31) : ((nI s >>> (nI p &&& 31)) &&& 1 = 0) ↔ s.testBit p = false := by
  rw [n_bit (by omega) hp]
  cases s.testBit p
  · simp
  · simp
theorem n_z {s : Nat} (hs : s < 2 ^ 31) : nI s = 0 ↔ s = 0 := by rw [show (0 : Int32) = nI 0 from rfl, nI_eq hs (by omega)]
theorem c_nbOf {d o : Nat} {M : Mem} {K : Int32 → Mem → Prop} {S : Sh} {s : Nat} (ho : kd o = (0, 2)) (hF : Fr M o S) (hs : s < 256) (hK : K (nI (nbO S s (sn S))) M) : CI d μX5_neighboursOf [.ref o, .int (nI s)] M K := by
  have hS := hF.2.2
  have h8 := hS.1
  refine sg_X5_neighboursOf_0 ho ?_
  have loop : ∀ (r p : Nat), r + p = sn S → RI d μX5_neighboursOf 4 [(0, .ref o), (1, .int (nI s)), (2, .int (nI (nbO S s p))), (3, .int (nI p))] [] M K := by
    intro r
    induction r with
    | zero =>
      intro p hp
      have hp : p = sn S := by omega
      subst hp
      refine sg_X5_neighboursOf_4 ho ?_
      rw [hF.1.1, if_pos (by rw [nI_leI (by omega) (by omega)]; omega)]
      exact hK
    | succ r ih =>
      intro p hp
      have h := ih (p + 1) (by omega)
      refine sg_X5_neighboursOf_4 ho ?_
      rw [hF.1.1, if_neg (by rw [nI_leI (by omega) (by omega)]; omega), nI_1]
      have e : nbO S s (p + 1) = nbO S s p ||| if s.testBit p then nbm (sc S) p else 0 := rfl
      rw [e] at h
      by_cases hb : s.testBit p = true
      · rw [if_pos ((n_bit0 hs (by omega)).mpr hb), show nx (nI p) = p from nI_clamp (by omega), hF.2.1.1 p (by omega), n_or]
        rw [if_pos hb] at h
        exact ⟨n_in (by omega) (by decide), h⟩
      · rw [if_neg (fun q => hb ((n_bit0 hs (by omega)).mp q))]
        rw [if_neg hb, Nat.or_zero] at h
        exact h
  exact loop (sn S) 0 (by omega)
/-- the first of the steps k .. 8 by which o is reached -/
def frF (S : Sh) (l o : Nat) : Nat → Nat → Int32
  | 0, _ => -1
  | r + 1, k => if (rch S 0 k (2 ^ l)).testBit o = true then nI k else frF S l o r (k + 1)
def aFar (S : Sh) (x y : Int32) : Int32 := if thI S x = true ∧ thI S y = true then frF S (nx x) (nx y) 8 0 else -1
theorem p2_lt {l : Nat} (h : l < 8) : 2 ^ l < 256 := Nat.pow_lt_pow_right (n := 8) (a := 2) (by decide) h
theorem x_far {d : Nat} {M : Mem} {K : Int32 → Mem → Prop} {S : Sh} {x y : Int32} (hF : Fr M 27 S) (hK : K (aFar S x y) M) : CI (d + 2) μX8_far [.ref 0, .int x, .int y] M K := by
  have hS := hF.2.2
  have h8 := hS.1
  refine sg_X8_far_0 (c_isThere (by decide +kernel) hF.1 hS ?_)
  unfold aFar at hK
  cases h1 : thI S x with
  | false => rw [if_pos (by decide)]; rw [if_neg (by rw [h1]; simp)] at hK; exact hK
  | true =>
    rw [if_neg (by decide)]
    refine c_isThere (by decide +kernel) hF.1 hS ?_
    cases h2 : thI S y with
    | false => rw [if_pos (by decide)]; rw [if_neg (by rw [h2]; simp)] at hK; exact hK
    | true =>
      rw [if_neg (by decide)]
      rw [if_pos ⟨h1, h2⟩] at hK
      obtain ⟨l, hl, rfl, -⟩ := thI_is hS h1
      obtain ⟨o, ho, rfl, -⟩ := thI_is hS h2
      rw [show nx (nI l) = l from nI_clamp (by omega), show nx (nI o) = o from nI_clamp (by omega)] at hK
      refine sg_X5_distance_0 (by decide +kernel) ?_
      rw [n_shl (by omega)]
      have loop : ∀ (r k : Nat), r + k = 8 → K (frF S l o r k) M → RI (d + 1) μX5_distance 7 [(0, .ref 27), (1, .int (nI l)), (2, .int (nI o)), (3, .int (nI (rch S 0 k (2 ^ l)))), (4, .int (nI k))] [] M K := by
        intro r
        induction r with
        | zero =>
          intro k hk hK
          refine sg_X5_distance_7 (by decide +kernel) ?_
          rw [if_pos (by rw [show (8 : Int32) = nI 8 from rfl, nI_leI (by omega) (by omega)]; omega)]
          exact hK
        | succ r ih =>
          intro k hk hK
          have hlt := rch_lt hS 0 k (p2_lt (show l < 8 by omega))
          refine sg_X5_distance_7 (by decide +kernel) ?_
          rw [if_neg (by rw [show (8 : Int32) = nI 8 from rfl, nI_leI (by omega) (by omega)]; omega), nI_1]
          unfold frF at hK
          by_cases hb : (rch S 0 k (2 ^ l)).testBit o = true
          · rw [if_pos ((n_bit0 hlt (by omega)).mpr hb)]
            rw [if_pos hb] at hK; exact hK
          · rw [if_neg (fun q => hb ((n_bit0 hlt (by omega)).mp q))]
            rw [if_neg hb] at hK
            refine c_nbOf (by decide +kernel) hF hlt ?_
            have e : rch S 0 k (2 ^ l) ||| nbO S (rch S 0 k (2 ^ l)) (sn S) = rch S 0 (k + 1) (2 ^ l) := by
              rw [rch_succ, stp, clr_0]
            rw [n_or, e]
            exact ih (k + 1) (by omega) hK
      exact loop 8 0 rfl hK
theorem r_reach {d : Nat} {M : Mem} {K : Int32 → Mem → Prop} {S : Sh} {l w n : Nat} (hS : SOk S) (hA : Ar M 69 S) (h35 : ri M 58 35 = nI (sn S)) (hl : l < 8) (hw : w < 256) (hn : n < 100) (hK : K (nI (rch S w n (2 ^ l))) M) : CI (d + 2) μX9_reach [.ref 58, .int (nI l), .int (nI w), .int (nI n)] M K := by
  have h8 := hS.1
  refine sg_X9_reach_0 ?_
  rw [n_shl (by omega)]
  have outer : ∀ (r k s : Nat), r + k = n → s < 256 → K (nI (rch S w r s)) M → RI (d + 2) μX9_reach 8 [(0, .ref 58), (1, .int (nI l)), (2, .int (nI w)), (3, .int (nI n)), (4, .int (nI s)), (5, .int (nI k))] [] M K := by
    intro r
    induction r with
    | zero =>
      intro k s hk hs hK
      refine sg_X9_reach_8 ?_
      rw [if_pos (by rw [nI_leI (by omega) (by omega)]; omega)]
      exact hK
    | succ r ih =>
      intro k s hk hs hK
      refine sg_X9_reach_8 ?_
      rw [if_neg (by rw [nI_leI (by omega) (by omega)]; omega)]
      have inner : ∀ (u p : Nat), u + p = sn S → RI (d + 2) μX9_reach 21 [(0, .ref 58), (1, .int (nI l)), (2, .int (nI w)), (3, .int (nI n)), (4, .int (nI s)), (5, .int (nI k)), (6, .int (nI (s ||| clr (nbO S s p) w))), (7, .int (nI p))] [] M K := by
        intro u
        induction u with
        | zero =>
          intro p hp
          have hp : p = sn S := by omega
          subst hp
          refine sg_X9_reach_21 ?_
          rw [h35, if_pos (by rw [nI_leI (by omega) (by omega)]; omega), nI_1]
          exact ih (k + 1) (stp S w s) (by omega) (stp_lt hS w hs) hK
        | succ u ihu =>
          intro p hp
          have h := ihu (p + 1) (by omega)
          refine sg_X9_reach_21 ?_
          rw [h35, if_neg (by rw [nI_leI (by omega) (by omega)]; omega), nI_1]
          have e : nbO S s (p + 1) = nbO S s p ||| if s.testBit p then nbm (sc S) p else 0 := rfl
          rw [e] at h
          by_cases hb : s.testBit p = true
          · rw [if_pos ((n_bit0 hs (by omega)).mpr hb)]
            rw [if_pos hb, clr_or, ← Nat.or_assoc] at h
            refine r_bordersOf (by omega) hS hA ?_
            rw [n_clr, n_or]
            exact h
          · rw [if_neg (fun q => hb ((n_bit0 hs (by omega)).mp q))]
            rw [if_neg hb, Nat.or_zero] at h
            exact h
      have h0 := inner (sn S) 0 (by omega)
      have e0 : s ||| clr (nbO S s 0) w = s := by
        show s ||| clr 0 w = s
        have : clr 0 w = 0 := by unfold clr; simp
        rw [this, Nat.or_zero]
      rw [e0] at h0
      exact h0
  exact outer n 0 (2 ^ l) (by omega) (p2_lt hl) hK
theorem m_far {d : Nat} {M : Mem} {K : Int32 → Mem → Prop} {F : List Int32} {st : Nat} {S S1 : Sh} {x y : Int32} (hR : CR M F st S S1) (hP : CP F st S S1) (hK : ∀ M', Q M M' → K (aFar S x y) M') : CI (d + 3) μX9_far [.ref 58, .int x, .int y] M K := by
  have hS := hP.1.1
  have h8 := hS.1
  refine sg_X9_far_0 (r_isThereNow hR hS (fun M1 q1 a1 c1 => ?_))
  unfold aFar at hK
  cases h1 : thI S x with
  | false => rw [if_pos (by decide)]; have hk := hK M1 q1; rw [if_neg (by rw [h1]; simp)] at hk; exact hk
  | true =>
    rw [if_neg (by decide)]
    refine r_isThereNow c1 hS (fun M2 q2 a2 c2 => ?_)
    have hk := hK M2 (q1.trans q2)
    cases h2 : thI S y with
    | false => rw [if_pos (by decide)]; rw [if_neg (by rw [h2]; simp)] at hk; exact hk
    | true =>
      rw [if_neg (by decide)]
      rw [if_pos ⟨h1, h2⟩] at hk
      obtain ⟨l, hl, rfl, -⟩ := thI_is hS h1
      obtain ⟨o, ho, rfl, -⟩ := thI_is hS h2
      rw [show nx (nI l) = l from nI_clamp (by omega), show nx (nI o) = o from nI_clamp (by omega)] at hk
      have loop : ∀ (r k : Nat), r + k = 8 → (∀ j, j < k → (rch S 0 j (2 ^ l)).testBit o = false) → K (frF S l o r k) M2 → RI (d + 3) μX9_far 20 [(0, .ref 58), (1, .int (nI l)), (2, .int (nI o)), (3, .int (nI k))] [] M2 K := by
        intro r
        induction r with
        | zero =>
          intro k hk hj hK
          have hk : k = 8 := by omega
          subst hk
          refine sg_X9_far_20 ?_
          rw [if_neg (by decide)]
          refine r_reach (w := 0) (n := 8) hS a2 c2.2.2.2.1 (by omega) (by omega) (by omega) ?_
          have hlt := rch_lt hS 0 8 (p2_lt (show l < 8 by omega))
          have hb := far7 hS (show l < 8 by omega) (show o < 8 by omega) (hj 7 (by omega))
          rw [if_neg (fun q => by have := (n_bit0 hlt (by omega)).mp q; rw [hb] at this; cases this)]
          refine sg_X9_far_20 ?_
          rw [if_pos (by decide)]
          exact hK
        | succ r ih =>
          intro k hk hj hK
          refine sg_X9_far_20 ?_
          rw [if_neg (by rw [show (8 : Int32) = nI 8 from rfl, nI_ltI (by omega) (by omega)]; omega)]
          refine r_reach (w := 0) hS a2 c2.2.2.2.1 (by omega) (by omega) (by omega) ?_
          have hlt := rch_lt hS 0 k (p2_lt (show l < 8 by omega))
          unfold frF at hK
          by_cases hb : (rch S 0 k (2 ^ l)).testBit o = true
          · rw [if_pos ((n_bit0 hlt (by omega)).mpr hb)]
            rw [if_pos hb] at hK; exact hK
          · rw [if_neg (fun q => hb ((n_bit0 hlt (by omega)).mp q)), nI_1]
            rw [if_neg hb] at hK
            refine ih (k + 1) (by omega) (fun j hjk => ?_) hK
            by_cases hjk2 : j = k
            · rw [hjk2]; rw [Bool.not_eq_true] at hb; exact hb
            · exact hj j (by omega)
      exact loop 8 0 rfl (fun j h => absurd h (Nat.not_lt_zero _)) hk
def aHerm (S : Sh) (x : Int32) : Int32 := if 0 ≤ x ∧ x ≤ 1 then (if x = 0 then nI (pc8 (hmF S 255 0)) else nI (hmF S 255 0)) else -1
theorem hmF_lt {S : Sh} : ∀ (r b : Nat), b < 256 → hmF S r b < 256
  | 0, _, h => h
  | r + 1, b, h => by
    show hmF S r (if hpS S (256 - (r + 1)) = true ∧ pc8 b < pc8 (256 - (r + 1)) then 256 - (r + 1) else b) < 256
    apply hmF_lt r
    split
    · omega
    · exact h
theorem x_mostApart {d o : Nat} {M : Mem} {K : Int32 → Mem → Prop} {S : Sh} (ho : kd o = (0, 2)) (hF : Fr M o S) (hK : K (nI (hmF S 255 0)) M) : CI (d + 1) μX5_mostApart [.ref o] M K := by
  have hS := hF.2.2
  refine sg_X5_mostApart_0 ho ?_
  have loop : ∀ (r s b : Nat), r + s = 256 → b < 256 → K (nI (hmF S r b)) M → RI (d + 1) μX5_mostApart 4 [(0, .ref o), (1, .int (nI b)), (2, .int (nI s))] [] M K := by
    intro r
    induction r with
    | zero =>
      intro s b hs hb hk
      refine sg_X5_mostApart_4 ho ?_
      rw [if_pos (by rw [show (256 : Int32) = nI 256 from rfl, nI_leI (by omega) (by omega)]; omega)]
      exact hk
    | succ r ih =>
      intro s b hs hb hk
      rw [hmF_at (show r + 1 + s = 256 by omega)] at hk
      refine sg_X5_mostApart_4 ho ?_
      rw [if_neg (by rw [show (256 : Int32) = nI 256 from rfl, nI_leI (by omega) (by omega)]; omega), hF.1.2.1, n_clr]
      have hcl : clr s (sb S) < 256 := clr_lt (n := 8) (by omega)
      have no : hpS S s = false → RI (d + 1) μX5_mostApart 37 [(0, .ref o), (1, .int (nI b)), (2, .int (nI s))] [.int 0] M K := by
        intro hf
        refine sg_X5_mostApart_37 ho ?_
        rw [if_pos rfl, nI_1]
        rw [if_neg (fun q => by rw [hf] at q; cases q.1)] at hk
        exact ih (s + 1) b (by omega) hb hk
      by_cases hc : clr s (sb S) = 0
      · rw [if_pos ((n_z (by omega)).mpr hc)]
        refine c_nbOf ho hF (by omega) ?_
        have hnl := nbO_lt hS s (sn S)
        have hal : nbO S s (sn S) &&& s < 256 := Nat.lt_of_le_of_lt Nat.and_le_left hnl
        rw [n_and]
        by_cases hz : nbO S s (sn S) &&& s = 0
        · rw [if_pos ((n_z (by omega)).mpr hz)]
          have hp1 : hpS S s = true := by unfold hpS; rw [decide_eq_true hc, decide_eq_true hz]; rfl
          refine sg_X5_mostApart_37 ho ?_
          rw [if_neg (by decide), nI_1]
          refine c_bitCount (by omega) (c_bitCount hb ?_)
          have p1 := pc8_le s
          have p2 := pc8_le b
          by_cases hp2 : pc8 b < pc8 s
          · rw [if_neg (by rw [nI_leI (by omega) (by omega)]; omega)]
            rw [if_pos ⟨hp1, hp2⟩] at hk
            exact ih (s + 1) s (by omega) (by omega) hk
          · rw [if_pos (by rw [nI_leI (by omega) (by omega)]; omega)]
            rw [if_neg (fun q => hp2 q.2)] at hk
            exact ih (s + 1) b (by omega) hb hk
        · rw [if_neg (fun q => hz ((n_z (by omega)).mp q))]
          exact no (by unfold hpS; rw [decide_eq_false hz, Bool.and_false])
      · rw [if_neg (fun q => hc ((n_z (by omega)).mp q))]
        exact no (by unfold hpS; rw [decide_eq_false hc, Bool.false_and])
  exact loop 255 1 0 rfl (by omega) hK
theorem x_hermits {d : Nat} {M : Mem} {K : Int32 → Mem → Prop} {S : Sh} {x : Int32} (hF : Fr M 27 S) (hK : K (aHerm S x) M) : CI (d + 2) μX8_hermits [.ref 0, .int x] M K := by
  refine sg_X8_hermits_0 ?_
  unfold aHerm at hK
  by_cases h1 : x < 0
  · rw [if_pos h1]; rw [if_neg (fun q => absurd h1 (i_nlt.mpr q.1))] at hK; exact hK
  rw [if_neg h1]
  by_cases h2 : x ≤ 1
  · rw [if_pos h2]
    rw [if_pos ⟨i_nlt.mp h1, h2⟩] at hK
    refine x_mostApart (by decide +kernel) hF ?_
    by_cases h3 : x = 0
    · rw [if_pos h3]; rw [if_pos h3] at hK
      exact c_bitCount (hmF_lt 255 0 (by decide)) hK
    · rw [if_neg h3]; rw [if_neg h3] at hK; exact hK
  · rw [if_neg h2]; rw [if_neg (fun q => h2 q.2)] at hK; exact hK
/-- the model's row of who borders whom -/
def Nx (M : Mem) (S : Sh) : Prop := ∀ p, p < sn S → ri M 75 p = nI (nbm (sc S) p)
theorem r_layNexts {d : Nat} {M : Mem} {K : Mem → Prop} {F : List Int32} {st : Nat} {S S1 : Sh} (hS : SOk S) (hR : CR M F st S S1) (hA : Ar M 69 S) (hK : ∀ M', Q M M' → Ar M' 69 S → CR M' F st S S1 → Nx M' S → K M') : CV (d + 2) μX9_layNexts [.ref 58] M K := by
  have h8 := hS.1
  refine sg_X9_layNexts_0 ?_
  have loop : ∀ (r p : Nat) (M1 : Mem), r + p = sn S → Q M M1 → Ar M1 69 S → (∀ q, q < p → ri M1 75 q = nI (nbm (sc S) q)) → RV (d + 2) μX9_layNexts 2 [(0, .ref 58), (1, .int (nI p))] [] M1 K := by
    intro r
    induction r with
    | zero =>
      intro p M1 hp q1 a1 hq
      have hp : p = sn S := by omega
      subst hp
      refine sg_X9_layNexts_2 ?_
      rw [(hR.keep q1).2.2.2.1, if_pos (by rw [nI_leI (by omega) (by omega)]; omega)]
      exact hK M1 q1 a1 (hR.keep q1) hq
    | succ r ih =>
      intro p M1 hp q1 a1 hq
      refine sg_X9_layNexts_2 ?_
      rw [(hR.keep q1).2.2.2.1, if_neg (by rw [nI_leI (by omega) (by omega)]; omega), nI_1]
      refine r_bordersOf (by omega) hS a1 ⟨n_in (by omega) (by decide), fun M3 h3 => ?_⟩
      rw [show nx (nI p) = p from nI_clamp (by omega)] at h3
      refine ih (p + 1) M3 (by omega) (q1.trans (by rw [h3]; exact Q.wi rfl)) (a1.keepE (fun j => by rw [h3, ri_wi, if_neg (fun q => by omega)])) (fun q hqp => ?_)
      rw [h3, ri_wi]
      by_cases hqq : q = p
      · rw [if_pos ⟨rfl, hqq⟩, hqq]
      · rw [if_neg (fun z => hqq z.2)]; exact hq q (by omega)
  exact loop (sn S) 0 M (by omega) Q.rf hA (fun q h => absurd h (Nat.not_lt_zero _))
theorem m_hermits {d : Nat} {M : Mem} {K : Int32 → Mem → Prop} {F : List Int32} {st : Nat} {S S1 : Sh} {x : Int32} (hR : CR M F st S S1) (hP : CP F st S S1) (hK : ∀ M', Q M M' → K (aHerm S x) M') : CI (d + 3) μX9_hermits [.ref 58, .int x] M K := by
  have hS := hP.1.1
  have h8 := hS.1
  refine sg_X9_hermits_0 (r_isIn ?_)
  have hk := hK M Q.rf
  unfold aHerm at hk hK
  by_cases h1 : 0 ≤ x ∧ x ≤ 1
  · rw [if_neg (bI_ne (decide_eq_true h1))]
    rw [if_pos h1] at hK
    refine r_fillS hR hS (fun M1 q1 a1 c1 => ?_)
    refine r_layNexts hS c1 a1 (fun M2 q2 a2 c2 n2 => ?_)
    have hk := hK M2 (q1.trans q2)
    rw [x_13, a2.2.2.1]
    have hsb := hS.2.1
    have loop : ∀ (r s b : Nat), r + s = 256 → b < 256 → K (if x = 0 then nI (pc8 (hmF S r b)) else nI (hmF S r b)) M2 → RI (d + 3) μX9_hermits 32 [(0, .ref 58), (1, .int x), (2, .int (nI (sb S))), (3, .int (nI b)), (4, .int (nI s))] [] M2 K := by
      intro r
      induction r with
      | zero =>
        intro s b hs hb hk
        refine sg_X9_hermits_32 ?_
        rw [if_pos (by rw [nI_ltI (by omega) (by omega)]; omega)]
        by_cases hx : x = 0
        · rw [if_pos hx]; rw [if_pos hx] at hk; exact r_members hb hk
        · rw [if_neg hx]; rw [if_neg hx] at hk; exact hk
      | succ r ih =>
        intro s b hs hb hk
        refine sg_X9_hermits_32 ?_
        by_cases hend : sb S < s
        · rw [if_pos (by rw [nI_ltI (by omega) (by omega)]; exact hend)]
          rw [hmF_end (r + 1) b (by omega) (by omega)] at hk
          by_cases hx : x = 0
          · rw [if_pos hx]; rw [if_pos hx] at hk; exact r_members hb hk
          · rw [if_neg hx]; rw [if_neg hx] at hk; exact hk
        · rw [if_neg (by rw [nI_ltI (by omega) (by omega)]; exact hend), n_clr, nI_1]
          rw [hmF_at (show r + 1 + s = 256 by omega)] at hk
          have hcl : clr s (sb S) < 256 := clr_lt (n := 8) (by omega)
          by_cases hc : clr s (sb S) = 0
          · rw [if_pos ((n_z (by omega)).mpr hc)]
            refine r_members (by omega) (r_members hb ?_)
            have p1 := pc8_le s
            have p2 := pc8_le b
            by_cases hp2 : pc8 b < pc8 s
            · rw [if_pos (by rw [nI_ltI (by omega) (by omega)]; exact hp2)]
              -- is there one who borders another of the set
              have inner : ∀ (u p : Nat) (ok : Bool), u + p = sn S → (ok = true ↔ ∀ q, q < p → s.testBit q = true → nbm (sc S) q &&& s = 0) → RI (d + 3) μX9_hermits 68 [(0, .ref 58), (1, .int x), (2, .int (nI (sb S))), (3, .int (nI b)), (4, .int (nI s)), (5, .int (bI ok)), (6, .int (nI p))] [] M2 K := by
                intro u
                induction u with
                | zero =>
                  intro p ok hp hok
                  have hp : p = sn S := by omega
                  subst hp
                  refine sg_X9_hermits_68 ?_
                  rw [c2.2.2.2.1, if_pos (by rw [nI_leI (by omega) (by omega)]; omega), nI_1]
                  have hh := nbO_and (S := S) s s (sn S)
                  cases ok with
                  | false =>
                    rw [if_pos (by decide)]
                    have : hpS S s = false := by
                      unfold hpS
                      rw [decide_eq_false (p := nbO S s (sn S) &&& s = 0) (fun q => by have := hok.mpr (hh.mp q); cases this), Bool.and_false]
                    rw [show (if hpS S s = true ∧ pc8 b < pc8 s then s else b) = b from if_neg (fun q => by rw [this] at q; cases q.1)] at hk
                    exact ih (s + 1) b (by omega) hb hk
                  | true =>
                    rw [if_neg (by decide)]
                    have : hpS S s = true := by
                      unfold hpS
                      rw [decide_eq_true hc, decide_eq_true (hh.mpr (hok.mp rfl))]; rfl
                    rw [show (if hpS S s = true ∧ pc8 b < pc8 s then s else b) = s from if_pos ⟨this, hp2⟩] at hk
                    exact ih (s + 1) s (by omega) (by omega) hk
                | succ u ihu =>
                  intro p ok hp hok
                  refine sg_X9_hermits_68 ?_
                  rw [c2.2.2.2.1, if_neg (by rw [nI_leI (by omega) (by omega)]; omega), nI_1]
                  cases ok with
                  | false =>
                    rw [if_pos (by decide)]
                    refine ihu (p + 1) false (by omega) ⟨fun q => (by cases q), fun q => ?_⟩
                    exact hok.mpr (fun q' hq' => q q' (by omega))
                  | true =>
                    rw [if_neg (by decide)]
                    by_cases hb2 : s.testBit p = true
                    · rw [if_neg (fun q => by have := (n_bitz (s := s) (by omega) (by omega)).mp q; rw [hb2] at this; cases this)]
                      rw [show nx (nI p) = p from nI_clamp (by omega), n2 p (by omega), n_and]
                      refine ⟨n_in (by omega) (by decide), ?_⟩
                      have hal : nbm (sc S) p &&& s < 256 := Nat.lt_of_le_of_lt Nat.and_le_left (nbm_lt8 hS p)
                      by_cases hz : nbm (sc S) p &&& s = 0
                      · rw [if_pos ((n_z (by omega)).mpr hz)]
                        refine ihu (p + 1) true (by omega) ⟨fun _ q hq hs2 => ?_, fun _ => rfl⟩
                        by_cases hqp : q = p
                        · rw [hqp]; exact hz
                        · exact hok.mp rfl q (by omega) hs2
                      · rw [if_neg (fun q => hz ((n_z (by omega)).mp q))]
                        refine ihu (p + 1) false (by omega) ⟨fun q => by (cases q), fun q => ?_⟩
                        exact absurd (q p (by omega) hb2) hz
                    · rw [if_pos ((n_bitz (s := s) (by omega) (by omega)).mpr (by rw [Bool.not_eq_true] at hb2; exact hb2))]
                      refine ihu (p + 1) true (by omega) ⟨fun _ q hq hs2 => ?_, fun _ => rfl⟩
                      by_cases hqp : q = p
                      · rw [hqp] at hs2; exact absurd hs2 hb2
                      · exact hok.mp rfl q (by omega) hs2
              exact inner (sn S) 0 true (by omega) ⟨fun _ q hq => absurd hq (Nat.not_lt_zero _), fun _ => rfl⟩
            · rw [if_neg (by rw [nI_ltI (by omega) (by omega)]; exact hp2)]
              rw [show (if hpS S s = true ∧ pc8 b < pc8 s then s else b) = b from if_neg (fun q => hp2 q.2)] at hk
              exact ih (s + 1) b (by omega) hb hk
          · rw [if_neg (fun q => hc ((n_z (by omega)).mp q))]
            have hf : hpS S s = false := by unfold hpS; rw [decide_eq_false hc, Bool.false_and]
            rw [show (if hpS S s = true ∧ pc8 b < pc8 s then s else b) = b from if_neg (fun q => by rw [hf] at q; cases q.1)] at hk
            exact ih (s + 1) b (by omega) hb hk
    exact loop 255 1 0 rfl (by omega) hk
  · rw [if_pos (bI_eq (decide_eq_false h1))]
    rw [if_neg h1] at hk
    exact hk
