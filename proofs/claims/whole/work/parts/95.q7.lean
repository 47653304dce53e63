/-! law, odds -/
def zLaw (S : Sh) (n p : Nat) : Nat → Nat := fun j => if j < p then (if (sb S).testBit j then n else 0) else sz S j
def lwP (S : Sh) (F : List Int32) (n p : Nat) : Bool := (sb S).testBit p && decide (0 < grF F (nI (dgm (sc S) p)) (nI n) (nI (n * pc8 (nbm (sc S) p))) (nI (pc8 (sb S))) (sy S))
def aLaw (S : Sh) (F : List Int32) (x : Int32) : Int32 := if 0 ≤ x ∧ x ≤ 999 then lpF (fun p a => a + bI (lwP S F (nx x) p)) (sn S) (sn S) 0 else -1
theorem x_law {d t : Nat} {M : Mem} {K : Int32 → Mem → Prop} {F : List Int32} {st : Nat} {S S1 : Sh} {x : Int32} (hX : CX M t F st S S1) (hK : ∀ M', Q M M' → K (aLaw S F x) M') : CI (d + 3) μX8_law [.ref 0, .int x] M K := by
  have hF0 := hX.2.2.2.2.2
  have hS := hF0.2.2
  have h8 := hS.1
  refine sg_X8_law_0 ?_
  have hk := hK M Q.rf
  unfold aLaw at hk hK
  by_cases h1 : x < 0
  · rw [if_pos h1]; rw [if_neg (fun q => absurd h1 (i_nlt.mpr q.1))] at hk; exact hk
  rw [if_neg h1]
  by_cases h2 : x ≤ 999
  · rw [if_pos h2]
    rw [if_pos ⟨i_nlt.mp h1, h2⟩] at hK
    obtain ⟨n, hn, rfl⟩ := le_nat (i_nlt.mp h1) h2 (k := 999) (by decide)
    rw [show nx (nI n) = n from nI_clamp (by omega)] at hK
    have loop : ∀ (r p : Nat) (a : Int32) (M1 : Mem), r + p = sn S → Q M M1 → (∀ M', Q M M' → K (lpF (fun p a => a + bI (lwP S F n p)) (sn S) r a) M') → RI (d + 3) μX8_law 17 [(0, .ref 0), (1, .int (nI n)), (2, .int a), (3, .int (nI p))] [] M1 K := by
      intro r
      induction r with
      | zero =>
        intro p a M1 hp q1 hk
        refine sg_X8_law_17 ?_
        rw [(hX.keep q1).2.2.2.2.2.1.1, if_pos (by rw [nI_leI (by omega) (by omega)]; omega)]
        exact hk M1 q1
      | succ r ih =>
        intro p a M1 hp q1 hk
        have hX1 := hX.keep q1
        have hF := hX1.2.2.2.2.2
        rw [lpF_at (show r + 1 + p = sn S by omega)] at hk
        refine sg_X8_law_17 ?_
        have e1 : nx (nI p) = p := nI_clamp (by omega)
        rw [hF.1.1, if_neg (by rw [nI_leI (by omega) (by omega)]; omega), nI_1, e1, hF.2.1.1 p (by omega)]
        refine ⟨n_in (by omega) (by decide), c_bitCount (nbm_lt8 hS p) ?_⟩
        refine c_isThere (by decide +kernel) hF.1 hS ?_
        rw [thI_nat hS (by omega)]
        cases ht : (sb S).testBit p with
        | false =>
          rw [if_pos (by decide)]
          unfold lwP at hk
          rw [ht, Bool.false_and, show bI false = 0 from rfl, Int32.add_zero] at hk
          exact ih (p + 1) a M1 (by omega) q1 hk
        | true =>
          rw [if_neg (by decide)]
          refine ⟨t, hX1.1, (tell_kd hX.2.1).1, n_in (by omega) (by decide), ?_⟩
          refine c_howManyThere (by decide +kernel) hF.1 hS ?_
          rw [hF.2.1.2 p (by omega), hF.1.2.2.1, n_mul]
          refine c_growth (tell_kd hX.2.1).2.1 hX1.2.2.1 (fun M2 s2 => ?_)
          have q2 := q1.trans (s2.q hX.2.1)
          unfold lwP at hk
          rw [ht, Bool.true_and, bI_add] at hk
          by_cases hg : grF F (nI (dgm (sc S) p)) (nI n) (nI (n * pc8 (nbm (sc S) p))) (nI (pc8 (sb S))) (sy S) ≤ 0
          · rw [if_pos hg]
            rw [if_neg (by rw [decide_eq_true_iff]; exact i_nlt.mpr hg)] at hk
            exact ih (p + 1) a M2 (by omega) q2 hk
          · rw [if_neg hg]
            rw [if_pos (decide_eq_true (i_nle.mp hg))] at hk
            exact ih (p + 1) (a + 1) M2 (by omega) q2 hk
    exact loop (sn S) 0 0 M (by omega) Q.rf hK
  · rw [if_neg h2]; rw [if_neg (fun q => h2 q.2)] at hk; exact hk
theorem pcF_end {x n : Nat} (h : ∀ j, n ≤ j → j < 8 → x.testBit j = false) : ∀ k, n + k ≤ 8 → pcF x (n + k) = pcF x n
  | 0, _ => rfl
  | k + 1, hk => by
    show pcF x (n + k) + (if x.testBit (n + k) then 1 else 0) = _
    rw [pcF_end h k (by omega), h (n + k) (by omega) (by omega)]; rfl
theorem nbm_th {S : Sh} (h4 : N4 S) {p q : Nat} (h : (nbm (sc S) p).testBit q = true) : (sb S).testBit q = true ∧ q < sn S := by
  unfold nbm at h
  rw [clr_tb, Bool.and_eq_true] at h
  obtain ⟨m, hm, -, hq⟩ := (orm_tb (sc S)).mp h.1
  have := h4.1 m hm q hq
  exact ⟨this, h4.2 q this⟩
theorem near_law {S : Sh} (hS : SOk S) (h4 : N4 S) (n : Nat) {p : Nat} (hp : p < sn S) : ∀ q, q ≤ sn S → nearF (setZ S (zLaw S n (sn S))) p q = n * pcF (nbm (sc S) p) q
  | 0, _ => rfl
  | q + 1, hq => by
    show nearF (setZ S (zLaw S n (sn S))) p q + (if mtI S (nI p) (nI q) = true then zLaw S n (sn S) q else 0) = n * (pcF (nbm (sc S) p) q + (if (nbm (sc S) p).testBit q then 1 else 0))
    rw [near_law hS h4 n hp q (by omega), mtI_nat hS hp (by omega)]
    cases hb : (nbm (sc S) p).testBit q with
    | false => simp
    | true =>
      rw [if_pos rfl, if_pos rfl]
      unfold zLaw
      rw [if_pos (by omega), (nbm_th h4 hb).1, if_pos rfl, Nat.mul_add, Nat.mul_one]
theorem gr_law {S : Sh} (hG : GS S) (F : List Int32) {n p : Nat} (hp : p < sn S) (ht : (sb S).testBit p = true) : grS (setZ S (zLaw S n (sn S))) F p = grF F (nI (dgm (sc S) p)) (nI n) (nI (n * pc8 (nbm (sc S) p))) (nI (pc8 (sb S))) (sy S) := by
  have hS := hG.1
  have h4 := hG.2.2.2.1
  have h8 := hS.1
  show grF F (nI (dgm (sc S) p)) (nI (zLaw S n (sn S) p)) (nI (nearF (setZ S (zLaw S n (sn S))) p (sn S))) (nI (pc8 (sb S))) (sy S) = _
  rw [near_law hS h4 n hp (sn S) (Nat.le_refl _)]
  have e1 : zLaw S n (sn S) p = n := by unfold zLaw; rw [if_pos hp, ht]; rfl
  have e2 : pcF (nbm (sc S) p) (sn S) = pc8 (nbm (sc S) p) := by
    rw [← pcF_8 _ (nbm_lt8 hS p)]
    have := pcF_end (x := nbm (sc S) p) (n := sn S) (fun j hj _ => by
      cases hb : (nbm (sc S) p).testBit j with
      | false => rfl
      | true => have := (nbm_th h4 hb).2; omega) (8 - sn S) (by omega)
    rw [show sn S + (8 - sn S) = 8 by omega] at this
    exact this.symm
  rw [e1, e2]
theorem m_law {d : Nat} {M : Mem} {K : Int32 → Mem → Prop} {F : List Int32} {st : Nat} {S S1 : Sh} {x : Int32} (hR : CR M F st S S1) (hP : CP F st S S1) (hK : ∀ M', Q M M' → K (aLaw S F x) M') : CI (d + 3) μX9_law [.ref 58, .int x] M K := by
  have hS := hP.1.1
  have h4 := hP.1.2.2.2.1
  have h8 := hS.1
  refine sg_X9_law_0 (r_isIn ?_)
  have hk := hK M Q.rf
  unfold aLaw at hk hK
  by_cases h1 : 0 ≤ x ∧ x ≤ 999
  · rw [if_neg (bI_ne (decide_eq_true h1))]
    rw [if_pos h1] at hK
    obtain ⟨n, hn, rfl⟩ := le_nat h1.1 h1.2 (k := 999) (by decide)
    rw [show nx (nI n) = n from nI_clamp (by omega)] at hK
    refine r_fillS hR hS (fun M1 q1 a1 c1 => ?_)
    -- the counting
    have hZ : GS (setZ S (zLaw S n (sn S))) := by
      refine GS_Clo.2.2.2.2.1 S _ hP.1 (fun j => ?_) (fun j hj => ?_)
      · unfold zLaw
        have := hS.2.2.2.2.2 j
        split
        · split <;> omega
        · omega
      · unfold zLaw
        by_cases hj2 : j < sn S
        · rw [if_pos hj2]
          rw [thI_nat hS hj2] at hj
          rw [hj, hP.1.2.2.2.2.2.2 j (by omega) hj]; rfl
        · rw [if_neg hj2]
    have loop : ∀ (r p : Nat) (a : Int32) (M1 : Mem), r + p = sn S → Q M M1 → Ar M1 69 (setZ S (zLaw S n (sn S))) → (∀ M', Q M M' → K (lpF (fun p a => a + bI (lwP S F n p)) (sn S) r a) M') → RI (d + 3) μX9_law 59 [(0, .ref 58), (1, .int (nI n)), (2, .int a), (3, .int (nI p))] [] M1 K := by
      intro r
      induction r with
      | zero =>
        intro p a M1 hp q1 a1 hk
        refine sg_X9_law_59 ?_
        rw [(hR.keep q1).2.2.2.1, if_pos (by rw [nI_leI (by omega) (by omega)]; omega)]
        exact hk M1 q1
      | succ r ih =>
        intro p a M1 hp q1 a1 hk
        have c1 := hR.keep q1
        rw [lpF_at (show r + 1 + p = sn S by omega)] at hk
        refine sg_X9_law_59 ?_
        rw [c1.2.2.2.1, if_neg (by rw [nI_leI (by omega) (by omega)]; omega), nI_1]
        refine r_isThere (S := setZ S (zLaw S n (sn S))) (by omega) hS.2.1 a1 ?_
        have t0 : ∀ {K' : Int32 → Mem → Prop} {M1 : Mem}, K' 0 M1 → CI (d + 2) μX9_truth [.int 0] M1 K' := fun h => r_truth (b := false) h
        have t1 : ∀ {K' : Int32 → Mem → Prop} {M1 : Mem}, K' 1 M1 → CI (d + 2) μX9_truth [.int 1] M1 K' := fun h => r_truth (b := true) h
        unfold lwP at hk
        show if bI ((sb S).testBit p) = 0 then _ else _
        cases ht : (sb S).testBit p with
        | false =>
          rw [if_pos (by decide)]
          rw [ht, Bool.false_and] at hk
          exact t0 (ih (p + 1) _ M1 (by omega) q1 a1 hk)
        | true =>
          rw [if_neg (by decide)]
          rw [ht, Bool.true_and] at hk
          refine r_growth (S := setZ S (zLaw S n (sn S))) (show p < sn S by omega) hZ.1 hZ.2.2.2.1 hP.2.2.2.1 a1 c1.2.2.1 (fun M2 s2 => ?_)
          have a2 : Ar M2 69 (setZ S (zLaw S n (sn S))) := a1.keepE (fun j => s2.1 69 (by decide) (by decide) j)
          rw [gr_law hP.1 F (by omega) ht]
          by_cases hg : grF F (nI (dgm (sc S) p)) (nI n) (nI (n * pc8 (nbm (sc S) p))) (nI (pc8 (sb S))) (sy S) ≤ 0
          · rw [if_pos hg]
            rw [decide_eq_false (i_nlt.mpr hg)] at hk
            exact t0 (ih (p + 1) _ M2 (by omega) (q1.trans s2.q) a2 hk)
          · rw [if_neg hg]
            rw [decide_eq_true (i_nle.mp hg)] at hk
            exact t1 (ih (p + 1) _ M2 (by omega) (q1.trans s2.q) a2 hk)
    -- all who are there are of the size n
    have fillZ : ∀ (r p : Nat) (M1 : Mem), r + p = sn S → Q M M1 → Ar M1 69 (setZ S (zLaw S n p)) → RI (d + 3) μX9_law 19 [(0, .ref 58), (1, .int (nI n)), (2, .int (nI p))] [] M1 K := by
      intro r
      induction r with
      | zero =>
        intro p M1 hp q1 a1
        have hp : p = sn S := by omega
        subst hp
        refine sg_X9_law_19 ?_
        rw [(hR.keep q1).2.2.2.1, if_pos (by rw [nI_leI (by omega) (by omega)]; omega)]
        exact loop (sn S) 0 0 M1 (by omega) q1 a1 hK
      | succ r ih =>
        intro p M1 hp q1 a1
        refine sg_X9_law_19 ?_
        rw [(hR.keep q1).2.2.2.1, if_neg (by rw [nI_leI (by omega) (by omega)]; omega), nI_1]
        refine r_isThere (S := setZ S (zLaw S n p)) (by omega) hS.2.1 a1 ?_
        have h14 := n_in14 (show p < 8 by omega)
        rw [h14.2]
        have h12 := hS.2.2.1
        have put : ∀ (v : Nat), v = (if (sb S).testBit p then n else 0) → ∀ M3, M3 = wi M1 69 (14 + p) (nI v) → RI (d + 3) μX9_law 19 [(0, .ref 58), (1, .int (nI n)), (2, .int (nI (p + 1)))] [] M3 K := by
          intro v hv M3 h3
          refine ih (p + 1) M3 (by omega) (q1.trans (by rw [h3]; exact Q.wi rfl)) ?_
          have r3 : ∀ j, ri M3 69 j = if j = 14 + p then nI v else ri M1 69 j := by
            intro j; rw [h3, ri_wi]
            by_cases hj : j = 14 + p
            · rw [if_pos ⟨rfl, hj⟩, if_pos hj]
            · rw [if_neg (fun q => hj q.2), if_neg hj]
          refine ⟨fun i hi => ?_, ?_, ?_, fun j hj => ?_, ?_, ?_⟩
          · have hi' : i < (sc S).length := hi
            rw [r3, if_neg (by omega)]; exact a1.1 i hi
          · rw [r3, if_neg (by omega)]; exact a1.2.1
          · rw [r3, if_neg (by omega)]; exact a1.2.2.1
          · rw [r3]
            show _ = nI (zLaw S n (p + 1) j)
            unfold zLaw
            by_cases hjp : j = p
            · rw [if_pos (by omega), if_pos (by omega), hjp, hv]
            · rw [if_neg (by omega), a1.2.2.2.1 j hj]
              show nI (zLaw S n p j) = _
              unfold zLaw
              by_cases hlt : j < p
              · rw [if_pos hlt, if_pos (show j < p + 1 by omega)]
              · rw [if_neg hlt, if_neg (show ¬ j < p + 1 by omega)]
          · rw [r3, if_neg (by omega)]; exact a1.2.2.2.2.1
          · rw [r3, if_neg (by omega)]; exact a1.2.2.2.2.2
        show if bI ((sb S).testBit p) = 0 then _ else _
        cases ht : (sb S).testBit p with
        | false => rw [if_pos (by decide)]; exact ⟨h14.1, fun M3 h3 => put 0 (by rw [ht]; rfl) M3 h3⟩
        | true => rw [if_neg (by decide)]; exact ⟨h14.1, fun M3 h3 => put n (by rw [ht]; rfl) M3 h3⟩
    have e0 : setZ S (zLaw S n 0) = S := by
      show (sn S, sb S, sy S, sd S, sc S, zLaw S n 0) = S
      have : zLaw S n 0 = sz S := by funext j; unfold zLaw; rw [if_neg (Nat.not_lt_zero _)]
      rw [this]; rfl
    exact fillZ (sn S) 0 M1 (by omega) q1 (by rw [e0]; exact a1)
  · rw [if_pos (bI_eq (decide_eq_false h1))]
    rw [if_neg h1] at hk
    exact hk
/-! odds -/
def eu : Nat → Nat → Nat → Nat × Nat
  | 0, x, y => (x, y)
  | f + 1, x, y => if y = 0 then (x, 0) else eu f y (x % y)
theorem eu_ok : ((List.range 101).all fun st => (List.range 5).all fun n => (eu 64 (100 ^ n) ((100 - st) ^ n)).2 == 0 && !((eu 64 (100 ^ n) ((100 - st) ^ n)).1 == 0)) = true := by decide +kernel
theorem eu_lt : ∀ (f x y : Nat), x < 2 ^ 30 → y < 2 ^ 30 → (eu f x y).1 < 2 ^ 30
  | 0, x, y, h, _ => h
  | f + 1, x, y, h, h2 => by
    unfold eu
    split
    · exact h
    · refine eu_lt f y (x % y) h2 ?_
      have := Nat.mod_le x y
      omega
theorem x_divisor {d : Nat} {M : Mem} {K : Int32 → Mem → Prop} {x y : Nat} (hx : x < 2 ^ 30) (hy : y < 2 ^ 30) (hK : K (nI (eu 64 x y).1) M) : CI d μX8_commonDivisor [.int (nI x), .int (nI y)] M K := by
  refine sg_X8_commonDivisor_0 ?_
  have loop : ∀ (f i u v : Nat), f + i = 64 → u < 2 ^ 30 → v < 2 ^ 30 → K (nI (eu f u v).1) M → RI d μX8_commonDivisor 7 [(0, .int (nI x)), (1, .int (nI y)), (2, .int (nI u)), (3, .int (nI v)), (4, .int (nI i))] [] M K := by
    intro f
    induction f with
    | zero =>
      intro i u v hi _ _ hk
      refine sg_X8_commonDivisor_7 ?_
      rw [if_pos (by rw [show (64 : Int32) = nI 64 from rfl, nI_leI (by omega) (by omega)]; omega)]
      exact hk
    | succ f ih =>
      intro i u v hi hu hv hk
      refine sg_X8_commonDivisor_7 ?_
      rw [if_neg (by rw [show (64 : Int32) = nI 64 from rfl, nI_leI (by omega) (by omega)]; omega), nI_1]
      unfold eu at hk
      by_cases hz : v = 0
      · subst hz
        rw [if_pos (by decide)]
        rw [if_pos rfl] at hk
        exact hk
      · have hn : ¬ nI v = 0 := by rw [show (0 : Int32) = nI 0 from rfl, nI_eq (by omega) (by omega)]; exact hz
        rw [if_neg hn]
        rw [if_neg hz] at hk
        refine ⟨hn, ?_⟩
        rw [pk_rem (by omega) (by omega) (by omega)]
        have := Nat.mod_le u v
        exact ih (i + 1) v (u % v) (by omega) hv (by omega) hk
  exact loop 64 0 x y rfl hx hy hK
theorem m_divisor {d : Nat} {M : Mem} {K : Int32 → Mem → Prop} {x y : Nat} (hx : x < 2 ^ 30) (hy : y < 2 ^ 30) (h0 : (eu 64 x y).2 = 0) (hK : K (nI (eu 64 x y).1) M) : CI d μX9_divisor [.int (nI x), .int (nI y)] M K := by
  refine sg_X9_divisor_0 ?_
  have loop : ∀ (f u v : Nat), u < 2 ^ 30 → v < 2 ^ 30 → (eu f u v).2 = 0 → K (nI (eu f u v).1) M → RI d μX9_divisor 4 [(0, .int (nI x)), (1, .int (nI y)), (2, .int (nI u)), (3, .int (nI v))] [] M K := by
    intro f
    induction f with
    | zero =>
      intro u v _ hv h2 hk
      have hz : v = 0 := h2
      subst hz
      refine sg_X9_divisor_4 ?_
      rw [if_pos (by decide)]
      exact hk
    | succ f ih =>
      intro u v hu hv h2 hk
      refine sg_X9_divisor_4 ?_
      unfold eu at hk h2
      by_cases hz : v = 0
      · subst hz
        rw [if_pos (by decide)]
        rw [if_pos rfl] at hk
        exact hk
      · have hn : ¬ nI v = 0 := by rw [show (0 : Int32) = nI 0 from rfl, nI_eq (by omega) (by omega)]; exact hz
        rw [if_neg (by rw [show (0 : Int32) = nI 0 from rfl, nI_leI (by omega) (by omega)]; omega)]
        rw [if_neg hz] at hk h2
        refine ⟨hn, ?_⟩
        rw [pk_rem (by omega) (by omega) (by omega)]
        have := Nat.mod_le u v
        exact ih v (u % v) hv (by omega) h2 hk
  exact loop 64 x y hx hy h0 hK
def aOdds (st : Nat) (x w : Int32) : Int32 := if (0 ≤ x ∧ x ≤ 4) ∧ (0 ≤ w ∧ w ≤ 1) then (if w = 0 then nI ((100 - st) ^ nx x) / nI (eu 64 (100 ^ nx x) ((100 - st) ^ nx x)).1 else nI (100 ^ nx x) / nI (eu 64 (100 ^ nx x) ((100 - st) ^ nx x)).1) else -1
theorem n_100 {st : Nat} (h : st ≤ 100) : (100 : Int32) - nI st = nI (100 - st) := by
  have : nI (100 - st) + nI st = 100 := by rw [nI_add, show 100 - st + st = 100 by omega]; rfl
  rw [← this, Int32.add_sub_cancel]
theorem pw_lt {st : Nat} : ∀ n, n ≤ 4 → (100 - st) ^ n < 2 ^ 30 := by
  intro n hn
  have h1 : (100 - st) ^ n ≤ 100 ^ n := Nat.pow_le_pow_left (by omega) n
  have h2 : 100 ^ n ≤ 100 ^ 4 := Nat.pow_le_pow_right (by decide) hn
  have h3 : (100 : Nat) ^ 4 < 2 ^ 30 := by decide
  omega
theorem eu_st {st n : Nat} (hst : st ≤ 100) (hn : n ≤ 4) : (eu 64 (100 ^ n) ((100 - st) ^ n)).2 = 0 ∧ ¬ nI (eu 64 (100 ^ n) ((100 - st) ^ n)).1 = 0 := by
  have g := List.all_eq_true.mp eu_ok st (List.mem_range.mpr (by omega))
  have g := List.all_eq_true.mp g n (List.mem_range.mpr (by omega))
  rw [Bool.and_eq_true] at g
  have l := eu_lt 64 (100 ^ n) ((100 - st) ^ n) (pw_lt (st := 0) n hn) (pw_lt n hn)
  refine ⟨by simpa using g.1, ?_⟩
  rw [show (0 : Int32) = nI 0 from rfl, nI_eq (by omega) (by omega)]
  simpa using g.2
theorem x_odds {d t : Nat} {M : Mem} {K : Int32 → Mem → Prop} {F : List Int32} {st : Nat} {S S1 : Sh} {x w : Int32} (hX : CX M t F st S S1) (hst : st ≤ 100) (hK : K (aOdds st x w) M) : CI (d + 1) μX8_odds [.ref 0, .int x, .int w] M K := by
  refine sg_X8_odds_0 ?_
  unfold aOdds at hK
  by_cases h1 : x < 0
  · rw [if_pos h1]; rw [if_neg (fun q => absurd h1 (i_nlt.mpr q.1.1))] at hK; exact hK
  rw [if_neg h1]
  by_cases h2 : 4 < x
  · rw [if_pos h2]; rw [if_neg (fun q => absurd h2 (i_nlt.mpr q.1.2))] at hK; exact hK
  rw [if_neg h2]
  by_cases h3 : w < 0
  · rw [if_pos h3]; rw [if_neg (fun q => absurd h3 (i_nlt.mpr q.2.1))] at hK; exact hK
  rw [if_neg h3]
  by_cases h4 : w ≤ 1
  · rw [if_pos h4]
    rw [if_pos ⟨⟨i_nlt.mp h1, i_nlt.mp h2⟩, i_nlt.mp h3, h4⟩] at hK
    obtain ⟨n, hn, rfl⟩ := le_nat (i_nlt.mp h1) (i_nlt.mp h2) (k := 4) (by decide)
    rw [show nx (nI n) = n from nI_clamp (by omega)] at hK
    have loop : ∀ (f i : Nat), f + i = n → RI (d + 1) μX8_odds 28 [(0, .ref 0), (1, .int (nI n)), (2, .int w), (3, .int (nI ((100 - st) ^ i))), (4, .int (nI (100 ^ i))), (5, .int (nI i))] [] M K := by
      intro f
      induction f with
      | zero =>
        intro i hi
        have hi : i = n := by omega
        subst hi
        refine sg_X8_odds_28 ?_
        rw [if_pos (by rw [nI_leI (by omega) (by omega)]; omega)]
        have e := eu_st hst hn
        refine x_divisor (pw_lt (st := 0) i hn) (pw_lt i hn) ?_
        rw [if_neg e.2]
        by_cases hw : w = 0
        · rw [if_pos hw]; rw [if_pos hw] at hK; exact ⟨e.2, hK⟩
        · rw [if_neg hw]; rw [if_neg hw] at hK; exact ⟨e.2, hK⟩
      | succ f ih =>
        intro i hi
        refine sg_X8_odds_28 ?_
        rw [if_neg (by rw [nI_leI (by omega) (by omega)]; omega), nI_1]
        refine ⟨t, hX.1, (tell_kd hX.2.1).1, ?_⟩
        rw [hX.2.2.2.1, n_100 hst, n_mul, show (100 : Int32) = nI 100 from rfl, n_mul, ← Nat.pow_succ, ← Nat.pow_succ]
        exact ih (i + 1) (by omega)
    exact loop n 0 rfl
  · rw [if_neg h4]; rw [if_neg (fun q => h4 q.2.2)] at hK; exact hK
theorem m_power {d : Nat} {M : Mem} {K : Int32 → Mem → Prop} {b n : Nat} (hn : n < 100) (hK : K (nI (b ^ n)) M) : CI d μX9_power [.int (nI b), .int (nI n)] M K := by
  refine sg_X9_power_0 ?_
  have loop : ∀ (f i : Nat), f + i = n → RI d μX9_power 4 [(0, .int (nI b)), (1, .int (nI n)), (2, .int (nI (b ^ i))), (3, .int (nI i))] [] M K := by
    intro f
    induction f with
    | zero =>
      intro i hi
      have hi : i = n := by omega
      subst hi
      refine sg_X9_power_4 ?_
      rw [if_pos (by rw [nI_leI (by omega) (by omega)]; omega)]
      exact hK
    | succ f ih =>
      intro i hi
      refine sg_X9_power_4 ?_
      rw [if_neg (by rw [nI_leI (by omega) (by omega)]; omega), nI_1, n_mul, ← Nat.pow_succ]
      exact ih (i + 1) (by omega)
  exact loop n 0 rfl
theorem m_odds {d : Nat} {M : Mem} {K : Int32 → Mem → Prop} {F : List Int32} {st : Nat} {S S1 : Sh} {x w : Int32} (hR : CR M F st S S1) (hst : st ≤ 100) (hK : K (aOdds st x w) M) : CI (d + 1) μX9_odds [.ref 58, .int x, .int w] M K := by
  refine sg_X9_odds_0 (r_isIn ?_)
  unfold aOdds at hK
  by_cases h1 : 0 ≤ x ∧ x ≤ 4
  · rw [if_neg (bI_ne (decide_eq_true h1))]
    refine r_isIn ?_
    by_cases h2 : 0 ≤ w ∧ w ≤ 1
    · rw [if_neg (bI_ne (decide_eq_true h2))]
      rw [if_pos ⟨h1, h2⟩] at hK
      obtain ⟨n, hn, rfl⟩ := le_nat h1.1 h1.2 (k := 4) (by decide)
      rw [show nx (nI n) = n from nI_clamp (by omega)] at hK
      have e := eu_st hst hn
      rw [hR.2.2.2.2, n_100 hst]
      refine m_power (by omega) ?_
      refine m_power (b := 100) (by omega) ?_
      refine m_divisor (pw_lt (st := 0) n hn) (pw_lt n hn) e.1 ?_
      by_cases hw : w = 0
      · rw [if_pos hw]; rw [if_pos hw] at hK; exact ⟨e.2, hK⟩
      · rw [if_neg hw]; rw [if_neg hw] at hK; exact ⟨e.2, hK⟩
    · rw [if_pos (bI_eq (decide_eq_false h2))]
      rw [if_neg (fun q => h2 q.2)] at hK
      exact hK
  · rw [if_pos (bI_eq (decide_eq_false h1))]
    rw [if_neg (fun q => h1 q.1)] at hK
    exact hK
