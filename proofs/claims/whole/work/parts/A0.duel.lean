/-! two who prick a wall each -/
theorem mtI_rng {S : Sh} (hS : SOk S) {a b : Int32} (h : cmI S a b = true) : ∃ i j, i < sn S ∧ j < sn S ∧ a = nI i ∧ b = nI j := by
  unfold cmI at h
  rw [Bool.and_eq_true, Bool.and_eq_true] at h
  exact mtI_in hS h.1.1
/-- a takes in the lord y - 1, if that can be; y = 0: nobody -/
def mgO (T : Sh) (a y : Nat) : Sh := if cmI T (nI a) (nI y - 1) = true then mgS T a (y - 1) else T
theorem cm_arg {T : Sh} (hT : SOk T) {a y : Nat} (ha : a < 8) (hy : y ≤ 8) (h : cmI T (nI a) (nI y - 1) = true) : 1 ≤ y ∧ nI y - 1 = nI (y - 1) ∧ a < sn T ∧ y - 1 < sn T := by
  obtain ⟨i, j, hi, hj, e1, e⟩ := mtI_rng hT h
  have h8 := hT.1
  have e1 := nI_inj (by omega) (by omega) e1
  subst e1
  cases y with
  | zero =>
    have : (nI 0 - 1 : Int32) < 0 := z_neg
    rw [e] at this
    exact absurd this (i_nlt.mpr (by rw [show (0 : Int32) = nI 0 from rfl, nI_leI (by omega) (by omega)]; omega))
  | succ y =>
    have e3 := nI_pred y
    rw [e3] at e
    have := nI_inj (by omega) (by omega) e
    exact ⟨by omega, e3, hi, by omega⟩
theorem mgO_ok {T : Sh} (hG : GS T) {a y : Nat} (ha : a < 8) (hy : y ≤ 8) : GS (mgO T a y) ∧ sn (mgO T a y) = sn T := by
  unfold mgO
  split
  · rename_i h
    obtain ⟨_, e3, h3, h4⟩ := cm_arg hG.1 ha hy h
    rw [e3] at h
    exact ⟨GS_pop hG h3 h4 h, rfl⟩
  · exact ⟨hG, rfl⟩
theorem x_mg {d a y : Nat} {M : Mem} {K : Int32 → Mem → Prop} {T : Sh} (hF : Fr M 33 T) (ha : a < 8) (hy : y ≤ 8) (hK : ∀ r M', Sm M M' 33 → Fr M' 33 (mgO T a y) → K r M') : CI (d + 3) μX2_merge [.ref 33, .int (nI a), .int (nI y - 1)] M K := by
  have h8 := hF.2.2.1
  refine c_merge (by decide +kernel) hF (fun h => hK 0 M Sm.rf (by unfold mgO; rw [h]; exact hF)) (fun i j M' e1 e2 hi hj hc s f => ?_)
  refine hK 1 M' s ?_
  unfold mgO
  rw [if_pos hc]
  have e1 := nI_inj (by omega) (by omega) e1
  obtain ⟨_, e3, _, h4⟩ := cm_arg hF.2.2 ha hy hc
  have e2 := nI_inj (by omega) (by omega) (e3.symm.trans e2)
  rw [e1, e2]; exact f
/-- whom a may take in, as bits moved by 1; bit 0: nobody -/
def chF (S : Sh) (a b : Nat) : Nat → Nat
  | 0 => 1
  | t + 1 => chF S a b t ||| if t ≠ b ∧ cmI S (nI a) (nI t) = true then 2 ^ (t + 1) else 0
theorem chF_lt (S : Sh) (a b : Nat) : ∀ t, t ≤ 8 → chF S a b t < 2 ^ 9
  | 0, _ => (by decide : (1 : Nat) < 2 ^ 9)
  | t + 1, h => by
    show chF S a b t ||| _ < 2 ^ 9
    refine Nat.or_lt_two_pow (chF_lt S a b t (by omega)) ?_
    split
    · exact Nat.pow_lt_pow_right (by decide) (by omega)
    · decide
theorem chF_bit (S : Sh) (a b : Nat) : ∀ t x, (chF S a b t).testBit (x + 1) = true → x < t ∧ cmI S (nI a) (nI x) = true
  | 0, x, h => by
    have : (1 : Nat).testBit (x + 1) = false := by rw [Nat.testBit_succ]; simp
    have h2 : (1 : Nat).testBit (x + 1) = true := h
    rw [this] at h2; cases h2
  | t + 1, x, h => by
    have h : (chF S a b t ||| if t ≠ b ∧ cmI S (nI a) (nI t) = true then 2 ^ (t + 1) else 0).testBit (x + 1) = true := h
    rw [Nat.testBit_or, Bool.or_eq_true] at h
    rcases h with h | h
    · have := chF_bit S a b t x h
      exact ⟨by omega, this.2⟩
    · split at h
      · rename_i hc
        rw [Nat.testBit_two_pow, decide_eq_true_iff] at h
        have : t = x := by omega
        subst this
        exact ⟨by omega, hc.2⟩
      · rw [Nat.zero_testBit] at h; cases h
theorem sh_2 : ∀ t, t < 8 → (2 : Int32) <<< (nI t &&& 31) = nI (2 ^ (t + 1)) := by decide +kernel
theorem x_choices {d : Nat} {M : Mem} {K : Int32 → Mem → Prop} {S : Sh} {a b : Nat} (hF : Fr M 27 S) (ha : a < 8) (hb : b < 8) (hK : K (nI (chF S a b (sn S))) M) : CI (d + 3) μX0_choicesOf [.ref 27, .int (nI a), .int (nI b)] M K := by
  have h8 := hF.2.2.1
  refine sg_X0_choicesOf_0 (by decide +kernel) ?_
  have loop : ∀ (r t : Nat), r + t = sn S → RI (d + 3) μX0_choicesOf 5 [(0, .ref 27), (1, .int (nI a)), (2, .int (nI b)), (3, .int (nI (chF S a b t))), (4, .int (nI t))] [] M K := by
    intro r
    induction r with
    | zero =>
      intro t ht
      have ht : t = sn S := by omega
      subst ht
      refine sg_X0_choicesOf_5 (by decide +kernel) ?_
      rw [hF.1.1, if_pos (by rw [nI_leI (by omega) (by omega)]; omega)]
      exact hK
    | succ r ih =>
      intro t ht
      have h := ih (t + 1) (by omega)
      have e : chF S a b (t + 1) = chF S a b t ||| if t ≠ b ∧ cmI S (nI a) (nI t) = true then 2 ^ (t + 1) else 0 := rfl
      rw [e] at h
      refine sg_X0_choicesOf_5 (by decide +kernel) ?_
      rw [hF.1.1, if_neg (by rw [nI_leI (by omega) (by omega)]; omega), nI_1]
      by_cases htb : t = b
      · rw [if_pos (by rw [htb])]
        rw [if_neg (fun q => q.1 htb), Nat.or_zero] at h
        exact h
      · rw [if_neg (fun q => htb (nI_inj (by omega) (by omega) q))]
        refine c_canMerge (by decide +kernel) hF ?_
        cases hc : cmI S (nI a) (nI t) with
        | false =>
          rw [if_pos (by decide)]
          rw [if_neg (fun q => by rw [hc] at q; cases q.2), Nat.or_zero] at h
          exact h
        | true =>
          rw [if_neg (by decide), n_shl (by omega), n_or]
          rw [if_pos ⟨htb, hc⟩] at h
          exact h
  exact loop (sn S) 0 (by omega)
theorem m_takes {d : Nat} {M : Mem} {K : Int32 → Mem → Prop} {S : Sh} {a b : Nat} (hS : SOk S) (hA : Ar M 69 S) (h35 : ri M 58 35 = nI (sn S)) (ha : a < sn S) (hb : b < sn S) (hK : K (nI (chF S a b (sn S))) M) : CI (d + 4) μX9_takes [.ref 58, .int (nI a), .int (nI b)] M K := by
  have h8 := hS.1
  refine sg_X9_takes_0 ?_
  have loop : ∀ (r t : Nat), r + t = sn S → RI (d + 4) μX9_takes 5 [(0, .ref 58), (1, .int (nI a)), (2, .int (nI b)), (3, .int (nI (chF S a b t))), (4, .int (nI t))] [] M K := by
    intro r
    induction r with
    | zero =>
      intro t ht
      have ht : t = sn S := by omega
      subst ht
      refine sg_X9_takes_5 ?_
      rw [h35, if_pos (by rw [nI_leI (by omega) (by omega)]; omega)]
      exact hK
    | succ r ih =>
      intro t ht
      have h := ih (t + 1) (by omega)
      have e : chF S a b (t + 1) = chF S a b t ||| if t ≠ b ∧ cmI S (nI a) (nI t) = true then 2 ^ (t + 1) else 0 := rfl
      rw [e] at h
      refine sg_X9_takes_5 ?_
      rw [h35, if_neg (by rw [nI_leI (by omega) (by omega)]; omega), nI_1]
      by_cases htb : t = b
      · rw [if_pos (by rw [htb])]
        rw [if_neg (fun q => q.1 htb), Nat.or_zero] at h
        exact h
      · rw [if_neg (fun q => htb (nI_inj (by omega) (by omega) q))]
        refine r_canPop ha (by omega) hS hA ?_
        cases hc : cmI S (nI a) (nI t) with
        | false =>
          rw [if_pos (by decide)]
          rw [if_neg (fun q => by rw [hc] at q; cases q.2), Nat.or_zero] at h
          exact h
        | true =>
          rw [if_neg (by decide), sh_2 t (by omega), n_or]
          rw [if_pos ⟨htb, hc⟩] at h
          exact h
  exact loop (sn S) 0 (by omega)
/-- may a choose x and b choose y; what comes of it -/
def mBd (S : Sh) (a b x y : Nat) : Bool := (chF S a b (sn S)).testBit x && (chF S b a (sn S)).testBit y
def dS (S : Sh) (a b x y : Nat) : Sh := mgO (mgO S a x) b y
def gA (S : Sh) (a b x y : Nat) : Nat := dgm (sc (dS S a b x y)) a
def gB (S : Sh) (a b x y : Nat) : Nat := dgm (sc (dS S a b x y)) b
def rsO (S : Sh) (a b x y o : Nat) : Bool := (!(chF S a b (sn S)).testBit o || decide (gA S a b o y ≤ gA S a b x y)) && (!(chF S b a (sn S)).testBit o || decide (gB S a b x o ≤ gB S a b x y))
/-- nobody gains by another choice from o on -/
def isR (S : Sh) (a b x y : Nat) : Nat → Nat → Bool
  | 0, _ => true
  | r + 1, o => rsO S a b x y o && isR S a b x y r (o + 1)
def rsP (S : Sh) (a b k : Nat) : Bool := mBd S a b (k / 9) (k % 9) && isR S a b (k / 9) (k % 9) 9 0
def dlF (P : Nat → Bool) : Nat → Nat × Nat → Nat × Nat
  | 0, s => s
  | r + 1, s => dlF P r (if P (81 - (r + 1)) = true then (s.1 + 1, if s.1 = 0 then 81 - (r + 1) else s.2) else s)
theorem dlF_at {P : Nat → Bool} {r k : Nat} {s : Nat × Nat} (e : r + 1 + k = 81) : dlF P (r + 1) s = dlF P r (if P k = true then (s.1 + 1, if s.1 = 0 then k else s.2) else s) := by
  show dlF P r (if P (81 - (r + 1)) = true then (s.1 + 1, if s.1 = 0 then 81 - (r + 1) else s.2) else s) = _
  rw [show 81 - (r + 1) = k by omega]
def dlR (S : Sh) (a b : Nat) : Nat × Nat := dlF (rsP S a b) 81 (0, 0)
def dlL (s : Nat × Nat) : List Int32 := if s.1 = 0 then [] else [nI (s.2 / 9) - 1, nI (s.2 % 9) - 1]
def TbX (M : Mem) (S : Sh) (a b k : Nat) (r1 r2 : Nat) : Prop := ∀ i, i < k → mBd S a b (i / 9) (i % 9) = true → ri M r1 i = nI (gA S a b (i / 9) (i % 9)) ∧ ri M r2 i = nI (gB S a b (i / 9) (i % 9))
theorem x_mayBe {d : Nat} {M : Mem} {K : Int32 → Mem → Prop} {S : Sh} {a b x y : Nat} (h8 : sn S ≤ 8) (h4 : ri M 45 4 = nI (chF S a b (sn S))) (h5 : ri M 45 5 = nI (chF S b a (sn S))) (hx : x < 9) (hy : y < 9) (hK : K (bI (mBd S a b x y)) M) : CI d μX0_mayBe [.ref 45, .int (nI x), .int (nI y)] M K := by
  refine sg_X0_mayBe_0 ?_
  have l1 := chF_lt S a b (sn S) h8
  have l2 := chF_lt S b a (sn S) h8
  rw [h4, h5, n_bit (by omega) (by omega), n_bit (by omega) (by omega)]
  unfold mBd at hK
  cases q1 : (chF S a b (sn S)).testBit x <;> cases q2 : (chF S b a (sn S)).testBit y <;> rw [q1, q2] at hK <;> simp <;> exact hK
theorem n_99 (x y : Nat) : nI x * 9 + nI y = nI (9 * x + y) := by
  rw [show (9 : Int32) = nI 9 from rfl, n_mul, nI_add, Nat.mul_comm]
theorem n_9 (x y : Nat) : 9 * nI x + nI y = nI (9 * x + y) := by
  rw [show (9 : Int32) = nI 9 from rfl, n_mul, nI_add]
theorem gA_lt {S : Sh} (hG : GS S) {a b x y : Nat} (ha : a < 8) (hb : b < 8) (hx : x ≤ 8) (hy : y ≤ 8) : gA S a b x y ≤ 12 ∧ gB S a b x y ≤ 12 := by
  have g1 := mgO_ok hG ha hx
  have g2 := mgO_ok g1.1 hb hy
  have h12 := g2.1.1.2.2.1
  have d1 := dgm_le (sc (dS S a b x y)) a
  have d2 := dgm_le (sc (dS S a b x y)) b
  unfold gA gB dS at *
  omega
theorem x_isRest {d : Nat} {M : Mem} {K : Int32 → Mem → Prop} {S : Sh} {a b x y : Nat} (hG : GS S) (ha : a < 8) (hb : b < 8) (h4 : ri M 45 4 = nI (chF S a b (sn S))) (h5 : ri M 45 5 = nI (chF S b a (sn S))) (hT : TbX M S a b 81 46 47) (hx : x < 9) (hy : y < 9) (hm : mBd S a b x y = true) (hK : K (bI (isR S a b x y 9 0)) M) : CI (d + 1) μX0_isRest [.ref 45, .int (nI x), .int (nI y)] M K := by
  have h8 := hG.1.1
  have hm2 := hm
  unfold mBd at hm2
  rw [Bool.and_eq_true] at hm2
  have tab : ∀ u v, u < 9 → v < 9 → mBd S a b u v = true → ri M 46 (9 * u + v) = nI (gA S a b u v) ∧ ri M 47 (9 * u + v) = nI (gB S a b u v) := by
    intro u v hu hv hmb
    have := hT (9 * u + v) (by omega) (by rw [show (9 * u + v) / 9 = u by omega, show (9 * u + v) % 9 = v by omega]; exact hmb)
    rw [show (9 * u + v) / 9 = u by omega, show (9 * u + v) % 9 = v by omega] at this
    exact this
  refine sg_X0_isRest_0 ?_
  have loop : ∀ (r o : Nat), r + o = 9 → K (bI (isR S a b x y r o)) M → RI (d + 1) μX0_isRest 2 [(0, .ref 45), (1, .int (nI x)), (2, .int (nI y)), (3, .int (nI o))] [] M K := by
    intro r
    induction r with
    | zero =>
      intro o ho hk
      refine sg_X0_isRest_2 ?_
      rw [if_pos (by rw [show (9 : Int32) = nI 9 from rfl, nI_leI (by omega) (by omega)]; omega)]
      exact hk
    | succ r ih =>
      intro o ho hk
      have hk : K (bI (rsO S a b x y o && isR S a b x y r (o + 1))) M := hk
      unfold rsO at hk
      -- the second half
      have half : K (bI ((!(chF S b a (sn S)).testBit o || decide (gB S a b x o ≤ gB S a b x y)) && isR S a b x y r (o + 1))) M → RI (d + 1) μX0_isRest 44 [(0, .ref 45), (1, .int (nI x)), (2, .int (nI y)), (3, .int (nI o))] [] M K := by
        intro hk
        refine sg_X0_isRest_44 (x_mayBe h8 h4 h5 hx (by omega) ?_)
        rw [nI_1]
        have e : mBd S a b x o = (chF S b a (sn S)).testBit o := by unfold mBd; rw [hm2.1, Bool.true_and]
        rw [e]
        cases hc : (chF S b a (sn S)).testBit o with
        | false =>
          rw [if_pos (by decide)]
          rw [hc, Bool.not_false, Bool.true_or, Bool.true_and] at hk
          exact ih (o + 1) (by omega) hk
        | true =>
          rw [if_neg (by decide), n_99, n_99, show nx (nI (9 * x + o)) = 9 * x + o from nI_clamp (by omega), show nx (nI (9 * x + y)) = 9 * x + y from nI_clamp (by omega), (tab x o hx (by omega) (by rw [e, hc])).2, (tab x y hx hy hm).2]
          refine ⟨n_in (by omega) (by decide), n_in (by omega) (by decide), ?_⟩
          have g1 := (gA_lt hG ha hb (show x ≤ 8 by omega) (show o ≤ 8 by omega)).2
          have g2 := (gA_lt hG ha hb (show x ≤ 8 by omega) (show y ≤ 8 by omega)).2
          rw [hc, Bool.not_true, Bool.false_or] at hk
          by_cases hle : gB S a b x o ≤ gB S a b x y
          · rw [if_pos (by rw [nI_leI (by omega) (by omega)]; exact hle)]
            rw [decide_eq_true hle, Bool.true_and] at hk
            exact ih (o + 1) (by omega) hk
          · rw [if_neg (by rw [nI_leI (by omega) (by omega)]; exact hle)]
            rw [decide_eq_false hle, Bool.false_and] at hk
            exact hk
      refine sg_X0_isRest_2 ?_
      rw [if_neg (by rw [show (9 : Int32) = nI 9 from rfl, nI_leI (by omega) (by omega)]; omega)]
      refine x_mayBe h8 h4 h5 (by omega) hy ?_
      have e : mBd S a b o y = (chF S a b (sn S)).testBit o := by unfold mBd; rw [hm2.2, Bool.and_true]
      rw [e]
      cases hc : (chF S a b (sn S)).testBit o with
      | false =>
        rw [if_pos (by decide)]
        rw [hc, Bool.not_false, Bool.true_or, Bool.true_and] at hk
        exact half hk
      | true =>
        rw [if_neg (by decide), n_99, n_99, show nx (nI (9 * o + y)) = 9 * o + y from nI_clamp (by omega), show nx (nI (9 * x + y)) = 9 * x + y from nI_clamp (by omega), (tab o y (by omega) hy (by rw [e, hc])).1, (tab x y hx hy hm).1]
        refine ⟨n_in (by omega) (by decide), n_in (by omega) (by decide), ?_⟩
        have g1 := (gA_lt hG ha hb (show o ≤ 8 by omega) (show y ≤ 8 by omega)).1
        have g2 := (gA_lt hG ha hb (show x ≤ 8 by omega) (show y ≤ 8 by omega)).1
        rw [hc, Bool.not_true, Bool.false_or] at hk
        by_cases hle : gA S a b o y ≤ gA S a b x y
        · rw [if_pos (by rw [nI_leI (by omega) (by omega)]; exact hle)]
          rw [decide_eq_true hle, Bool.true_and] at hk
          exact half hk
        · rw [if_neg (by rw [nI_leI (by omega) (by omega)]; exact hle)]
          rw [decide_eq_false hle, Bool.false_and, Bool.false_and] at hk
          exact hk
  exact loop 9 0 rfl hK
