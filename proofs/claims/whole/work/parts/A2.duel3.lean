/-! pricks, the model -/
theorem n_d9 {k : Nat} (hk : k < 81) : nI k / 9 = nI (k / 9) ∧ nI k - nI (k / 9) * 9 = nI (k % 9) := by
  have h1 : nI k / 9 = nI (k / 9) := by rw [show (9 : Int32) = nI 9 from rfl]; exact pk_div (by omega) (by omega) (by omega)
  refine ⟨h1, ?_⟩
  rw [← h1, show (9 : Int32) = nI 9 from rfl]
  exact pk_rem (by omega) (by omega) (by omega)
theorem nI_sa (x : Nat) : (nI x - 1) + 1 = nI x := Int32.sub_add_cancel _ _
theorem nI_neg {x : Nat} (hx : x ≤ 8) : (nI x - 1 < 0) ↔ x = 0 := by
  cases x with
  | zero => exact ⟨fun _ => rfl, fun _ => z_neg⟩
  | succ x =>
    rw [nI_pred]
    refine ⟨fun h => absurd h (i_nlt.mpr (by rw [show (0 : Int32) = nI 0 from rfl, nI_leI (by omega) (by omega)]; omega)), fun h => by omega⟩
theorem m_isRest {d : Nat} {M : Mem} {K : Int32 → Mem → Prop} {S : Sh} {a b x y : Nat} (hG : GS S) (ha : a < 8) (hb : b < 8) (h4 : ri M 58 48 = nI (chF S a b (sn S))) (h5 : ri M 58 49 = nI (chF S b a (sn S))) (hT : TbX M S a b 81 76 77) (hx : x < 9) (hy : y < 9) (hm : mBd S a b x y = true) (hK : K (bI (isR S a b x y 9 0)) M) : CI d μX9_isRest [.ref 58, .int (nI x), .int (nI y)] M K := by
  have h8 := hG.1.1
  have l1 := chF_lt S a b (sn S) h8
  have l2 := chF_lt S b a (sn S) h8
  have hm2 := hm
  unfold mBd at hm2
  rw [Bool.and_eq_true] at hm2
  have tab : ∀ u v, u < 9 → v < 9 → mBd S a b u v = true → ri M 76 (9 * u + v) = nI (gA S a b u v) ∧ ri M 77 (9 * u + v) = nI (gB S a b u v) := by
    intro u v hu hv hmb
    have := hT (9 * u + v) (by omega) (by rw [show (9 * u + v) / 9 = u by omega, show (9 * u + v) % 9 = v by omega]; exact hmb)
    rw [show (9 * u + v) / 9 = u by omega, show (9 * u + v) % 9 = v by omega] at this
    exact this
  refine sg_X9_isRest_0 ?_
  have loop : ∀ (r o : Nat) (ok : Bool), r + o = 9 → K (bI (ok && isR S a b x y r o)) M → RI d μX9_isRest 5 [(0, .ref 58), (1, .int (nI x)), (2, .int (nI y)), (3, .int (bI ok)), (4, .int (nI o))] [] M K := by
    intro r
    induction r with
    | zero =>
      intro o ok ho hk
      refine sg_X9_isRest_5 ?_
      rw [if_pos (by rw [show (9 : Int32) = nI 9 from rfl, nI_leI (by omega) (by omega)]; omega)]
      have hk : K (bI (ok && true)) M := hk
      rw [Bool.and_true] at hk
      exact ⟨bI_01 ok, hk⟩
    | succ r ih =>
      intro o ok ho hk
      have hk : K (bI (ok && (rsO S a b x y o && isR S a b x y r (o + 1)))) M := hk
      unfold rsO at hk
      have half : ∀ ok2 : Bool, K (bI (ok2 && ((!(chF S b a (sn S)).testBit o || decide (gB S a b x o ≤ gB S a b x y)) && isR S a b x y r (o + 1)))) M → RI d μX9_isRest 61 [(0, .ref 58), (1, .int (nI x)), (2, .int (nI y)), (3, .int (bI ok2)), (4, .int (nI o))] [] M K := by
        intro ok2 hk
        refine sg_X9_isRest_61 ?_
        rw [h5, n_bit (by omega) (by omega), nI_1]
        cases hc : (chF S b a (sn S)).testBit o with
        | false =>
          rw [if_neg (by decide)]
          rw [hc, Bool.not_false, Bool.true_or, Bool.true_and] at hk
          exact ih (o + 1) ok2 (by omega) hk
        | true =>
          rw [if_pos (by decide)]
          rw [hc, Bool.not_true, Bool.false_or] at hk
          cases ok2 with
          | false =>
            rw [if_pos (by decide)]
            exact ih (o + 1) false (by omega) hk
          | true =>
            have e : mBd S a b x o = true := by unfold mBd; rw [hm2.1, hc]; rfl
            rw [if_neg (by decide), n_9, n_9, show nx (nI (9 * x + o)) = 9 * x + o from nI_clamp (by omega), show nx (nI (9 * x + y)) = 9 * x + y from nI_clamp (by omega), (tab x o hx (by omega) e).2, (tab x y hx hy hm).2]
            refine ⟨n_in (by omega) (by decide), n_in (by omega) (by decide), ?_⟩
            have g1 := (gA_lt hG ha hb (show x ≤ 8 by omega) (show o ≤ 8 by omega)).2
            have g2 := (gA_lt hG ha hb (show x ≤ 8 by omega) (show y ≤ 8 by omega)).2
            by_cases hle : gB S a b x o ≤ gB S a b x y
            · rw [if_neg (by rw [nI_ltI (by omega) (by omega)]; omega)]
              rw [decide_eq_true hle, Bool.true_and] at hk
              exact ih (o + 1) true (by omega) hk
            · rw [if_pos (by rw [nI_ltI (by omega) (by omega)]; omega)]
              rw [decide_eq_false hle, Bool.false_and] at hk
              exact ih (o + 1) false (by omega) hk
      refine sg_X9_isRest_5 ?_
      rw [if_neg (by rw [show (9 : Int32) = nI 9 from rfl, nI_leI (by omega) (by omega)]; omega), h4, n_bit (by omega) (by omega)]
      cases hc : (chF S a b (sn S)).testBit o with
      | false =>
        rw [if_neg (by decide)]
        rw [hc, Bool.not_false, Bool.true_or, Bool.true_and] at hk
        exact half ok hk
      | true =>
        rw [if_pos (by decide)]
        rw [hc, Bool.not_true, Bool.false_or] at hk
        cases ok with
        | false => rw [if_pos (by decide)]; exact half false hk
        | true =>
          have e : mBd S a b o y = true := by unfold mBd; rw [hm2.2, hc]; rfl
          rw [if_neg (by decide), n_9, n_9, show nx (nI (9 * o + y)) = 9 * o + y from nI_clamp (by omega), show nx (nI (9 * x + y)) = 9 * x + y from nI_clamp (by omega), (tab o y (by omega) hy e).1, (tab x y hx hy hm).1]
          refine ⟨n_in (by omega) (by decide), n_in (by omega) (by decide), ?_⟩
          have g1 := (gA_lt hG ha hb (show o ≤ 8 by omega) (show y ≤ 8 by omega)).1
          have g2 := (gA_lt hG ha hb (show x ≤ 8 by omega) (show y ≤ 8 by omega)).1
          by_cases hle : gA S a b o y ≤ gA S a b x y
          · rw [if_neg (by rw [nI_ltI (by omega) (by omega)]; omega)]
            rw [decide_eq_true hle, Bool.true_and] at hk
            exact half true hk
          · rw [if_pos (by rw [nI_ltI (by omega) (by omega)]; omega)]
            rw [decide_eq_false hle, Bool.false_and, Bool.false_and] at hk
            exact half false hk
  exact loop 9 0 true rfl hK
theorem mgO_f {T : Sh} {a y : Nat} (h : ¬ cmI T (nI a) (nI y - 1) = true) : mgO T a y = T := if_neg h
theorem mgO_t {T : Sh} {a y : Nat} (h : cmI T (nI a) (nI y - 1) = true) : mgO T a y = mgS T a (y - 1) := if_pos h
theorem q_w48 {M : Mem} {x : Int32} : Q M (wi M 58 48 x) := ⟨fun k j _ b => by rw [ri_wi, if_neg (fun q => b ⟨q.1, by omega⟩)], fun _ _ => rfl⟩
theorem q_w49 {M : Mem} {x : Int32} : Q M (wi M 58 49 x) := ⟨fun k j _ b => by rw [ri_wi, if_neg (fun q => b ⟨q.1, by omega⟩)], fun _ _ => rfl⟩
theorem Q_sc {M M' : Mem} (h : Sa M M') (k j : Nat) (hk : k ≠ 69) : ri M' k j = ri M k j := h.1 k hk j
theorem m_layPricks {d : Nat} {M : Mem} {K : Mem → Prop} {F : List Int32} {st : Nat} {S S1 : Sh} {a b : Nat} (hR : CR M F st S S1) (hG : GS S) (ha : a < sn S) (hb : b < sn S) (hK : ∀ M', Q M M' → ri M' 58 48 = nI (chF S a b (sn S)) → ri M' 58 49 = nI (chF S b a (sn S)) → TbX M' S a b 81 76 77 → K M') : CV (d + 5) μX9_layPricks [.ref 58, .int (nI a), .int (nI b)] M K := by
  have hS := hG.1
  have h8 := hS.1
  have l1 := chF_lt S a b (sn S) h8
  have l2 := chF_lt S b a (sn S) h8
  refine sg_X9_layPricks_0 ?_
  refine r_fillS hR hS (fun M1 q1 a1 c1 => ?_)
  refine m_takes hS a1 c1.2.2.2.1 ha hb (fun M2 h2 => ?_)
  have r2 : ∀ k j, ri M2 k j = if k = 58 ∧ j = 48 then nI (chF S a b (sn S)) else ri M1 k j := by intro k j; rw [h2, ri_wi]
  have q2 : Q M M2 := q1.trans (by rw [h2]; exact q_w48)
  have a2 : Ar M2 69 S := a1.keepE (fun j => by rw [r2, if_neg (by omega)])
  refine m_takes hS a2 (hR.keep q2).2.2.2.1 hb ha (fun M3 h3 => ?_)
  have r3 : ∀ k j, ri M3 k j = if k = 58 ∧ j = 49 then nI (chF S b a (sn S)) else ri M2 k j := by intro k j; rw [h3, ri_wi]
  have q3 : Q M M3 := q2.trans (by rw [h3]; exact q_w49)
  have e48 : ri M3 58 48 = nI (chF S a b (sn S)) := by rw [r3, if_neg (by omega), r2, if_pos ⟨rfl, rfl⟩]
  have e49 : ri M3 58 49 = nI (chF S b a (sn S)) := by rw [r3, if_pos ⟨rfl, rfl⟩]
  have loop : ∀ (r k : Nat) (M4 : Mem), r + k = 81 → Q M M4 → ri M4 58 48 = nI (chF S a b (sn S)) → ri M4 58 49 = nI (chF S b a (sn S)) → TbX M4 S a b k 76 77 → RV (d + 5) μX9_layPricks 26 [(0, .ref 58), (1, .int (nI a)), (2, .int (nI b)), (3, .int (nI k))] [] M4 K := by
    intro r
    induction r with
    | zero =>
      intro k M4 hk q4 e48 e49 hT
      have hk : k = 81 := by omega
      subst hk
      refine sg_X9_layPricks_26 ?_
      rw [if_pos (by decide)]
      exact hK M4 q4 e48 e49 hT
    | succ r ih =>
      intro k M4 hk q4 e48 e49 hT
      have d9 := n_d9 (show k < 81 by omega)
      have hx : k / 9 < 9 := by omega
      have hy : k % 9 < 9 := by omega
      refine sg_X9_layPricks_26 ?_
      rw [if_neg (by rw [show (81 : Int32) = nI 81 from rfl, nI_leI (by omega) (by omega)]; omega), d9.1, d9.2, nI_sa, nI_sa, e48, e49, n_bit (by omega) (by omega), n_bit (by omega) (by omega), nI_1]
      have skip : mBd S a b (k / 9) (k % 9) = false → RV (d + 5) μX9_layPricks 26 [(0, .ref 58), (1, .int (nI a)), (2, .int (nI b)), (3, .int (nI (k + 1)))] [] M4 K := by
        intro hf
        refine ih (k + 1) M4 (by omega) q4 e48 e49 (fun i hi hmb => ?_)
        by_cases hik : i = k
        · subst hik; rw [hf] at hmb; cases hmb
        · exact hT i (by omega) hmb
      cases b1 : (chF S a b (sn S)).testBit (k / 9) with
      | false => rw [if_pos (by decide)]; exact skip (by unfold mBd; rw [b1, Bool.false_and])
      | true =>
        rw [if_neg (by decide)]
        cases b2 : (chF S b a (sn S)).testBit (k % 9) with
        | false => rw [if_pos (by decide)]; exact skip (by unfold mBd; rw [b2, Bool.and_false])
        | true =>
          rw [if_neg (by decide)]
          refine r_fill (fun M5 s5 e5 => ?_)
          have a5 : Ar M5 69 S := (hR.keep q4).1.copy hS.2.2.1 e5
          -- the end: both sides' sides are written
          have fin : ∀ (M6 : Mem), Sa M4 M6 → Ar M6 69 (dS S a b (k / 9) (k % 9)) → RV (d + 5) μX9_layPricks 117 [(0, .ref 58), (1, .int (nI a)), (2, .int (nI b)), (3, .int (nI k)), (4, .int (nI (k / 9) - 1)), (5, .int (nI (k % 9) - 1))] [] M6 K := by
            intro M6 s6 a6
            have gd := mgO_ok (mgO_ok hG (show a < 8 by omega) (show k / 9 ≤ 8 by omega)).1 (show b < 8 by omega) (show k % 9 ≤ 8 by omega)
            refine sg_X9_layPricks_117 (r_sidesOf (by omega) gd.1.1 a6 ?_)
            rw [show nx (nI k) = k from nI_clamp (by omega), nI_1]
            refine ⟨n_in (by omega) (by decide), fun M7 h7 => ?_⟩
            have r7 : ∀ k' j, ri M7 k' j = if k' = 76 ∧ j = k then nI (gA S a b (k / 9) (k % 9)) else ri M6 k' j := by intro k' j; rw [h7, ri_wi]; rfl
            have a7 : Ar M7 69 (dS S a b (k / 9) (k % 9)) := a6.keepE (fun j => by rw [r7, if_neg (by omega)])
            refine r_sidesOf (by omega) gd.1.1 a7 ⟨n_in (by omega) (by decide), fun M8 h8' => ?_⟩
            have r8 : ∀ k' j, ri M8 k' j = if k' = 77 ∧ j = k then nI (gB S a b (k / 9) (k % 9)) else ri M7 k' j := by intro k' j; rw [h8', ri_wi]; rfl
            have old : ∀ k' j, k' ≠ 69 → ri M6 k' j = ri M4 k' j := fun k' j h => s6.1 k' h j
            refine ih (k + 1) M8 (by omega) (q4.trans (s6.q.trans (by rw [h8', h7]; exact (Q.wi rfl).trans (Q.wi rfl)))) (by rw [r8, if_neg (by omega), r7, if_neg (by omega), old _ _ (by omega)]; exact e48) (by rw [r8, if_neg (by omega), r7, if_neg (by omega), old _ _ (by omega)]; exact e49) (fun i hi hmb => ?_)
            by_cases hik : i = k
            · subst hik
              rw [r8, if_neg (by omega), r7, if_pos ⟨rfl, rfl⟩, r8, if_pos ⟨rfl, rfl⟩]
              exact ⟨rfl, rfl⟩
            · rw [r8, if_neg (by omega), r7, if_neg (by omega), r8, if_neg (by omega), r7, if_neg (by omega), old _ _ (by omega), old _ _ (by omega)]
              exact hT i (by omega) hmb
          -- the second one
          have second : ∀ (M6 : Mem), Sa M4 M6 → Ar M6 69 (mgO S a (k / 9)) → RV (d + 5) μX9_layPricks 95 [(0, .ref 58), (1, .int (nI a)), (2, .int (nI b)), (3, .int (nI k)), (4, .int (nI (k / 9) - 1)), (5, .int (nI (k % 9) - 1))] [] M6 K := by
            intro M6 s6 a6
            have g1 := mgO_ok hG (show a < 8 by omega) (show k / 9 ≤ 8 by omega)
            refine sg_X9_layPricks_95 ?_
            by_cases hy0 : k % 9 = 0
            · rw [if_pos ((nI_neg (by omega)).mpr hy0)]
              refine fin M6 s6 ?_
              have e : dS S a b (k / 9) (k % 9) = mgO S a (k / 9) := by
                refine mgO_f ?_
                intro hc
                have := (cm_arg g1.1.1 (show b < 8 by omega) (show k % 9 ≤ 8 by omega) hc).1
                omega
              rw [e]; exact a6
            · rw [if_neg (fun q => hy0 ((nI_neg (by omega)).mp q))]
              have ey : nI (k % 9) - 1 = nI (k % 9 - 1) := by
                have := nI_pred (k % 9 - 1)
                rw [show k % 9 - 1 + 1 = k % 9 by omega] at this
                exact this
              rw [ey]
              have hyn := (chF_bit S b a (sn S) (k % 9 - 1) (by rw [show k % 9 - 1 + 1 = k % 9 by omega]; exact b2)).1
              refine r_canPop (S := mgO S a (k / 9)) (by rw [g1.2]; exact hb) (by rw [g1.2]; exact hyn) g1.1.1 a6 ?_
              have back : ∀ {M7 : Mem}, RV (d + 5) μX9_layPricks 117 [(0, .ref 58), (1, .int (nI a)), (2, .int (nI b)), (3, .int (nI k)), (4, .int (nI (k / 9) - 1)), (5, .int (nI (k % 9) - 1))] [] M7 K → RV (d + 5) μX9_layPricks 117 [(0, .ref 58), (1, .int (nI a)), (2, .int (nI b)), (3, .int (nI k)), (4, .int (nI (k / 9) - 1)), (5, .int (nI (k % 9 - 1)))] [] M7 K := fun h => by rw [ey] at h; exact h
              cases hc : cmI (mgO S a (k / 9)) (nI b) (nI (k % 9 - 1)) with
              | false =>
                rw [if_pos (by decide)]
                refine back (fin M6 s6 ?_)
                have e : dS S a b (k / 9) (k % 9) = mgO S a (k / 9) := by
                  refine mgO_f ?_
                  intro hc2
                  rw [ey, hc] at hc2; cases hc2
                rw [e]; exact a6
              | true =>
                rw [if_neg (by decide)]
                have hm := hc
                rw [cmI_nat g1.1.1 (by rw [g1.2]; exact hb) (by rw [g1.2]; exact hyn), Bool.and_eq_true, Bool.and_eq_true] at hm
                have hne : b ≠ k % 9 - 1 := by
                  intro q
                  have hm2 := hm.1.1
                  rw [← q, nbm_self] at hm2
                  cases hm2
                refine r_doPop (S := mgO S a (k / 9)) (by rw [g1.2]; exact hb) (by rw [g1.2]; exact hyn) hne g1.1.1 g1.1.2.1 g1.1.2.2.1 hm.1.1 a6 (fun M7 s7 a7 => ?_)
                refine back (fin M7 (s6.trans s7) ?_)
                have e : dS S a b (k / 9) (k % 9) = mgS (mgO S a (k / 9)) b (k % 9 - 1) := by
                  exact mgO_t (by rw [ey]; exact hc)
                rw [e]; exact a7
          by_cases hx0 : k / 9 = 0
          · rw [if_pos ((nI_neg (by omega)).mpr hx0)]
            refine second M5 s5 ?_
            have e : mgO S a (k / 9) = S := by
              unfold mgO
              rw [if_neg]
              intro hc
              have := (cm_arg hS (show a < 8 by omega) (show k / 9 ≤ 8 by omega) hc).1
              omega
            rw [e]; exact a5
          · rw [if_neg (fun q => hx0 ((nI_neg (by omega)).mp q))]
            have ex : nI (k / 9) - 1 = nI (k / 9 - 1) := by
              have := nI_pred (k / 9 - 1)
              rw [show k / 9 - 1 + 1 = k / 9 by omega] at this
              exact this
            have hb1 := chF_bit S a b (sn S) (k / 9 - 1) (by rw [show k / 9 - 1 + 1 = k / 9 by omega]; exact b1)
            have hm := hb1.2
            rw [cmI_nat hS ha hb1.1, Bool.and_eq_true, Bool.and_eq_true] at hm
            have hne : a ≠ k / 9 - 1 := by
              intro q
              have hm2 := hm.1.1
              rw [← q, nbm_self] at hm2
              cases hm2
            rw [ex]
            refine r_doPop ha hb1.1 hne hS hG.2.1 hG.2.2.1 hm.1.1 a5 (fun M6 s6 a6 => ?_)
            have h := second M6 (s5.trans s6) (by
              unfold mgO
              rw [if_pos (by rw [ex]; exact hb1.2)]
              exact a6)
            rw [ex] at h
            exact h
  exact loop 81 0 M3 rfl q3 e48 e49 (fun i hi => absurd hi (Nat.not_lt_zero _))
theorem m_pricks {d : Nat} {M : Mem} {K : Int32 → Mem → Prop} {F : List Int32} {st : Nat} {S S1 : Sh} {x y : Int32} (hR : CR M F st S S1) (hP : CP F st S S1) (h0 : twI S x y = false → ∀ M', QL 1 M M' → LyM M' [] → K (-1) M') (hK : twI S x y = true → ∀ M', QL 1 M M' → LyM M' (dlL (dlR S (nx x) (nx y))) → K (nI (dlR S (nx x) (nx y)).1) M') : CI (d + 6) μX9_pricks [.ref 58, .int x, .int y] M K := by
  have hG := hP.1
  have hS := hG.1
  have h8 := hS.1
  refine sg_X9_pricks_0 (fun M1 h1 => ?_)
  have q1 : QL 1 M M1 := by rw [h1]; exact QL.w58
  have e45 : ri M1 58 45 = 0 := by rw [h1, ri_wi, if_pos ⟨rfl, rfl⟩]
  have none : ∀ M2, Q M1 M2 → LyM M2 [] := fun M2 q2 => ⟨by rw [q2.1 58 45 rfl (by omega)]; exact e45, fun i hi => absurd hi (Nat.not_lt_zero _)⟩
  by_cases hxy : x = y
  · rw [if_pos hxy]
    exact h0 (by unfold twI; rw [decide_eq_false (fun q => q hxy)]; rfl) M1 q1 (none M1 Q.rf)
  rw [if_neg hxy]
  refine r_isThereNow (hR.keepL q1) hS (fun M2 q2 a2 c2 => ?_)
  cases hx : thI S x with
  | false => rw [if_pos (by decide)]; exact h0 (by unfold twI; rw [hx]; simp) M2 (q1.trans q2.l) (none M2 q2)
  | true =>
    rw [if_neg (by decide)]
    refine r_isThereNow c2 hS (fun M3 q3 a3 c3 => ?_)
    cases hy : thI S y with
    | false => rw [if_pos (by decide)]; exact h0 (by unfold twI; rw [hy]; simp) M3 (q1.trans (q2.trans q3).l) (none M3 (q2.trans q3))
    | true =>
      rw [if_neg (by decide)]
      have hK := hK (by unfold twI; rw [hx, hy, decide_eq_true (show x ≠ y from hxy)]; rfl)
      obtain ⟨a, ha, rfl, -⟩ := thI_is hS hx
      obtain ⟨b, hb, rfl, -⟩ := thI_is hS hy
      rw [show nx (nI a) = a from nI_clamp (by omega), show nx (nI b) = b from nI_clamp (by omega)] at hK
      have l1 := chF_lt S a b (sn S) h8
      have l2 := chF_lt S b a (sn S) h8
      refine m_layPricks c3 hG ha hb (fun M4 q4 e48 e49 hT => ?_)
      have count : ∀ (r k : Nat) (s : Nat × Nat) (M5 : Mem), r + k = 81 → s.1 ≤ k → dlF (rsP S a b) r s = dlR S a b → QL 1 M M5 → ri M5 58 48 = nI (chF S a b (sn S)) → ri M5 58 49 = nI (chF S b a (sn S)) → TbX M5 S a b 81 76 77 → LyM M5 (dlL s) → RI (d + 6) μX9_pricks 39 [(0, .ref 58), (1, .int (nI a)), (2, .int (nI b)), (3, .int (nI s.1)), (4, .int (nI k))] [] M5 K := by
        intro r
        induction r with
        | zero =>
          intro k s M5 hk hs he q5 e48 e49 hT hL
          refine sg_X9_pricks_39 ?_
          rw [if_pos (by rw [show (81 : Int32) = nI 81 from rfl, nI_leI (by omega) (by omega)]; omega)]
          have he : s = dlR S a b := he
          rw [he]
          exact hK M5 q5 (by rw [← he]; exact hL)
        | succ r ih =>
          intro k s M5 hk hs he q5 e48 e49 hT hL
          rw [dlF_at (show r + 1 + k = 81 by omega)] at he
          have d9 := n_d9 (show k < 81 by omega)
          have hx9 : k / 9 < 9 := by omega
          have hy9 : k % 9 < 9 := by omega
          refine sg_X9_pricks_39 ?_
          rw [if_neg (by rw [show (81 : Int32) = nI 81 from rfl, nI_leI (by omega) (by omega)]; omega), d9.1, d9.2, e48, e49, n_bit (by omega) (by omega), n_bit (by omega) (by omega)]
          rw [show nI k + 1 = nI (k + 1) by rw [nI_1]]
          have skip : rsP S a b k = false → RI (d + 6) μX9_pricks 39 [(0, .ref 58), (1, .int (nI a)), (2, .int (nI b)), (3, .int (nI s.1)), (4, .int (nI (k + 1)))] [] M5 K := by
            intro hf
            rw [if_neg (by rw [hf]; decide)] at he
            exact ih (k + 1) s M5 (by omega) (by omega) he q5 e48 e49 hT hL
          cases b1 : (chF S a b (sn S)).testBit (k / 9) with
          | false => rw [if_pos (by decide)]; exact skip (by unfold rsP mBd; rw [b1]; rfl)
          | true =>
            rw [if_neg (by decide)]
            cases b2 : (chF S b a (sn S)).testBit (k % 9) with
            | false => rw [if_pos (by decide)]; exact skip (by unfold rsP mBd; rw [b2, Bool.and_false]; rfl)
            | true =>
              rw [if_neg (by decide)]
              have hm : mBd S a b (k / 9) (k % 9) = true := by unfold mBd; rw [b1, b2]; rfl
              refine m_isRest hG (by omega) (by omega) e48 e49 hT hx9 hy9 hm ?_
              cases hr : isR S a b (k / 9) (k % 9) 9 0 with
              | false => rw [if_pos (by decide)]; exact skip (by unfold rsP; rw [hr, Bool.and_false])
              | true =>
                rw [if_neg (by decide)]
                rw [if_pos (by unfold rsP; rw [hm, hr]; rfl)] at he
                rw [show nI s.1 + 1 = nI (s.1 + 1) by rw [nI_1]]
                by_cases hz : s.1 = 0
                · rw [if_pos (by rw [hz]; rfl)]
                  rw [if_pos hz] at he
                  intro M6 h6 M7 h7 M8 h8'
                  rw [show nx 0 = 0 from rfl] at h6
                  rw [show nx 1 = 1 by decide] at h7
                  have r6 : ∀ k' j, ri M6 k' j = if k' = 73 ∧ j = 0 then nI (k / 9) - 1 else ri M5 k' j := by intro k' j; rw [h6, ri_wi]
                  have r7 : ∀ k' j, ri M7 k' j = if k' = 73 ∧ j = 1 then nI (k % 9) - 1 else ri M6 k' j := by intro k' j; rw [h7, ri_wi]
                  have r8 : ∀ k' j, ri M8 k' j = if k' = 58 ∧ j = 45 then 2 else ri M7 k' j := by intro k' j; rw [h8', ri_wi]
                  refine ih (k + 1) (s.1 + 1, k) M8 (by omega) (by show s.1 + 1 ≤ _; omega) he (q5.trans (by rw [h8', h7, h6]; exact (QL.w73.trans QL.w73).trans QL.w58)) (by rw [r8, if_neg (by omega), r7, if_neg (by omega), r6, if_neg (by omega)]; exact e48) (by rw [r8, if_neg (by omega), r7, if_neg (by omega), r6, if_neg (by omega)]; exact e49) (fun i hi hmb => by rw [r8, if_neg (by omega), r7, if_neg (by omega), r6, if_neg (by omega), r8, if_neg (by omega), r7, if_neg (by omega), r6, if_neg (by omega)]; exact hT i hi hmb) ?_
                  unfold dlL
                  rw [if_neg (by show ¬ s.1 + 1 = 0; omega)]
                  refine ⟨by rw [r8, if_pos ⟨rfl, rfl⟩]; rfl, fun i hi => ?_⟩
                  have hi : i < 2 := hi
                  have : i = 0 ∨ i = 1 := by omega
                  rcases this with rfl | rfl
                  · rw [r8, if_neg (by omega), r7, if_neg (by omega), r6, if_pos ⟨rfl, rfl⟩]; rfl
                  · rw [r8, if_neg (by omega), r7, if_pos ⟨rfl, rfl⟩]; rfl
                · rw [if_neg (by rw [show (0 : Int32) = nI 0 from rfl, nI_eq (by omega) (by omega)]; exact hz)]
                  rw [if_neg hz] at he
                  refine ih (k + 1) (s.1 + 1, s.2) M5 (by omega) (by show s.1 + 1 ≤ _; omega) he q5 e48 e49 hT ?_
                  unfold dlL at hL ⊢
                  rw [if_neg hz] at hL
                  rw [if_neg (by show ¬ s.1 + 1 = 0; omega)]
                  exact hL
      exact count 81 0 (0, 0) M4 rfl (by show 0 ≤ 0; omega) rfl (q1.trans ((q2.trans q3).trans q4).l) e48 e49 hT (none M4 ((q2.trans q3).trans q4))
