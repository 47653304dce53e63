/-! cut and ring, both sides; what lies -/
def aCut (S : Sh) (x y w : Int32) : Int32 := if twI S x y = true ∧ mtI S x y = false ∧ 0 ≤ w ∧ w ≤ 1 then (if w = 0 then nI (pc8 (ctC S (nx x) (nx y) (clr (sb S) (pr (nx x) (nx y))) 256 (clr (sb S) (pr (nx x) (nx y))))) else nI (ctC S (nx x) (nx y) (clr (sb S) (pr (nx x) (nx y))) 256 (clr (sb S) (pr (nx x) (nx y))))) else -1
theorem ctC_lt {S : Sh} {l o may : Nat} : ∀ (r b : Nat), b < 256 → ctC S l o may r b < 256
  | 0, _, h => h
  | r + 1, b, h => by
    show ctC S l o may r (if ctP S l o may (256 - (r + 1)) = true ∧ pc8 (256 - (r + 1)) < pc8 b then 256 - (r + 1) else b) < 256
    apply ctC_lt r
    split
    · omega
    · exact h
theorem x_isReached {d o : Nat} {M : Mem} {K : Int32 → Mem → Prop} {S : Sh} {a b w : Nat} (ho : kd o = (0, 2)) (hF : Fr M o S) (ha : a < 8) (hb : b < 8) (hw : w < 256) (hK : K (bI (rcd S a b w)) M) : CI (d + 1) μX5_isReached [.ref o, .int (nI a), .int (nI b), .int (nI w)] M K := by
  have hS := hF.2.2
  refine sg_X5_isReached_0 ho ?_
  rw [n_shl (by omega)]
  have loop : ∀ (r k s : Nat), r + k = 8 → s < 256 → rch S w r s = rch S w 8 (2 ^ a) → RI (d + 1) μX5_isReached 8 [(0, .ref o), (1, .int (nI a)), (2, .int (nI b)), (3, .int (nI w)), (4, .int (nI s)), (5, .int (nI k))] [] M K := by
    intro r
    induction r with
    | zero =>
      intro k s hk hs he
      refine sg_X5_isReached_8 ho ?_
      rw [if_pos (by rw [show (8 : Int32) = nI 8 from rfl, nI_leI (by omega) (by omega)]; omega)]
      have he : s = rch S w 8 (2 ^ a) := he
      unfold rcd at hK
      rw [← he] at hK
      by_cases hb2 : s.testBit b = true
      · rw [if_pos ((n_bit0 hs (by omega)).mpr hb2)]; rw [hb2] at hK; exact hK
      · rw [if_neg (fun q => hb2 ((n_bit0 hs (by omega)).mp q))]; rw [Bool.not_eq_true] at hb2; rw [hb2] at hK; exact hK
    | succ r ih =>
      intro k s hk hs he
      refine sg_X5_isReached_8 ho ?_
      rw [if_neg (by rw [show (8 : Int32) = nI 8 from rfl, nI_leI (by omega) (by omega)]; omega), nI_1]
      refine c_nbOf ho hF hs ?_
      rw [n_clr, n_or]
      exact ih (k + 1) (stp S w s) (by omega) (stp_lt hS w hs) he
  exact loop 8 0 (2 ^ a) rfl (p2_lt ha) rfl
theorem x_cut {d : Nat} {M : Mem} {K : Int32 → Mem → Prop} {S : Sh} {x y w : Int32} (hF : Fr M 27 S) (hK : K (aCut S x y w) M) : CI (d + 3) μX8_cut [.ref 0, .int x, .int y, .int w] M K := by
  have hS := hF.2.2
  have h8 := hS.1
  refine sg_X8_cut_0 (x_areTwo hF ?_)
  unfold aCut at hK
  cases h2 : twI S x y with
  | false => rw [if_pos (by decide)]; rw [if_neg (fun q => by rw [h2] at q; cases q.1)] at hK; exact hK
  | true =>
    rw [if_neg (by decide)]
    refine c_meets (by decide +kernel) hF ?_
    cases hm : mtI S x y with
    | true => rw [if_neg (by decide)]; rw [if_neg (fun q => by rw [hm] at q; cases q.2.1)] at hK; exact hK
    | false =>
      rw [if_pos (by decide)]
      by_cases h3 : w < 0
      · rw [if_pos h3]; rw [if_neg (fun q => absurd h3 (i_nlt.mpr q.2.2.1))] at hK; exact hK
      rw [if_neg h3]
      by_cases h4 : w ≤ 1
      · rw [if_pos h4]
        rw [if_pos ⟨h2, hm, i_nlt.mp h3, h4⟩] at hK
        unfold twI at h2
        rw [Bool.and_eq_true, Bool.and_eq_true] at h2
        obtain ⟨l, hl, rfl, -⟩ := thI_is hS h2.1.2
        obtain ⟨o, ho, rfl, -⟩ := thI_is hS h2.2
        rw [show nx (nI l) = l from nI_clamp (by omega), show nx (nI o) = o from nI_clamp (by omega)] at hK
        refine sg_X5_fewestBetween_0 (by decide +kernel) ?_
        rw [hF.1.2.1, n_shl (by omega), n_shl (by omega), n_or, n_clr]
        show RI (d + 2) μX5_fewestBetween 21 [(0, .ref 27), (1, .int (nI l)), (2, .int (nI o)), (3, .int (nI (clr (sb S) (pr l o)))), (4, .int (nI (clr (sb S) (pr l o)))), (5, .int (nI 0))] [] M _
        have hmay : clr (sb S) (pr l o) < 256 := clr_lt (n := 8) hS.2.1
        generalize clr (sb S) (pr l o) = may at hK hmay ⊢
        have loop : ∀ (r s b : Nat), r + s = 256 → b < 256 → K (if w = 0 then nI (pc8 (ctC S l o may r b)) else nI (ctC S l o may r b)) M → RI (d + 2) μX5_fewestBetween 21 [(0, .ref 27), (1, .int (nI l)), (2, .int (nI o)), (3, .int (nI may)), (4, .int (nI b)), (5, .int (nI s))] [] M (fun r6 M5 => (if w = 0 then (CI (d + 2) μJ6_bitCount_0f7a4 [.int r6] M5 (fun r8 M7 => K r8 M7)) else K r6 M5)) := by
          intro r
          induction r with
          | zero =>
            intro s b hs hb hk
            refine sg_X5_fewestBetween_21 (by decide +kernel) ?_
            rw [if_pos (by rw [show (256 : Int32) = nI 256 from rfl, nI_leI (by omega) (by omega)]; omega)]
            by_cases hw : w = 0
            · rw [if_pos hw]; rw [if_pos hw] at hk; exact c_bitCount hb hk
            · rw [if_neg hw]; rw [if_neg hw] at hk; exact hk
          | succ r ih =>
            intro s b hs hb hk
            rw [ctC_at (show r + 1 + s = 256 by omega)] at hk
            refine sg_X5_fewestBetween_21 (by decide +kernel) ?_
            rw [if_neg (by rw [show (256 : Int32) = nI 256 from rfl, nI_leI (by omega) (by omega)]; omega), n_clr, nI_1]
            have hcl : clr s may < 256 := clr_lt (n := 8) (by omega)
            have no : ¬ (ctP S l o may s = true ∧ pc8 s < pc8 b) → RI (d + 2) μX5_fewestBetween 21 [(0, .ref 27), (1, .int (nI l)), (2, .int (nI o)), (3, .int (nI may)), (4, .int (nI b)), (5, .int (nI (s + 1)))] [] M (fun r6 M5 => (if w = 0 then (CI (d + 2) μJ6_bitCount_0f7a4 [.int r6] M5 (fun r8 M7 => K r8 M7)) else K r6 M5)) := by
              intro hn
              rw [show (if ctP S l o may s = true ∧ pc8 s < pc8 b then s else b) = b from if_neg hn] at hk
              exact ih (s + 1) b (by omega) hb hk
            by_cases hc : clr s may = 0
            · rw [if_pos ((n_z (by omega)).mpr hc)]
              refine c_bitCount (by omega) (c_bitCount hb ?_)
              have p1 := pc8_le s
              have p2 := pc8_le b
              by_cases hp2 : pc8 s < pc8 b
              · rw [if_neg (by rw [nI_leI (by omega) (by omega)]; omega)]
                refine x_isReached (by decide +kernel) hF (by omega) (by omega) (by omega) ?_
                cases hr : rcd S l o s with
                | true => rw [if_neg (by decide)]; exact no (fun q => by have := q.1; unfold ctP at this; rw [hr, Bool.not_true, Bool.and_false] at this; cases this)
                | false =>
                  rw [if_pos (by decide)]
                  have hct : ctP S l o may s = true := by unfold ctP; rw [hr, decide_eq_true hc]; rfl
                  rw [show (if ctP S l o may s = true ∧ pc8 s < pc8 b then s else b) = s from if_pos ⟨hct, hp2⟩] at hk
                  exact ih (s + 1) s (by omega) (by omega) hk
              · rw [if_pos (by rw [nI_leI (by omega) (by omega)]; omega)]
                exact no (fun q => hp2 q.2)
            · rw [if_neg (fun q => hc ((n_z (by omega)).mp q))]
              exact no (fun q => hc (ctP_sub q.1))
        exact loop 256 0 may rfl hmay hK
      · rw [if_neg h4]; rw [if_neg (fun q => h4 q.2.2.2)] at hK; exact hK
theorem nI_prd (k : Nat) : nI (k + 1) + (-1) = nI k := by
  rw [nI_m1, ← nI_1, Int32.add_sub_cancel]
theorem m_cut {d : Nat} {M : Mem} {K : Int32 → Mem → Prop} {F : List Int32} {st : Nat} {S S1 : Sh} {x y w : Int32} (hR : CR M F st S S1) (hP : CP F st S S1) (hK : ∀ M', Q M M' → K (aCut S x y w) M') : CI (d + 3) μX9_cut [.ref 58, .int x, .int y, .int w] M K := by
  have hS := hP.1.1
  have h8 := hS.1
  refine sg_X9_cut_0 (r_isThereNow hR hS (fun M1 q1 a1 c1 => ?_))
  unfold aCut at hK
  have twn : (thI S x = false ∨ thI S y = false ∨ x = y) → twI S x y = false := by
    intro h
    unfold twI
    rcases h with h | h | h
    · rw [h]; simp
    · rw [h]; simp
    · rw [decide_eq_false (fun q => q h)]; rfl
  cases h1 : thI S x with
  | false => rw [if_pos (by decide)]; have hk := hK M1 q1; rw [if_neg (fun q => by rw [twn (Or.inl h1)] at q; cases q.1)] at hk; exact hk
  | true =>
    rw [if_neg (by decide)]
    refine r_isThereNow c1 hS (fun M2 q2 a2 c2 => ?_)
    have hk := hK M2 (q1.trans q2)
    cases h2 : thI S y with
    | false => rw [if_pos (by decide)]; rw [if_neg (fun q => by rw [twn (Or.inr (Or.inl h2))] at q; cases q.1)] at hk; exact hk
    | true =>
      rw [if_neg (by decide)]
      by_cases hxy : x = y
      · rw [if_pos hxy]; rw [if_neg (fun q => by rw [twn (Or.inr (Or.inr hxy))] at q; cases q.1)] at hk; exact hk
      rw [if_neg hxy]
      have htw : twI S x y = true := by unfold twI; rw [h1, h2, decide_eq_true (show x ≠ y from hxy)]; rfl
      refine r_isIn ?_
      by_cases hw : 0 ≤ w ∧ w ≤ 1
      · rw [if_neg (bI_ne (decide_eq_true hw))]
        obtain ⟨l, hl, rfl, -⟩ := thI_is hS h1
        obtain ⟨o, ho, rfl, -⟩ := thI_is hS h2
        refine r_doBorder (by omega) (by omega) hS a2 ?_
        rw [mtI_nat hS hl ho] at hk
        cases hm : (nbm (sc S) l).testBit o with
        | true => rw [if_neg (by decide)]; rw [if_neg (fun q => by rw [hm] at q; cases q.2.1)] at hk; exact hk
        | false =>
          rw [if_pos (by decide)]
          rw [if_pos ⟨htw, hm, hw.1, hw.2⟩] at hk
          rw [show nx (nI l) = l from nI_clamp (by omega), show nx (nI o) = o from nI_clamp (by omega)] at hk
          rw [x_13, a2.2.2.1, n_shl (by omega), n_shl (by omega), n_or, n_clr]
          show RI (d + 3) μX9_cut 68 [(0, .ref 58), (1, .int (nI l)), (2, .int (nI o)), (3, .int w), (4, .int (nI (clr (sb S) (pr l o)))), (5, .int (nI (clr (sb S) (pr l o)))), (6, .int (nI (clr (sb S) (pr l o))))] [] M2 K
          have hmay : clr (sb S) (pr l o) < 256 := clr_lt (n := 8) hS.2.1
          generalize clr (sb S) (pr l o) = may at hk hmay ⊢
          rw [← ct_same hmay] at hk
          have loop : ∀ (s b : Nat), s ≤ 256 → b < 256 → K (if w = 0 then nI (pc8 (ctM S l o may s b)) else nI (ctM S l o may s b)) M2 → RI (d + 3) μX9_cut 68 [(0, .ref 58), (1, .int (nI l)), (2, .int (nI o)), (3, .int w), (4, .int (nI may)), (5, .int (nI b)), (6, .int (nI s + (-1)))] [] M2 K := by
            intro s
            induction s with
            | zero =>
              intro b _ hb hk
              refine sg_X9_cut_68 ?_
              rw [if_pos (by decide)]
              by_cases hw : w = 0
              · rw [if_pos hw]; rw [if_pos hw] at hk; exact r_members hb hk
              · rw [if_neg hw]; rw [if_neg hw] at hk; exact hk
            | succ s ih =>
              intro b hs hb hk
              have hk : K (if w = 0 then nI (pc8 (ctM S l o may s (if ctP S l o may s = true ∧ pc8 s ≤ pc8 b then s else b))) else nI (ctM S l o may s (if ctP S l o may s = true ∧ pc8 s ≤ pc8 b then s else b))) M2 := hk
              rw [nI_prd]
              refine sg_X9_cut_68 ?_
              rw [if_neg (i_nlt.mpr (by rw [show (0 : Int32) = nI 0 from rfl, nI_leI (by omega) (by omega)]; omega)), n_clr]
              have hcl : clr s may < 256 := clr_lt (n := 8) (by omega)
              have no : ¬ (ctP S l o may s = true ∧ pc8 s ≤ pc8 b) → RI (d + 3) μX9_cut 68 [(0, .ref 58), (1, .int (nI l)), (2, .int (nI o)), (3, .int w), (4, .int (nI may)), (5, .int (nI b)), (6, .int (nI s + (-1)))] [] M2 K := by
                intro hn
                rw [show (if ctP S l o may s = true ∧ pc8 s ≤ pc8 b then s else b) = b from if_neg hn] at hk
                exact ih b (by omega) hb hk
              by_cases hc : clr s may = 0
              · rw [if_pos ((n_z (by omega)).mpr hc)]
                refine r_members (by omega) (r_members hb ?_)
                have p1 := pc8_le s
                have p2 := pc8_le b
                by_cases hp2 : pc8 s ≤ pc8 b
                · rw [if_neg (by rw [nI_ltI (by omega) (by omega)]; omega)]
                  refine r_reach (n := 8) hS a2 c2.2.2.2.1 (by omega) (by omega) (by omega) ?_
                  have hlt := rch_lt hS s 8 (p2_lt (show l < 8 by omega))
                  cases hr : rcd S l o s with
                  | true =>
                    rw [if_neg (fun q => by have := (n_bitz hlt (by omega)).mp q; unfold rcd at hr; rw [hr] at this; cases this)]
                    exact no (fun q => by have := q.1; unfold ctP at this; rw [hr, Bool.not_true, Bool.and_false] at this; cases this)
                  | false =>
                    rw [if_pos ((n_bitz hlt (by omega)).mpr hr)]
                    have hct : ctP S l o may s = true := by unfold ctP; rw [hr, decide_eq_true hc]; rfl
                    rw [show (if ctP S l o may s = true ∧ pc8 s ≤ pc8 b then s else b) = s from if_pos ⟨hct, hp2⟩] at hk
                    exact ih s (by omega) (by omega) hk
                · rw [if_pos (by rw [nI_ltI (by omega) (by omega)]; omega)]
                  exact no (fun q => hp2 q.2)
              · rw [if_neg (fun q => hc ((n_z (by omega)).mp q))]
                exact no (fun q => hc (ctP_sub q.1))
          have := loop (may + 1) may (by omega) hmay hk
          rw [nI_prd] at this
          exact this
      · rw [if_pos (bI_eq (decide_eq_false hw))]
        rw [if_neg (fun q => hw q.2.2)] at hk
        exact hk
