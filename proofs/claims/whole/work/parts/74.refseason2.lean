/-! the reference's season: those of no size; the straw -/
def G2 (G : Sh → Prop) : Prop := ∀ S, G S → srt (sc S) ∧ N1 (sc S) ∧ N4 S
theorem rs_3 {d : Nat} {K : Mem → Prop} {G : Sh → Prop} (hG : Clo G) (hG2 : G2 G) {n : Nat} {F : List Int32} {x1 : Int32} {SE : Sh} (M0 : Mem) (hK : ∀ M', Sq M0 M' → Ar M' 69 SE → G SE → Rf M' F → ri M' 58 35 = nI n → RV (d + 5) μX9_goSeason 89 [(0, .ref 58), (1, .int x1), (2, .int (nI n))] [] M' K) :
    ∀ (r : Nat) (S : Sh) (M : Mem), r ≤ n → sn S = n → n ≤ 8 → wlsS n S r = SE → Sq M0 M → Ar M 69 S → G S → Rf M F → ri M 58 35 = nI n → RV (d + 5) μX9_goSeason 89 [(0, .ref 58), (1, .int x1), (2, .int (nI (n - r)))] [] M K := by
  intro r
  induction r with
  | zero =>
    intro S M _ hn _ he hs hA hGS hF h35
    have he : S = SE := he
    subst he
    exact hK M hs hA hGS hF h35
  | succ r ih =>
    intro S M hr hn h8 he hs hA hGS hF h35
    have hS := hG.1 S hGS
    obtain ⟨hsrt, h1, h4⟩ := hG2 S hGS
    have hq : n - (r + 1) < n := by omega
    have e2 : nI (n - (r + 1)) + 1 = nI (n - r) := by rw [nI_1]; congr 1; omega
    have he' : wlsS n (if thI S (nI (n - (r + 1))) = true ∧ sz S (n - (r + 1)) = 0 then withS S (n - (r + 1)) else S) r = SE := he
    refine sg_X9_goSeason_89 ?_
    rw [h35, if_neg (by rw [nI_leI (by omega) (by omega)]; omega), e2, n_14]
    refine r_isThere (by omega) hS.2.1 hA ?_
    have hth := thI_nat hS (p := n - (r + 1)) (by omega)
    cases ht : (sb S).testBit (n - (r + 1)) with
    | false =>
      rw [if_pos (by decide)]
      rw [if_neg (fun z => by rw [hth, ht] at z; exact absurd z.1 (by decide))] at he'
      exact ih S M (by omega) hn h8 he' hs hA hGS hF h35
    | true =>
      rw [if_neg (by decide)]
      refine ⟨n_in (by omega) (by decide), ?_⟩
      have hz9 := hS.2.2.2.2.2 (n - (r + 1))
      rw [show nx (nI (14 + (n - (r + 1)))) = 14 + (n - (r + 1)) from nI_clamp (by omega), hA.2.2.2.1 _ (by omega)]
      have htt : thI S (nI (n - (r + 1))) = true := by rw [hth]; exact ht
      by_cases hz : sz S (n - (r + 1)) = 0
      · rw [if_pos (by rw [hz]; decide)]
        rw [if_pos ⟨htt, hz⟩] at he'
        refine r_canVanish (d := d + 2) (by omega) hS hA (fun a b => hG.2.1 S _ hGS (by omega) a b) ?_
        have hGw := G_withS hG hGS (p := n - (r + 1)) (by omega) htt
        by_cases hc : dgm (sc S) (n - (r + 1)) = 3 ∧ 3 < pc8 (sb S)
        · rw [show decide (dgm (sc S) (n - (r + 1)) = 3 ∧ 3 < pc8 (sb S)) = true from decide_eq_true hc, if_neg (by decide)]
          refine r_vanish (d := d + 1) (by omega) hS hsrt h1 hc.1 hA (fun M' s' A' => ?_)
          have ew : withS S (n - (r + 1)) = vanS S (n - (r + 1)) := by unfold withS; rw [if_pos hc]
          rw [← ew] at A'
          exact ih _ M' (by omega) (by rw [sn_withS]; exact hn) h8 he' (hs.trans s'.sq) A' hGw (hF.keepQ s'.sq) ((s'.1 58 (by decide) 35).trans h35)
        · rw [show decide (dgm (sc S) (n - (r + 1)) = 3 ∧ 3 < pc8 (sb S)) = false from decide_eq_false hc, if_pos (by decide)]
          refine r_shed (d := d) (by omega) hS hsrt h1 h4 hA (by rw [hn]; exact h35) (fun M' s' A' => ?_)
          have ew : withS S (n - (r + 1)) = shedS S (n - (r + 1)) (sn S) := by unfold withS; rw [if_neg hc]
          rw [← ew] at A'
          exact ih _ M' (by omega) (by rw [sn_withS]; exact hn) h8 he' (hs.trans s'.sq) A' hGw (hF.keepQ s'.sq) ((s'.1 58 (by decide) 35).trans h35)
      · rw [if_neg (by rw [l_0, nI_leI (by omega) (by omega)]; omega)]
        rw [if_neg (fun z => hz z.2)] at he'
        exact ih S M (by omega) hn h8 he' hs hA hGS hF h35
