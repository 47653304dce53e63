/-! seen, untell, fits, sure, ask: the model -/
theorem m_seen {d c : Nat} {M : Mem} {K : Int32 → Mem → Prop} {F : List Int32} {st : Nat} {S S1 : Sh} {W : Nat → Sight} {x y tm : Int32} {b : Bool} (hR : CR M F st S S1) (hS : SOk S) (hn : sn S1 = sn S) (hW : WOk c W) (hM : MM M c W) (htm : ri M 58 56 = tm) (h0 : ¬ seC S1 c x y → K (-1) M) (hK : seC S1 c x y → ∀ M', QS 1 M M' → MM M' (c + 1) (addW W c (nx x, nx y, b, tm, -1)) → K (nI c) M') : CI (d + 1) μX9_seen [.ref 58, .int x, .int y, .int (bI b)] M K := by
  have hc := hW.1
  have h8 := hS.1
  refine sg_X9_seen_0 (r_isIn ?_)
  by_cases h1 : 0 ≤ x ∧ x ≤ 12
  · rw [if_neg (bI_ne (decide_eq_true h1))]
    refine r_isIn ?_
    by_cases h2 : 0 ≤ y ∧ y ≤ 8
    · rw [if_neg (bI_ne (decide_eq_true h2)), hR.2.2.2.1, hM.1, ← hn]
      by_cases hz : sn S1 = 0
      · rw [if_pos (by rw [hz]; rfl)]; exact h0 (fun q => q.2.2.1 hz)
      rw [if_neg (fun q => hz ((n_z (by omega)).mp q))]
      by_cases h30 : c = 30
      · rw [if_pos (by rw [h30]; rfl)]; exact h0 (fun q => q.2.2.2 h30)
      rw [if_neg (by rw [show (30 : Int32) = nI 30 from rfl, nI_eq (by omega) (by omega)]; exact h30)]
      have e1 : nx (nI c) = c := nI_clamp (by omega)
      have vin : vp_in (nI c) 30 := n_in (by omega) (by decide)
      rw [e1]
      refine ⟨vin, fun M1 g1 => ?_⟩
      have r1 : ∀ k j, ri M1 k j = if k = 78 ∧ j = c then x else ri M k j := by intro k j; rw [g1, ri_wi]
      rw [show ri M1 58 55 = nI c by rw [r1, if_neg (by omega)]; exact hM.1, e1]
      refine ⟨vin, fun M2 g2 => ?_⟩
      have r2 : ∀ k j, ri M2 k j = if k = 79 ∧ j = c then y else ri M1 k j := by intro k j; rw [g2, ri_wi]
      rw [show ri M2 58 55 = nI c by rw [r2, if_neg (by omega), r1, if_neg (by omega)]; exact hM.1, e1, nar_b]
      refine ⟨vin, fun M3 g3 => ?_⟩
      have r3 : ∀ k j, ri M3 k j = if k = 82 ∧ j = c then bI b else ri M2 k j := by intro k j; rw [g3, ri_wi]
      rw [show ri M3 58 55 = nI c by rw [r3, if_neg (by omega), r2, if_neg (by omega), r1, if_neg (by omega)]; exact hM.1, show ri M3 58 56 = tm by rw [r3, if_neg (by omega), r2, if_neg (by omega), r1, if_neg (by omega)]; exact htm, e1]
      refine ⟨vin, fun M4 g4 => ?_⟩
      have r4 : ∀ k j, ri M4 k j = if k = 80 ∧ j = c then tm else ri M3 k j := by intro k j; rw [g4, ri_wi]
      rw [show ri M4 58 55 = nI c by rw [r4, if_neg (by omega), r3, if_neg (by omega), r2, if_neg (by omega), r1, if_neg (by omega)]; exact hM.1, e1]
      refine ⟨vin, fun M5 g5 M6 g6 => ?_⟩
      have r5 : ∀ k j, ri M5 k j = if k = 81 ∧ j = c then -1 else ri M4 k j := by intro k j; rw [g5, ri_wi]
      rw [show ri M5 58 55 = nI c by rw [r5, if_neg (by omega), r4, if_neg (by omega), r3, if_neg (by omega), r2, if_neg (by omega), r1, if_neg (by omega)]; exact hM.1, nI_1] at g6
      have r6 : ∀ k j, ri M6 k j = if k = 58 ∧ j = 55 then nI (c + 1) else ri M5 k j := by intro k j; rw [g6, ri_wi]
      rw [show ri M6 58 55 = nI (c + 1) by rw [r6, if_pos ⟨rfl, rfl⟩], nI_pred]
      refine hK ⟨h1, h2, hz, h30⟩ M6 ⟨fun k j a b c' e => ?_, fun k j => by rw [g6, g5, g4, g3, g2, g1]; rfl⟩ ⟨by rw [r6, if_pos ⟨rfl, rfl⟩], fun i hi => ?_⟩
      · rw [r6, if_neg (by omega), r5, if_neg (by omega), r4, if_neg (by omega), r3, if_neg (by omega), r2, if_neg (by omega), r1, if_neg (by omega)]
      · obtain ⟨a', ha', rfl⟩ := le_nat h1.1 h1.2 (k := 12) (by omega)
        obtain ⟨s', hs', rfl⟩ := le_nat h2.1 h2.2 (k := 8) (by omega)
        rw [show nx (nI a') = a' from nI_clamp (by omega), show nx (nI s') = s' from nI_clamp (by omega)]
        unfold addW
        by_cases hic : i = c
        · rw [if_pos hic, hic]
          refine ⟨?_, ?_, ?_, ?_, ?_⟩
          · rw [r6, if_neg (by omega), r5, if_neg (by omega), r4, if_neg (by omega), r3, if_neg (by omega), r2, if_neg (by omega), r1, if_pos ⟨rfl, rfl⟩]
          · rw [r6, if_neg (by omega), r5, if_neg (by omega), r4, if_neg (by omega), r3, if_neg (by omega), r2, if_pos ⟨rfl, rfl⟩]
          · rw [r6, if_neg (by omega), r5, if_neg (by omega), r4, if_neg (by omega), r3, if_pos ⟨rfl, rfl⟩]
          · rw [r6, if_neg (by omega), r5, if_neg (by omega), r4, if_pos ⟨rfl, rfl⟩]
          · rw [r6, if_neg (by omega), r5, if_pos ⟨rfl, rfl⟩]
        · have old : ∀ k, k ≠ 58 → ri M6 k i = ri M k i := by
            intro k hk
            rw [r6, if_neg (by omega), r5, if_neg (by omega), r4, if_neg (by omega), r3, if_neg (by omega), r2, if_neg (by omega), r1, if_neg (by omega)]
          rw [if_neg hic, old 78 (by omega), old 79 (by omega), old 82 (by omega), old 80 (by omega), old 81 (by omega)]
          exact hM.2 i (by omega)
    · rw [if_pos (bI_eq (decide_eq_false h2))]; exact h0 (fun q => h2 q.2.1)
  · rw [if_pos (bI_eq (decide_eq_false h1))]; exact h0 (fun q => h1 q.1)
theorem neg_m1 {u : Int32} (h : u = -1 ∨ 0 ≤ u) : (u < 0) ↔ u = -1 := by
  constructor
  · intro hl
    rcases h with h | h
    · exact h
    · exact absurd hl (i_nlt.mpr h)
  · intro h; rw [h]; decide
theorem m_untell {d c : Nat} {M : Mem} {K : Int32 → Mem → Prop} {W : Nat → Sight} {x tm : Int32} (hW : WOk c W) (hM : MM M c W) (htm : ri M 58 56 = tm) (h0 : ¬ utC c W x → K 0 M) (hK : utC c W x → ∀ M', QS 1 M M' → MM M' c (unW W (nx x) tm) → K 1 M') : CI (d + 1) μX9_untell [.ref 58, .int x] M K := by
  have hc := hW.1
  refine sg_X9_untell_0 ?_
  rw [hM.1]
  refine r_isIn ?_
  by_cases h1 : 0 ≤ x ∧ x < nI c
  · have e : (0 ≤ x ∧ x ≤ nI c - 1) := ⟨h1.1, (i_pred (by omega) h1.1).mpr h1.2⟩
    rw [if_neg (bI_ne (decide_eq_true e))]
    obtain ⟨i, hi, rfl⟩ := n_nat h1.1 h1.2 (by omega)
    have e1 : nx (nI i) = i := nI_clamp (by omega)
    obtain ⟨m1, m2, m3, m4, m5⟩ := hM.2 i hi
    have vin : vp_in (nI i) 30 := n_in (by omega) (by decide)
    rw [e1, m5, htm]
    refine ⟨vin, ?_⟩
    unfold utC at h0 hK
    rw [e1] at h0 hK
    have hn := neg_m1 (hW.2 i hi).2.2
    by_cases h3 : (W i).2.2.2.2 = -1
    · rw [if_pos (hn.mpr h3)]
      refine ⟨vin, fun M1 g1 => ?_⟩
      have r1 : ∀ k j, ri M1 k j = if k = 81 ∧ j = i then tm else ri M k j := by intro k j; rw [g1, ri_wi]
      refine hK ⟨h1, h3⟩ M1 ⟨fun k j _ a _ _ => by rw [r1, if_neg (by omega)], fun k j => by rw [g1]; rfl⟩ ⟨by rw [r1, if_neg (by omega)]; exact hM.1, fun j hj => ?_⟩
      have o : ∀ k, k ≠ 81 → ri M1 k j = ri M k j := fun k hk => by rw [r1, if_neg (fun q => hk q.1)]
      have hj5 := hM.2 j hj
      rw [o 78 (by omega), o 79 (by omega), o 82 (by omega), o 80 (by omega)]
      by_cases hji : j = i
      · have o53 : ri M1 81 j = tm := by rw [r1, if_pos ⟨rfl, hji⟩]
        have eu : unW W i tm j = ((W j).1, (W j).2.1, (W j).2.2.1, (W j).2.2.2.1, tm) := if_pos hji
        rw [o53, eu]
        exact ⟨hj5.1, hj5.2.1, hj5.2.2.1, hj5.2.2.2.1, rfl⟩
      · have o53 : ri M1 81 j = ri M 81 j := by rw [r1, if_neg (fun q => hji q.2)]
        have eu : unW W i tm j = W j := if_neg hji
        rw [o53, eu]
        exact hj5
    · rw [if_neg (fun q => h3 (hn.mp q))]; exact h0 (fun q => h3 q.2)
  · have e : ¬ (0 ≤ x ∧ x ≤ nI c - 1) := fun q => h1 ⟨q.1, (i_pred (by omega) q.1).mp q.2⟩
    rw [if_pos (bI_eq (decide_eq_false e))]
    exact h0 (fun q => h1 q.1)
theorem m_fitsSize {d v c : Nat} {M : Mem} {K : Int32 → Mem → Prop} {W : Nat → Sight} {k : Int32} {sd : Nat → Nat} (hv : v < 31) (hW : WOk c W) (hM : MM M c W) (hsd : ∀ s, s < 13 → ri M 83 (13 * v + s) = nI (sd s)) (hle : ∀ s, sd s ≤ 7) (hK : K (bI (agF sd W k c 0)) M) : CI d μX9_fitsSize [.ref 58, .int (nI v), .int k] M K := by
  have hc := hW.1
  refine sg_X9_fitsSize_0 ?_
  have loop : ∀ (r i : Nat) (ok : Bool), r + i = c → K (bI (ok && agF sd W k r i)) M → RI d μX9_fitsSize 5 [(0, .ref 58), (1, .int (nI v)), (2, .int k), (3, .int (bI ok)), (4, .int (nI i))] [] M K := by
    intro r
    induction r with
    | zero =>
      intro i ok hi hk
      refine sg_X9_fitsSize_5 ?_
      rw [hM.1, if_pos (by rw [nI_leI (by omega) (by omega)]; omega)]
      have hk : K (bI (ok && true)) M := hk
      rw [Bool.and_true] at hk
      exact ⟨bI_01 ok, hk⟩
    | succ r ih =>
      intro i ok hi hk
      have hk : K (bI (ok && (okS sd (W i) k && agF sd W k r (i + 1)))) M := hk
      obtain ⟨m1, m2, m3, m4, m5⟩ := hM.2 i (by omega)
      obtain ⟨w1, w2, w3⟩ := hW.2 i (by omega)
      have e1 : nx (nI i) = i := nI_clamp (by omega)
      have vin : vp_in (nI i) 30 := n_in (by omega) (by decide)
      have hn := neg_m1 w3
      refine sg_X9_fitsSize_5 ?_
      rw [hM.1, if_neg (by rw [nI_leI (by omega) (by omega)]; omega), e1, m4, m5, nI_1]
      cases ok with
      | false => rw [if_pos (by decide)]; exact ⟨bI_01 false, hk⟩
      | true =>
        rw [if_neg (by decide)]
        rw [Bool.true_and] at hk
        refine ⟨vin, ?_⟩
        have look : cntS (W i) k = true → RI d μX9_fitsSize 53 [(0, .ref 58), (1, .int (nI v)), (2, .int k), (3, .int (bI true)), (4, .int (nI i))] [] M K := by
          intro hcn
          unfold okS at hk
          rw [hcn, Bool.not_true, Bool.false_or] at hk
          refine sg_X9_fitsSize_53 ?_
          rw [e1, m1, m2, m3, n_13', show nx (nI (13 * v + (W i).1)) = 13 * v + (W i).1 from nI_clamp (by omega), hsd _ w1, nI_1]
          refine ⟨vin, n_in (by omega) (by decide), vin, ?_⟩
          have hl := hle (W i).1
          by_cases hlt : sd (W i).1 < (W i).2.1
          · rw [if_pos (by rw [nI_ltI (by omega) (by omega)]; exact hlt)]
            rw [decide_eq_false (show ¬ (W i).2.1 ≤ sd (W i).1 by omega)] at hk
            refine ⟨vin, ?_⟩
            cases hq : (W i).2.2.1 <;> rw [hq] at hk
            · rw [if_pos (by decide)]; exact ih (i + 1) true (by omega) hk
            · rw [if_neg (by decide)]; exact ih (i + 1) false (by omega) hk
          · rw [if_neg (by rw [nI_ltI (by omega) (by omega)]; exact hlt)]
            rw [decide_eq_true (show (W i).2.1 ≤ sd (W i).1 by omega)] at hk
            refine ⟨vin, ?_⟩
            cases hq : (W i).2.2.1 <;> rw [hq] at hk
            · rw [if_neg (by decide)]; exact ih (i + 1) false (by omega) hk
            · rw [if_pos (by decide)]; exact ih (i + 1) true (by omega) hk
        have pass : cntS (W i) k = false → RI d μX9_fitsSize 5 [(0, .ref 58), (1, .int (nI v)), (2, .int k), (3, .int (bI true)), (4, .int (nI (i + 1)))] [] M K := by
          intro hcn
          unfold okS at hk
          rw [hcn, Bool.not_false, Bool.true_or, Bool.true_and] at hk
          exact ih (i + 1) true (by omega) hk
        by_cases ht : k < (W i).2.2.2.1
        · rw [if_pos ht]
          exact pass (by unfold cntS; rw [decide_eq_false (i_nle.mpr ht)]; rfl)
        · rw [if_neg ht]
          refine ⟨vin, ?_⟩
          by_cases hu : (W i).2.2.2.2 = -1
          · rw [if_pos (hn.mpr hu)]
            exact look (by unfold cntS; rw [decide_eq_true (i_nlt.mp ht), decide_eq_true hu]; rfl)
          · rw [if_neg (fun q => hu (hn.mp q))]
            refine ⟨vin, ?_⟩
            by_cases hu2 : k < (W i).2.2.2.2
            · rw [if_pos hu2]
              exact look (by unfold cntS; rw [decide_eq_true (i_nlt.mp ht), decide_eq_true hu2]; simp)
            · rw [if_neg hu2]
              exact pass (by unfold cntS; rw [decide_eq_false hu, decide_eq_false hu2]; simp)
  exact loop c 0 true (by omega) hK
theorem MM.keep {M M' : Mem} {c : Nat} {W : Nat → Sight} (h : MM M c W) (q : Q M M') : MM M' c W := by
  refine ⟨by rw [q.1 58 55 rfl (by omega)]; exact h.1, fun i hi => ?_⟩
  rw [q.1 78 i rfl (by omega), q.1 79 i rfl (by omega), q.1 82 i rfl (by omega), q.1 80 i rfl (by omega), q.1 81 i rfl (by omega)]
  exact h.2 i hi
def FtM (M : Mem) (f : Nat → Bool) : Prop := ∀ v, v < 31 → ri M 85 v = bI (f v)
theorem m_layFits {d c : Nat} {M : Mem} {K : Int32 → Mem → Prop} {F : List Int32} {st : Nat} {S S1 : Sh} {W : Nat → Sight} {k : Int32} (hR : CR M F st S S1) (hP : CP F st S S1) (hA : ATh S1) (hW : WOk c W) (hM : MM M c W) (h0 : sn S1 = 0 → K 0 M) (hK : sn S1 ≠ 0 → ∀ M', Q M M' → (∀ v s, v < 31 → s < 13 → ri M' 83 (13 * v + s) = nI (sdV F st S1 v s)) → FtM M' (fit F st S1 c W k) → K (nI (ctF (fit F st S1 c W k) 31)) M') : CI (d + 6) μX9_layFits [.ref 58, .int k] M K := by
  obtain ⟨hGS, hG, hn, hWf, hst⟩ := hP
  have h8 := hG.1.1
  refine sg_X9_layFits_0 ?_
  by_cases hz : sn S1 = 0
  · refine sg_X9_layFits_4 ?_
    rw [if_neg (by decide), hR.2.2.2.1, ← hn, hz, if_pos (by decide)]
    exact h0 hz
  have hK := hK hz
  have loop : ∀ (r v : Nat) (M1 : Mem), r + v = 31 → Q M M1 → (∀ u s, u < v → s < 13 → ri M1 83 (13 * u + s) = nI (sdV F st S1 u s)) → (∀ u, u < v → ri M1 85 u = bI (fit F st S1 c W k u)) → RI (d + 6) μX9_layFits 4 [(0, .ref 58), (1, .int k), (2, .int (nI (ctF (fit F st S1 c W k) v))), (3, .int (nI v))] [] M1 K := by
    intro r
    induction r with
    | zero =>
      intro v M1 hv q1 h83 h85
      have hv : v = 31 := by omega
      subst hv
      refine sg_X9_layFits_4 ?_
      rw [if_pos (by decide)]
      exact hK M1 q1 h83 h85
    | succ r ih =>
      intro v M1 hv q1 h83 h85
      have c1 := hR.keep q1
      refine sg_X9_layFits_4 ?_
      rw [if_neg (by rw [show (30 : Int32) = nI 30 from rfl, nI_ltI (by omega) (by omega)]; omega), c1.2.2.2.1, ← hn, if_neg (by rw [show (0 : Int32) = nI 0 from rfl, nI_leI (by omega) (by omega)]; omega)]
      have el : nI (sn S1) - 1 = nI (sn S1 - 1) := by
        have := nI_pred (sn S1 - 1)
        rw [show sn S1 - 1 + 1 = sn S1 by omega] at this
        exact this
      have gT := GS_T0 hG hA hz (show v ≤ 999 by omega)
      have h12 := hG.1.2.2.1
      -- the seasons
      have seas : ∀ (u s : Nat) (M2 : Mem), u + s = 13 → Q M M2 → Ar M2 69 (goS F st false s (T0 S1 v)) → (∀ u' s', (u' < v ∧ s' < 13) ∨ (u' = v ∧ s' < s) → ri M2 83 (13 * u' + s') = nI (sdV F st S1 u' s')) → (∀ u, u < v → ri M2 85 u = bI (fit F st S1 c W k u)) → RI (d + 6) μX9_layFits 65 [(0, .ref 58), (1, .int k), (2, .int (nI (ctF (fit F st S1 c W k) v))), (3, .int (nI v)), (4, .int (nI s))] [] M2 K := by
        intro u
        induction u with
        | zero =>
          intro s M2 hs q2 a2 h83 h85
          have hs : s = 13 := by omega
          subst hs
          refine sg_X9_layFits_65 ?_
          rw [if_pos (by decide)]
          refine m_fitsSize (sd := sdV F st S1 v) (by omega) hW (hM.keep q2) (fun s hs => h83 v s (Or.inr ⟨rfl, hs⟩)) (fun s => sdV_le hG hA hz (by omega) s) ?_
          show vp_in (nI v) 31 ∧ ∀ M3, M3 = wi M2 85 (nx (nI v)) (vp_nar .boolean (bI (fit F st S1 c W k v))) → _
          rw [nar_b, show nx (nI v) = v from nI_clamp (by omega)]
          refine ⟨n_in (by omega) (by decide), fun M3 h3 => ⟨n_in (by omega) (by decide), ?_⟩⟩
          have r3 : ∀ k' j, ri M3 k' j = if k' = 85 ∧ j = v then bI (fit F st S1 c W k v) else ri M2 k' j := by intro k' j; rw [h3, ri_wi]
          have e85 : ri M3 85 v = bI (fit F st S1 c W k v) := by rw [r3, if_pos ⟨rfl, rfl⟩]
          rw [e85, show nI v + 1 = nI (v + 1) by rw [nI_1]]
          refine r_truth ?_
          have go := ih (v + 1) M3 (by omega) (q2.trans (by rw [h3]; exact Q.wi rfl)) (fun u' s' hu' hs' => by
            rw [r3, if_neg (by omega)]
            refine h83 u' s' ?_
            by_cases huv : u' = v
            · right; exact ⟨huv, hs'⟩
            · left; exact ⟨by omega, hs'⟩) (fun u' hu' => by
            rw [r3]
            by_cases huv : u' = v
            · rw [if_pos ⟨rfl, huv⟩, huv]
            · rw [if_neg (fun z => huv z.2)]; exact h85 u' (by omega))
          have ec : ctF (fit F st S1 c W k) (v + 1) = ctF (fit F st S1 c W k) v + (fit F st S1 c W k v).toNat := rfl
          rw [ec] at go
          cases hf : fit F st S1 c W k v with
          | false => rw [hf] at go; rw [show bI false = 0 from rfl, Int32.add_zero]; exact go
          | true => rw [hf] at go; rw [show bI true = 1 from rfl, nI_1]; exact go
        | succ u ihu =>
          intro s M2 hs q2 a2 h83 h85
          have gS := GS_go0 F st s _ gT
          have c2 := hR.keep q2
          refine sg_X9_layFits_65 ?_
          rw [if_neg (by rw [show (12 : Int32) = nI 12 from rfl, nI_ltI (by omega) (by omega)]; omega), c2.2.2.2.1, ← hn, el, nI_1]
          refine r_sidesOf (by omega) gS.1 a2 ?_
          rw [n_13', show nx (nI (13 * v + s)) = 13 * v + s from nI_clamp (by omega)]
          refine ⟨n_in (by omega) (by decide), fun M3 h3 => ?_⟩
          have r3 : ∀ k' j, ri M3 k' j = if k' = 83 ∧ j = 13 * v + s then nI (sdV F st S1 v s) else ri M2 k' j := by intro k' j; rw [h3, ri_wi]; rfl
          have q3 := q2.trans (show Q M2 M3 by rw [h3]; exact Q.wi rfl)
          have c3 := hR.keep q3
          refine r_goSeason GS_Clo GS_2 hst false gS hWf (a2.keepE (fun j => by rw [r3, if_neg (by omega)])) c3.2.2.1 (by rw [sn_goS]; show _ = nI (sn S1); rw [hn]; exact c3.2.2.2.1) c3.2.2.2.2 (fun M4 s4 a4 _ => ?_)
          have a4 : Ar M4 69 (sea0 (goS F st false s (T0 S1 v)) F) := a4
          rw [← go_succ] at a4
          refine ihu (s + 1) M4 (by omega) (q3.trans s4.q) a4 (fun u' s' hc => ?_) (fun u' hu' => ?_)
          · rw [s4.1 83 (by omega) (by omega) (by omega) (by omega), r3]
            by_cases hus : u' = v ∧ s' = s
            · rw [if_pos ⟨rfl, by omega⟩, hus.1, hus.2]
            · rw [if_neg (by omega)]; exact h83 u' s' (by omega)
          · rw [s4.1 85 (by omega) (by omega) (by omega) (by omega), r3, if_neg (by omega)]; exact h85 u' hu'
      -- the shire as it was told
      have cp : ∀ (u i : Nat) (M2 : Mem), u + i = 24 → Q M M2 → (∀ j, j < i → ri M2 69 j = ri M1 70 j) → (∀ k' j, k' ≠ 69 → ri M2 k' j = ri M1 k' j) → RI (d + 6) μX9_layFits 20 [(0, .ref 58), (1, .int k), (2, .int (nI (ctF (fit F st S1 c W k) v))), (3, .int (nI v)), (4, .int (nI i))] [] M2 K := by
        intro u
        induction u with
        | zero =>
          intro i M2 hi q2 h69 eo
          have hi : i = 24 := by omega
          subst hi
          refine sg_X9_layFits_20 ?_
          have e14 : (14 + nI (sn S1)) - 1 = nI (14 + (sn S1 - 1)) := by
            have := nI_pred (14 + (sn S1 - 1))
            rw [show 14 + (sn S1 - 1) + 1 = 14 + sn S1 by omega] at this
            rw [n_14]; exact this
          rw [if_pos (by decide), (hR.keep q2).2.2.2.1, ← hn, e14, show nx (nI (14 + (sn S1 - 1))) = 14 + (sn S1 - 1) from nI_clamp (by omega)]
          refine ⟨n_in (by omega) (by decide), fun M3 h3 => ?_⟩
          have r3 : ∀ k' j, ri M3 k' j = if k' = 69 ∧ j = 14 + (sn S1 - 1) then nI v else ri M2 k' j := by intro k' j; rw [h3, ri_wi]
          have a2 : Ar M2 69 S1 := c1.2.1.copy h12 h69
          refine seas 13 0 M3 rfl (q2.trans (by rw [h3]; exact Q.wi rfl)) ?_ (fun u' s' hc => by rw [r3, if_neg (by omega), eo 83 _ (by omega)]; exact h83 u' s' (by omega) (by omega)) (fun u' hu' => by rw [r3, if_neg (by omega), eo 85 _ (by omega)]; exact h85 u' hu')
          show Ar M3 69 (T0 S1 v)
          refine ⟨fun i hi => ?_, ?_, ?_, fun j hj => ?_, ?_, ?_⟩
          · have hi' : i < (sc S1).length := hi
            rw [r3, if_neg (by omega)]; exact a2.1 i hi
          · rw [r3, if_neg (by omega)]; exact a2.2.1
          · rw [r3, if_neg (by omega)]; exact a2.2.2.1
          · rw [r3]
            show _ = nI (if j = sn S1 - 1 then v else sz S1 j)
            by_cases hjl : j = sn S1 - 1
            · rw [if_pos ⟨rfl, by omega⟩, if_pos hjl]
            · rw [if_neg (by omega), if_neg hjl]; exact a2.2.2.2.1 j hj
          · rw [r3, if_neg (by omega)]; exact a2.2.2.2.2.1
          · rw [r3, if_neg (by omega)]; exact a2.2.2.2.2.2
        | succ u ihu =>
          intro i M2 hi q2 h69 eo
          refine sg_X9_layFits_20 ?_
          rw [if_neg (by rw [show (24 : Int32) = nI 24 from rfl, nI_leI (by omega) (by omega)]; omega), show nx (nI i) = i from nI_clamp (by omega), nI_1]
          refine ⟨n_in (by omega) (by decide), n_in (by omega) (by decide), fun M3 h3 => ?_⟩
          have r3 : ∀ k' j, ri M3 k' j = if k' = 69 ∧ j = i then ri M2 70 i else ri M2 k' j := by intro k' j; rw [h3, ri_wi]
          refine ihu (i + 1) M3 (by omega) (q2.trans (by rw [h3]; exact Q.wi rfl)) (fun j hj => ?_) (fun k' j hk' => by rw [r3, if_neg (fun z => hk' z.1)]; exact eo k' j hk')
          rw [r3]
          by_cases hji : j = i
          · rw [if_pos ⟨rfl, hji⟩, hji]; exact eo 70 i (by omega)
          · rw [if_neg (fun z => hji z.2)]; exact h69 j (by omega)
      exact cp 24 0 M1 rfl q1 (fun j h => absurd h (Nat.not_lt_zero _)) (fun _ _ _ => rfl)
  exact loop 31 0 M rfl Q.rf (fun u s hu => absurd hu (Nat.not_lt_zero _)) (fun u hu => absurd hu (Nat.not_lt_zero _))
