/-! boost -/
def boI (P : Nat → Nat → Option Nat) (n a : Nat) : Nat → Int32 × Int32 → Int32 × Int32
  | 0, s => s
  | r + 1, s => boI P n a r (match P a (n - (r + 1)) with
    | none => s
    | some z => if nI z ≤ s.2 then s else (nI (8 * a + (n - (r + 1))), nI z))
def boO (P : Nat → Nat → Option Nat) (n : Nat) : Nat → Int32 × Int32 → Int32 × Int32
  | 0, s => s
  | r + 1, s => boO P n r (boI P n (n - (r + 1)) r s)
theorem boI_at {P : Nat → Nat → Option Nat} {n a r b : Nat} {s : Int32 × Int32} (e : r + 1 + b = n) : boI P n a (r + 1) s = boI P n a r (match P a b with
    | none => s
    | some z => if nI z ≤ s.2 then s else (nI (8 * a + b), nI z)) := by
  show boI P n a r (match P a (n - (r + 1)) with
    | none => s
    | some z => if nI z ≤ s.2 then s else (nI (8 * a + (n - (r + 1))), nI z)) = _
  rw [show n - (r + 1) = b by omega]
theorem boO_at {P : Nat → Nat → Option Nat} {n r a : Nat} {s : Int32 × Int32} (e : r + 1 + a = n) : boO P n (r + 1) s = boO P n r (boI P n a r s) := by
  show boO P n r (boI P n (n - (r + 1)) r s) = _
  rw [show n - (r + 1) = a by omega]
def boP (F : List Int32) (st : Nat) (S : Sh) (l n a b : Nat) : Option Nat := if fe S a b ≠ 0 then some (sz (goS F st false n (flipS S a b)) l) else none
def aBoost (F : List Int32) (st : Nat) (S : Sh) (x n w : Int32) : Int32 := if thI S x = true ∧ (0 ≤ n ∧ n ≤ 30) ∧ (0 ≤ w ∧ w ≤ 1) then (if w = 0 then (boO (boP F st S (nx x) (nx n)) (sn S) (sn S) (-1, -1)).1 else (boO (boP F st S (nx x) (nx n)) (sn S) (sn S) (-1, -1)).2) else -1
theorem x_sizeBehind {d t : Nat} {M : Mem} {K : Int32 → Mem → Prop} {F : List Int32} {st : Nat} {S S1 : Sh} {l n a b : Nat} (hX : CX M t F st S S1) (hG : GS S) (hl : l < sn S) (ha : a < sn S) (hb : b < sn S) (hn : n < 1000) (hK : ∀ M', Q M M' → K (match boP F st S l n a b with
    | none => -1
    | some z => nI z) M') : CI (d + 6) μX8_sizeBehindFlip [.ref 0, .int (nI l), .int (nI n), .int (nI a), .int (nI b)] M K := by
  have hF := hX.2.2.2.2.2
  have hS := hF.2.2
  have h8 := hS.1
  refine sg_X8_sizeBehindFlip_0 (c_flippedEnds (by decide +kernel) hF ?_)
  have hlt := feI_lt hS (nI a) (nI b)
  rw [feI_nat hS ha hb] at hlt ⊢
  unfold boP at hK
  by_cases hf : fe S a b = 0
  · rw [if_pos (by rw [hf]; rfl)]
    rw [if_neg (by simp [hf])] at hK
    exact hK M Q.rf
  rw [if_neg (by rw [show (0 : Int32) = nI 0 from rfl, nI_eq (by omega) (by omega)]; exact hf)]
  rw [if_pos hf] at hK
  refine c_copyFrom (by decide +kernel) (by decide +kernel) (by decide) hF (fun M1 s1 f1 => ?_)
  refine c_turnWall (by decide +kernel) f1 (fun h => by rw [feI_nat hS ha hb] at h; exact absurd h hf) (fun i j M2 e1 e2 hi hj _ s2 f2 => ?_)
  have e1 := nI_inj (by omega) (by omega) e1
  have e2 := nI_inj (by omega) (by omega) e2
  subst e1 e2
  have hX2 := hX.keep (s1.q.trans s2.q)
  refine ⟨t, hX2.1, (tell_kd hX.2.1).1, ?_⟩
  refine c_passSeasons (straw := 0) (by decide +kernel) (tell_kd hX.2.1).2.1 GS_Clo (by omega) hn f2 (GS_flip hG ha hb hf) hX2.2.2.1 (fun M3 s3 f3 g3 _ => ?_)
  obtain ⟨v, hv⟩ := go_tie F st n (flipS S a b) (flipS S a b) ⟨sd S, rfl⟩
  rw [hv] at f3
  rw [show nx (nI l) = l from nI_clamp (by omega), f3.1.2.2.2.2.2.1 l (by omega)]
  exact ⟨n_in (by omega) (by decide), hK M3 ((s1.q.trans s2.q).trans (s3.q hX.2.1))⟩
theorem m1_le (n : Nat) (h : n < 2 ^ 31) : (-1 : Int32) ≤ nI n := by
  have : (0 : Int32) ≤ nI n := by rw [show (0 : Int32) = nI 0 from rfl, nI_leI (by omega) h]; omega
  exact Int32.le_trans (by decide) this
theorem x_boost {d t : Nat} {M : Mem} {K : Int32 → Mem → Prop} {F : List Int32} {st : Nat} {S S1 : Sh} {x n w : Int32} (hX : CX M t F st S S1) (hP : CP F st S S1) (hK : ∀ M', Q M M' → K (aBoost F st S x n w) M') : CI (d + 7) μX8_boost [.ref 0, .int x, .int n, .int w] M K := by
  have hF := hX.2.2.2.2.2
  have hS := hF.2.2
  have h8 := hS.1
  refine sg_X8_boost_0 (c_isThere (by decide +kernel) hF.1 hS ?_)
  have hk := hK M Q.rf
  unfold aBoost at hk hK
  cases hth : thI S x with
  | false => rw [if_pos (by decide)]; rw [if_neg (by rw [hth]; simp)] at hk; exact hk
  | true =>
    rw [if_neg (by decide)]
    by_cases h1 : n < 0
    · rw [if_pos h1]; rw [if_neg (fun q => absurd h1 (i_nlt.mpr q.2.1.1))] at hk; exact hk
    rw [if_neg h1]
    by_cases h2 : 30 < n
    · rw [if_pos h2]; rw [if_neg (fun q => absurd h2 (i_nlt.mpr q.2.1.2))] at hk; exact hk
    rw [if_neg h2]
    by_cases h3 : w < 0
    · rw [if_pos h3]; rw [if_neg (fun q => absurd h3 (i_nlt.mpr q.2.2.1))] at hk; exact hk
    rw [if_neg h3]
    by_cases h4 : w ≤ 1
    · rw [if_pos h4]
      rw [if_pos ⟨hth, ⟨i_nlt.mp h1, i_nlt.mp h2⟩, i_nlt.mp h3, h4⟩] at hK
      obtain ⟨l, hl, rfl, -⟩ := thI_is hS hth
      obtain ⟨k, hk30, rfl⟩ := le_nat (i_nlt.mp h1) (i_nlt.mp h2) (k := 30) (by decide)
      have e1 : nx (nI l) = l := nI_clamp (by omega)
      have e2 : nx (nI k) = k := nI_clamp (by omega)
      rw [e1, e2] at hK
      have inner : ∀ (a : Nat), a < sn S → ∀ (r b : Nat) (s : Int32 × Int32) (M1 : Mem), r + b = sn S → Q M M1 → (-1 : Int32) ≤ s.2 → (∀ s' M', s' = boI (boP F st S l k) (sn S) a r s → (-1 : Int32) ≤ s'.2 → Q M M' → RI (d + 7) μX8_boost 41 [(0, .ref 0), (1, .int (nI l)), (2, .int (nI k)), (3, .int w), (4, .int s'.1), (5, .int s'.2), (6, .int (nI (a + 1)))] [] M' K) → RI (d + 7) μX8_boost 59 [(0, .ref 0), (1, .int (nI l)), (2, .int (nI k)), (3, .int w), (4, .int s.1), (5, .int s.2), (6, .int (nI a)), (7, .int (nI b))] [] M1 K := by
        intro a ha r
        induction r with
        | zero =>
          intro b s M1 hb q1 hs hk2
          refine sg_X8_boost_59 ?_
          rw [(hX.keep q1).2.2.2.2.2.1.1, if_pos (by rw [nI_leI (by omega) (by omega)]; omega), nI_1]
          exact hk2 s M1 rfl hs q1
        | succ r ih =>
          intro b s M1 hb q1 hs hk2
          have hX1 := hX.keep q1
          rw [boI_at (show r + 1 + b = sn S by omega)] at hk2
          refine sg_X8_boost_59 ?_
          rw [hX1.2.2.2.2.2.1.1, if_neg (by rw [nI_leI (by omega) (by omega)]; omega), nI_1]
          refine x_sizeBehind hX1 hP.1 hl ha (by omega) (by omega) (fun M2 q2 => ?_)
          cases hbo : boP F st S l k a b with
          | none =>
            rw [hbo] at hk2
            rw [if_pos hs]
            exact ih (b + 1) s M2 (by omega) (q1.trans q2) hs hk2
          | some z =>
            rw [hbo] at hk2
            show if nI z ≤ s.2 then _ else _
            simp only at hk2
            by_cases hz : nI z ≤ s.2
            · rw [if_pos hz]
              rw [if_pos hz] at hk2
              exact ih (b + 1) s M2 (by omega) (q1.trans q2) hs hk2
            · rw [if_neg hz]
              rw [if_neg hz] at hk2
              rw [nI_88]
              refine ih (b + 1) (nI (8 * a + b), nI z) M2 (by omega) (q1.trans q2) ?_ hk2
              exact Int32.le_of_lt (Int32.lt_of_le_of_lt hs (i_nle.mp hz))
      have outer : ∀ (r a : Nat) (s : Int32 × Int32) (M1 : Mem), r + a = sn S → Q M M1 → (-1 : Int32) ≤ s.2 → (∀ M', Q M M' → K (if w = 0 then (boO (boP F st S l k) (sn S) r s).1 else (boO (boP F st S l k) (sn S) r s).2) M') → RI (d + 7) μX8_boost 41 [(0, .ref 0), (1, .int (nI l)), (2, .int (nI k)), (3, .int w), (4, .int s.1), (5, .int s.2), (6, .int (nI a))] [] M1 K := by
        intro r
        induction r with
        | zero =>
          intro a s M1 ha q1 hs hk1
          refine sg_X8_boost_41 ?_
          rw [(hX.keep q1).2.2.2.2.2.1.1, if_pos (by rw [nI_leI (by omega) (by omega)]; omega)]
          have := hk1 M1 q1
          by_cases hw : w = 0
          · rw [if_pos hw]; rw [if_pos hw] at this; exact this
          · rw [if_neg hw]; rw [if_neg hw] at this; exact this
        | succ r ih =>
          intro a s M1 ha q1 hs hk1
          rw [boO_at (show r + 1 + a = sn S by omega)] at hk1
          refine sg_X8_boost_41 ?_
          rw [(hX.keep q1).2.2.2.2.2.1.1, if_neg (by rw [nI_leI (by omega) (by omega)]; omega), nI_1]
          refine inner a (by omega) r (a + 1) s M1 (by omega) q1 hs (fun s' M' e hs' q' => ?_)
          rw [← e] at hk1
          exact ih (a + 1) s' M' (by omega) q' hs' hk1
      exact outer (sn S) 0 (-1, -1) M (by omega) Q.rf (by decide) hK
    · rw [if_neg h4]; rw [if_neg (fun q => absurd q.2.2.2 h4)] at hk; exact hk
theorem m_boost {d : Nat} {M : Mem} {K : Int32 → Mem → Prop} {F : List Int32} {st : Nat} {S S1 : Sh} {x n w : Int32} (hR : CR M F st S S1) (hP : CP F st S S1) (hK : ∀ M', Q M M' → K (aBoost F st S x n w) M') : CI (d + 7) μX9_boost [.ref 58, .int x, .int n, .int w] M K := by
  have hS := hP.1.1
  have h8 := hS.1
  refine sg_X9_boost_0 (r_isThereNow hR hS (fun M1 q1 a1 c1 => ?_))
  have hk := hK M1 q1
  unfold aBoost at hk hK
  cases hth : thI S x with
  | false => rw [if_pos (by decide)]; rw [if_neg (by rw [hth]; simp)] at hk; exact hk
  | true =>
    rw [if_neg (by decide)]
    refine r_isIn ?_
    by_cases h1 : 0 ≤ n ∧ n ≤ 30
    · rw [if_neg (bI_ne (decide_eq_true h1))]
      refine r_isIn ?_
      by_cases h2 : 0 ≤ w ∧ w ≤ 1
      · rw [if_neg (bI_ne (decide_eq_true h2))]
        rw [if_pos ⟨hth, h1, h2⟩] at hK
        obtain ⟨l, hl, rfl, -⟩ := thI_is hS hth
        obtain ⟨k, hk30, rfl⟩ := le_nat h1.1 h1.2 (k := 30) (by decide)
        have e1 : nx (nI l) = l := nI_clamp (by omega)
        have e2 : nx (nI k) = k := nI_clamp (by omega)
        rw [e1, e2] at hK
        have inner : ∀ (a : Nat), a < sn S → ∀ (r b : Nat) (s : Int32 × Int32) (M1 : Mem), r + b = sn S → Q M M1 → (∀ s' M', s' = boI (boP F st S l k) (sn S) a r s → Q M M' → RI (d + 7) μX9_boost 38 [(0, .ref 58), (1, .int (nI l)), (2, .int (nI k)), (3, .int w), (4, .int s'.1), (5, .int s'.2), (6, .int (nI (a + 1)))] [] M' K) → RI (d + 7) μX9_boost 53 [(0, .ref 58), (1, .int (nI l)), (2, .int (nI k)), (3, .int w), (4, .int s.1), (5, .int s.2), (6, .int (nI a)), (7, .int (nI b))] [] M1 K := by
          intro a ha r
          induction r with
          | zero =>
            intro b s M1 hb q1 hk2
            refine sg_X9_boost_53 ?_
            rw [(hR.keep q1).2.2.2.1, if_pos (by rw [nI_leI (by omega) (by omega)]; omega), nI_1]
            exact hk2 s M1 rfl q1
          | succ r ih =>
            intro b s M1 hb q1 hk2
            rw [boI_at (show r + 1 + b = sn S by omega)] at hk2
            refine sg_X9_boost_53 ?_
            rw [(hR.keep q1).2.2.2.1, if_neg (by rw [nI_leI (by omega) (by omega)]; omega), nI_1]
            refine r_fillS (hR.keep q1) hS (fun M2 q2 a2 c2 => ?_)
            refine r_canFlip ha (by omega) hS hP.1.2.2.1 hP.1.2.2.2.1 a2 ?_
            unfold boP at hk2
            by_cases hf : fe S a b = 0
            · rw [if_pos (bI_eq (by simp [hf]))]
              rw [if_neg (by simp [hf])] at hk2
              exact ih (b + 1) s M2 (by omega) (q1.trans q2) hk2
            · rw [if_neg (bI_ne (by simp [hf]))]
              rw [if_pos hf] at hk2
              refine r_doFlip ha (by omega) hS hP.1.2.1 hP.1.2.2.1 hP.1.2.2.2.1 hf a2 (fun M3 s3 a3 => ?_)
              refine go0 (S := flipS S a b) (c2.keep s3.q) rfl (GS_flip hP.1 ha (by omega) hf) hP.2.2.2.1 hP.2.2.2.2 (by omega) a3 (fun M4 q4 a4 g4 => ?_)
              have qq := ((q1.trans q2).trans s3.q).trans q4
              have h14 := n_in14 (show l < 8 by omega)
              rw [h14.2, a4.2.2.2.1 l (by omega)]
              refine ⟨h14.1, ?_⟩
              simp only at hk2
              by_cases hz : nI (sz (goS F st false k (flipS S a b)) l) ≤ s.2
              · rw [if_neg (i_nlt.mpr hz)]
                rw [if_pos hz] at hk2
                exact ih (b + 1) s M4 (by omega) qq hk2
              · rw [if_pos (i_nle.mp hz)]
                rw [if_neg hz] at hk2
                rw [nI_8]
                exact ⟨h14.1, ih (b + 1) _ M4 (by omega) qq hk2⟩
        have outer : ∀ (r a : Nat) (s : Int32 × Int32) (M1 : Mem), r + a = sn S → Q M M1 → (∀ M', Q M M' → K (if w = 0 then (boO (boP F st S l k) (sn S) r s).1 else (boO (boP F st S l k) (sn S) r s).2) M') → RI (d + 7) μX9_boost 38 [(0, .ref 58), (1, .int (nI l)), (2, .int (nI k)), (3, .int w), (4, .int s.1), (5, .int s.2), (6, .int (nI a))] [] M1 K := by
          intro r
          induction r with
          | zero =>
            intro a s M1 ha q1 hk1
            refine sg_X9_boost_38 ?_
            rw [(hR.keep q1).2.2.2.1, if_pos (by rw [nI_leI (by omega) (by omega)]; omega)]
            have := hk1 M1 q1
            by_cases hw : w = 0
            · rw [if_pos hw]; rw [if_pos hw] at this; exact this
            · rw [if_neg hw]; rw [if_neg hw] at this; exact this
          | succ r ih =>
            intro a s M1 ha q1 hk1
            rw [boO_at (show r + 1 + a = sn S by omega)] at hk1
            refine sg_X9_boost_38 ?_
            rw [(hR.keep q1).2.2.2.1, if_neg (by rw [nI_leI (by omega) (by omega)]; omega), nI_1]
            refine inner a (by omega) r (a + 1) s M1 (by omega) q1 (fun s' M' e q' => ?_)
            rw [← e] at hk1
            exact ih (a + 1) s' M' (by omega) q' hk1
        exact outer (sn S) 0 (-1, -1) M1 (by omega) q1 hK
      · rw [if_pos (bI_eq (decide_eq_false h2))]
        rw [if_neg (fun q => h2 q.2.2)] at hk
        exact hk
    · rw [if_pos (bI_eq (decide_eq_false h1))]
      rw [if_neg (fun q => h1 q.2.1)] at hk
      exact hk
