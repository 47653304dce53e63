/-! banners: the class -/
theorem sub_cols {S : Sh} {m r p X i : Nat} (hp : r + 1 + p = sn S) (hb : (sb S).testBit p = true) (h0 : X % m ^ tcR S (r + 1) = 0) (hi : i < m) : (X + i * m ^ tcR S r) % m ^ tcR S r = 0 ∧ col S m (X + i * m ^ tcR S r) p = nI i ∧ ∀ q, q < p → col S m (X + i * m ^ tcR S r) q = col S m X q := by
  have ep : sn S - (r + 1) = p := by omega
  have er : sn S - (p + 1) = r := by omega
  have er1 : sn S - p = r + 1 := by omega
  have et : tcR S (r + 1) = tcR S r + 1 := by
    show tcR S r + ((sb S).testBit (sn S - (r + 1))).toNat = _
    rw [ep, hb]; rfl
  have eM : m ^ tcR S (r + 1) = m ^ tcR S r * m := by rw [et, Nat.pow_succ]
  rw [eM] at h0
  have hMp : 0 < m ^ tcR S r := Nat.pow_pos (by omega)
  generalize hM : m ^ tcR S r = M at h0 eM hMp ⊢
  have eX : X = M * m * (X / (M * m)) := by
    have := Nat.div_add_mod X (M * m)
    omega
  have hmul : X + i * M = M * (m * (X / (M * m)) + i) := by
    conv => lhs; rw [eX]
    rw [Nat.mul_assoc, ← Nat.mul_comm M i, ← Nat.mul_add]
  have hlt : X + i * M + M ≤ X + M * m := by
    have : i * M + M ≤ M * m := by
      calc i * M + M = M * (i + 1) := by rw [Nat.mul_add, Nat.mul_one, Nat.mul_comm]
        _ ≤ M * m := Nat.mul_le_mul_left M hi
    omega
  refine ⟨by rw [hmul]; exact Nat.mul_mod_right M _, ?_, fun q hq => ?_⟩
  · unfold col
    rw [if_pos hb, er, hM, hmul, Nat.mul_div_cancel_left _ hMp, Nat.mul_add_mod, Nat.mod_eq_of_lt hi]
  · refine col_same (p := p) (by omega) ?_ hq
    rw [er1, eM]
    exact div_in h0 (by omega) (by omega)
def E43 (M M' : Mem) : Prop := (∀ k j, k ≠ 43 → ri M' k j = ri M k j) ∧ ∀ k j, rl M' k j = rl M k j
theorem E43.rf {M : Mem} : E43 M M := ⟨fun _ _ _ => rfl, fun _ _ => rfl⟩
theorem E43.trans {M M' M'' : Mem} (h : E43 M M') (h2 : E43 M' M'') : E43 M M'' := ⟨fun k j a => (h2.1 k j a).trans (h.1 k j a), fun k j => (h2.2 k j).trans (h.2 k j)⟩
theorem E43.fr {M M' : Mem} {S : Sh} (h : Fr M 27 S) (q : E43 M M') : Fr M' 27 S := h.keepK (fun k hk j => q.1 _ _ (by omega))
theorem E43.q {M M' : Mem} (h : E43 M M') : Q M M' := ⟨fun k j a _ => h.1 k j (scr_ne a rfl), h.2⟩
theorem e43_w {M : Mem} {j : Nat} {x : Int32} : E43 M (wi M 43 j x) := ⟨fun k j a => by rw [ri_wi, if_neg (fun q => a q.1)], fun _ _ => rfl⟩
theorem x_isFree {d m X p i : Nat} {M : Mem} {K : Int32 → Mem → Prop} {S : Sh} (hF : Fr M 27 S) (hp : p < sn S) (hA : ∀ q, q < p → ri M 43 q = col S m X q) (hK : K (bI (frE S m X p i)) M) : CI (d + 1) μX5_isFree [.ref 42, .ref 27, .int (nI p), .int (nI i)] M K := by
  have hS := hF.2.2
  have h8 := hS.1
  refine sg_X5_isFree_0 (by decide +kernel) ?_
  have loop : ∀ (r q : Nat), r + q = p → (∀ u, u < q → (nbm (sc S) p).testBit u = true → col S m X u ≠ nI i) → RI (d + 1) μX5_isFree 3 [(0, .ref 42), (1, .ref 27), (2, .int (nI p)), (3, .int (nI i)), (4, .int (nI q))] [] M K := by
    intro r
    induction r with
    | zero =>
      intro q hq hu
      have hq : q = p := by omega
      subst hq
      refine sg_X5_isFree_3 (by decide +kernel) ?_
      rw [if_pos (by rw [nI_leI (by omega) (by omega)]; omega)]
      rw [frE_iff.mpr hu] at hK
      exact hK
    | succ r ih =>
      intro q hq hu
      refine sg_X5_isFree_3 (by decide +kernel) ?_
      rw [if_neg (by rw [nI_leI (by omega) (by omega)]; omega), nI_1]
      refine c_meets (by decide +kernel) hF ?_
      rw [mtI_nat hS hp (by omega)]
      cases hb : (nbm (sc S) p).testBit q with
      | false =>
        rw [if_pos (by decide)]
        refine ih (q + 1) (by omega) (fun u hu2 hbu => ?_)
        by_cases huq : u = q
        · rw [huq, hb] at hbu; cases hbu
        · exact hu u (by omega) hbu
      | true =>
        rw [if_neg (by decide), show nx (nI q) = q from nI_clamp (by omega), hA q (by omega)]
        refine ⟨n_in (by omega) (by decide), ?_⟩
        by_cases he : col S m X q = nI i
        · rw [if_pos he]
          have : frE S m X p i = false := by
            cases hf : frE S m X p i with
            | false => rfl
            | true => exact absurd he (frE_iff.mp hf q (by omega) hb)
          rw [this] at hK
          exact hK
        · rw [if_neg he]
          refine ih (q + 1) (by omega) (fun u hu2 hbu => ?_)
          by_cases huq : u = q
          · rw [huq]; exact he
          · exact hu u (by omega) hbu
  exact loop p 0 (by omega) (fun u hu => absurd hu (Nat.not_lt_zero _))
def Gn1 (M : Mem) (S : Sh) : Prop := ∀ j, j < sn S → (sb S).testBit j = false → ri M 43 j = -1
theorem x_colour {d m : Nat} {S : Sh} (hm : m < 1000) : ∀ (r p X : Nat) (M : Mem) (K : Int32 → Mem → Prop), r + p = sn S → X % m ^ tcR S r = 0 → Fr M 27 S → (∀ q, q < p → ri M 43 q = col S m X q) → Gn1 M S → (∀ x M', fd S m r X = some x → E43 M M' → (∀ q, q < sn S → ri M' 43 q = col S m x q) → K 1 M') → (fd S m r X = none → ∀ M', E43 M M' → (∀ q, q < p → ri M' 43 q = col S m X q) → Gn1 M' S → K 0 M') → CI (d + r + 2) μX5_colourFrom [.ref 42, .ref 27, .int (nI p), .int (nI m)] M K := by
  intro r
  induction r with
  | zero =>
    intro p X M K hp h0 hF hA hG h1 h2
    have hp : p = sn S := by omega
    subst hp
    have h8 := hF.2.2.1
    refine sg_X5_colourFrom_0 (by decide +kernel) ?_
    rw [hF.1.1, if_pos (by rw [nI_leI (by omega) (by omega)]; omega)]
    exact h1 X M rfl E43.rf hA
  | succ r ih =>
    intro p X M K hp h0 hF hA hG h1 h2
    have hS := hF.2.2
    have h8 := hS.1
    have ep : sn S - (r + 1) = p := by omega
    have ef : fd S m (r + 1) X = if (sb S).testBit p = true then fdl (fun i => fd S m r (X + i * m ^ tcR S r)) (frE S m X p) m 0 else fd S m r X := by
      show (if (sb S).testBit (sn S - (r + 1)) = true then fdl (fun i => fd S m r (X + i * m ^ tcR S r)) (frE S m X (sn S - (r + 1))) m 0 else fd S m r X) = _
      rw [ep]
    rw [ef] at h1 h2
    refine sg_X5_colourFrom_0 (by decide +kernel) ?_
    rw [hF.1.1, if_neg (by rw [nI_leI (by omega) (by omega)]; omega), if_pos (by rw [show (8 : Int32) = nI 8 from rfl, nI_ltI (by omega) (by omega)]; omega), nI_1]
    refine c_isThere (by decide +kernel) hF.1 hS ?_
    rw [thI_nat hS (by omega)]
    cases hb : (sb S).testBit p with
    | false =>
      rw [if_pos (by decide)]
      rw [hb, if_neg (by decide)] at h1 h2
      have et : tcR S (r + 1) = tcR S r := by
        show tcR S r + ((sb S).testBit (sn S - (r + 1))).toNat = _
        rw [ep, hb]; rfl
      rw [et] at h0
      refine ih (p + 1) X M _ (by omega) h0 hF (fun q hq => ?_) hG (fun x M' hx e hc => ⟨Or.inr rfl, h1 x M' hx e hc⟩) (fun hx M' e hc hg => ⟨Or.inl rfl, h2 hx M' e (fun q hq => hc q (by omega)) hg⟩)
      by_cases hqp : q = p
      · rw [hqp, hG p (by omega) hb]
        unfold col
        rw [hb, if_neg (by decide)]
      · exact hA q (by omega)
    | true =>
      rw [if_neg (by decide)]
      rw [hb, if_pos rfl] at h1 h2
      have loop : ∀ (k i : Nat) (M1 : Mem), k + i = m → E43 M M1 → (∀ q, q < p → ri M1 43 q = col S m X q) → Gn1 M1 S → fdl (fun i => fd S m r (X + i * m ^ tcR S r)) (frE S m X p) k i = fdl (fun i => fd S m r (X + i * m ^ tcR S r)) (frE S m X p) m 0 → RI (d + (r + 1) + 2) μX5_colourFrom 37 [(0, .ref 42), (1, .ref 27), (2, .int (nI p)), (3, .int (nI m)), (4, .int (nI i))] [] M1 K := by
        intro k
        induction k with
        | zero =>
          intro i M1 hi e1 hA1 hG1 he
          refine sg_X5_colourFrom_37 (by decide +kernel) ?_
          rw [if_pos (by rw [nI_leI (by omega) (by omega)]; omega), show nx (nI p) = p from nI_clamp (by omega)]
          refine ⟨n_in (by omega) (by decide), fun M2 g2 => ?_⟩
          have r2 : ∀ k j, ri M2 k j = if k = 43 ∧ j = p then -1 else ri M1 k j := by intro k j; rw [g2, ri_wi]
          refine h2 he.symm M2 (e1.trans (by rw [g2]; exact e43_w)) (fun q hq => by rw [r2, if_neg (by omega)]; exact hA1 q hq) (fun j hj hbj => ?_)
          rw [r2]
          by_cases hjp : j = p
          · rw [if_pos ⟨rfl, hjp⟩]
          · rw [if_neg (fun q => hjp q.2)]; exact hG1 j hj hbj
        | succ k ihk =>
          intro i M1 hi e1 hA1 hG1 he
          have f1 := E43.fr hF e1
          have step : fdl (fun i => fd S m r (X + i * m ^ tcR S r)) (frE S m X p) (k + 1) i = if frE S m X p i = true then (match fd S m r (X + i * m ^ tcR S r) with
            | some x => some x
            | none => fdl (fun i => fd S m r (X + i * m ^ tcR S r)) (frE S m X p) k (i + 1)) else fdl (fun i => fd S m r (X + i * m ^ tcR S r)) (frE S m X p) k (i + 1) := rfl
          rw [step] at he
          refine sg_X5_colourFrom_37 (by decide +kernel) ?_
          rw [if_neg (by rw [nI_leI (by omega) (by omega)]; omega), show nx (nI p) = p from nI_clamp (by omega)]
          rw [show nI i + 1 = nI (i + 1) by rw [nI_1], show nI p + 1 = nI (p + 1) by rw [nI_1]]
          refine x_isFree (m := m) (X := X) f1 (by omega) hA1 ?_
          cases hok : frE S m X p i with
          | false =>
            rw [if_pos (by decide)]
            rw [hok, if_neg (by decide)] at he
            exact ihk (i + 1) M1 (by omega) e1 hA1 hG1 he
          | true =>
            rw [if_neg (by decide)]
            rw [hok, if_pos rfl] at he
            refine ⟨n_in (by omega) (by decide), fun M2 g2 => ?_⟩
            have r2 : ∀ k j, ri M2 k j = if k = 43 ∧ j = p then nI i else ri M1 k j := by intro k j; rw [g2, ri_wi]
            have e2 : E43 M M2 := e1.trans (by rw [g2]; exact e43_w)
            obtain ⟨s0, sp, sq⟩ := sub_cols (m := m) (X := X) (i := i) hp hb h0 (by omega)
            refine ih (p + 1) (X + i * m ^ tcR S r) M2 _ (by omega) s0 (E43.fr hF e2) (fun q hq => ?_) (fun j hj hbj => ?_) (fun x M' hx e hc => ?_) (fun hx M' e hc hg => ?_)
            · rw [r2]
              by_cases hqp : q = p
              · rw [if_pos ⟨rfl, hqp⟩, hqp, sp]
              · rw [if_neg (fun z => hqp z.2), hA1 q (by omega), sq q (by omega)]
            · rw [r2, if_neg (fun z => by rw [z.2, hb] at hbj; cases hbj)]; exact hG1 j hj hbj
            · rw [if_neg (by decide)]
              rw [hx] at he
              exact h1 x M' he.symm (e2.trans e) hc
            · rw [if_pos rfl]
              rw [hx] at he
              exact ihk (i + 1) M' (by omega) (e2.trans e) (fun q hq => by rw [hc q (by omega), sq q hq]) hg he
      exact loop m 0 M rfl E43.rf hA hG rfl
def colL (S : Sh) (m x : Nat) : List Int32 := (List.range (sn S)).map (col S m x)
theorem colL_at {S : Sh} {m x i : Nat} (hi : i < sn S) : (colL S m x)[i]?.getD 0 = col S m x i := by
  unfold colL
  rw [List.getElem?_map, List.getElem?_range hi]; rfl
theorem x_banners {d m x : Nat} {M : Mem} {K : Int32 → Mem → Prop} {S : Sh} (hF : Fr M 27 S) (hm : m ≤ 7) (hx : fd S m (sn S) 0 = some x) (hl : ∀ c, c < m → fd S c (sn S) 0 = none) (hK : ∀ M', QL 0 M M' → LyX M' (colL S m x) → K (nI m) M') : CI (d + 12) μX8_banners [.ref 0] M K := by
  have hS := hF.2.2
  have h8 := hS.1
  refine sg_X8_banners_0 ?_
  refine sg_X5_fewestColours_0 (by decide +kernel) ?_
  have fin : ∀ M1, E43 M M1 → (∀ q, q < sn S → ri M1 43 q = col S m x q) → CV (d + 11) μX8_layDown [.ref 0, .int (ri M1 27 0)] M1 (fun M3 => K (nI m) M3) := by
    intro M1 e1 hc
    rw [(E43.fr hF e1).1.1]
    refine x_layDown (L := colL S m x) (by unfold colL; simp) h8 (fun i hi => by rw [hc i hi, colL_at hi]) (fun M2 q2 l2 => ?_)
    exact hK M2 (e1.q.l.trans q2) l2
  have main : ∀ (r c : Nat) (M1 : Mem), r + c = 8 → c ≤ m → E43 M M1 → Gn1 M1 S → RI (d + 11) μX5_fewestColours 23 [(0, .ref 42), (1, .ref 27), (2, .int (nI c))] [] M1 (fun r2 M1 => (CV (d + 11) μX8_layDown [.ref 0, .int (ri M1 27 0)] M1 (fun M3 => K r2 M3))) := by
    intro r
    induction r with
    | zero => intro c M1 hc hcm; omega
    | succ r ih =>
      intro c M1 hc hcm e1 hG1
      refine sg_X5_fewestColours_23 (by decide +kernel) ?_
      rw [if_neg (by rw [show (8 : Int32) = nI 8 from rfl, nI_leI (by omega) (by omega)]; omega), nI_1]
      have hx2 := x_colour (d := d + 8 - sn S) (m := c) (S := S) (by omega) (sn S) 0 0 M1 (fun r2 M1 => (if r2 = 0 then RI (d + 11) μX5_fewestColours 23 [(0, .ref 42), (1, .ref 27), (2, .int (nI (c + 1)))] [] M1 (fun r2 M1 => (CV (d + 11) μX8_layDown [.ref 0, .int (ri M1 27 0)] M1 (fun M3 => K r2 M3))) else CV (d + 11) μX8_layDown [.ref 0, .int (ri M1 27 0)] M1 (fun M3 => K (nI c) M3))) (by omega) (Nat.zero_mod _) (E43.fr hF e1) (fun q hq => absurd hq (Nat.not_lt_zero _)) hG1 (fun y M' hy e hcol => ?_) (fun hn M' e _ hg => ?_)
      · rw [show d + 8 - sn S + sn S + 2 = d + 10 by omega] at hx2
        exact hx2
      · rw [if_neg (by decide)]
        have hcm2 : c = m := by
          by_cases hlt : c < m
          · rw [hl c hlt] at hy; cases hy
          · omega
        subst hcm2
        rw [hx] at hy
        cases hy
        exact fin M' (e1.trans e) hcol
      · rw [if_pos rfl]
        have hcm2 : c < m := by
          by_cases hlt : c < m
          · exact hlt
          · have : c = m := by omega
            rw [this, hx] at hn; cases hn
        exact ih (c + 1) M' (by omega) (by omega) (e1.trans e) hg
  have init : ∀ (r j : Nat) (M1 : Mem), r + j = 8 → E43 M M1 → (∀ i, i < j → ri M1 43 i = -1) → RI (d + 11) μX5_fewestColours 2 [(0, .ref 42), (1, .ref 27), (2, .int (nI j))] [] M1 (fun r2 M1 => (CV (d + 11) μX8_layDown [.ref 0, .int (ri M1 27 0)] M1 (fun M3 => K r2 M3))) := by
    intro r
    induction r with
    | zero =>
      intro j M1 hj e1 hn
      have hj : j = 8 := by omega
      subst hj
      refine sg_X5_fewestColours_2 (by decide +kernel) ?_
      rw [if_pos (by decide)]
      exact main 8 0 M1 rfl (Nat.zero_le _) e1 (fun i hi _ => hn i (by omega))
    | succ r ih =>
      intro j M1 hj e1 hn
      refine sg_X5_fewestColours_2 (by decide +kernel) ?_
      rw [if_neg (by rw [show (8 : Int32) = nI 8 from rfl, nI_leI (by omega) (by omega)]; omega), nI_1, show nx (nI j) = j from nI_clamp (by omega)]
      refine ⟨n_in (by omega) (by decide), fun M2 g2 => ?_⟩
      refine ih (j + 1) M2 (by omega) (e1.trans (by rw [g2]; exact e43_w)) (fun i hi => ?_)
      rw [g2, ri_wi]
      by_cases hij : i = j
      · rw [if_pos ⟨rfl, hij⟩]
      · rw [if_neg (fun q => hij q.2)]; exact hn i (by omega)
  exact init 8 0 M rfl E43.rf (fun i hi => absurd hi (Nat.not_lt_zero _))
