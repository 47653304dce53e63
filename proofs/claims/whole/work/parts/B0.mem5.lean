/-! fits, sure, ask: the model's answers -/
theorem m_fits {d c : Nat} {M : Mem} {K : Int32 → Mem → Prop} {F : List Int32} {st : Nat} {S S1 : Sh} {W : Nat → Sight} {k : Int32} (hR : CR M F st S S1) (hP : CP F st S S1) (hA : ATh S1) (hW : WOk c W) (hM : MM M c W) (hK : ∀ M', Q M M' → K (aFits F st S1 c W k) M') : CI (d + 7) μX9_fits [.ref 58, .int k] M K := by
  refine sg_X9_fits_0 (m_layFits (k := k) hR hP hA hW hM (fun h => ?_) (fun h M1 q1 _ _ => ?_))
  · have := hK M Q.rf
    unfold aFits at this; rw [if_pos h] at this; exact this
  · have := hK M1 q1
    unfold aFits at this; rw [if_neg h] at this; exact this
/-- going up, the first that fits stays, or the last takes its place -/
def srF (f : Nat → Bool) (up : Bool) : Nat → Nat → Int32 → Int32
  | 0, _, a => a
  | r + 1, v, a => srF f up r (v + 1) (if f v = true ∧ (a < 0 ∨ up = true) then nI v else a)
theorem srF_keep (f : Nat → Bool) : ∀ (r v : Nat) (a : Int32), 0 ≤ a → srF f false r v a = a
  | 0, _, _, _ => rfl
  | r + 1, v, a, h => by
    show srF f false r (v + 1) (if f v = true ∧ (a < 0 ∨ false = true) then nI v else a) = a
    rw [if_neg (fun q => by rcases q.2 with q | q; exact absurd q (i_nlt.mpr h); cases q)]
    exact srF_keep f r (v + 1) a h
theorem nI_nn {v : Nat} (h : v < 2 ^ 31) : (0 : Int32) ≤ nI v := by rw [show (0 : Int32) = nI 0 from rfl, nI_leI (by omega) h]; omega
theorem srF_least (f : Nat → Bool) : ∀ (r v : Nat), r + v = 31 → srF f false r v (-1) = lsF f r v
  | 0, _, _ => rfl
  | r + 1, v, h => by
    show srF f false r (v + 1) (if f v = true ∧ ((-1 : Int32) < 0 ∨ false = true) then nI v else -1) = if f v = true then nI v else lsF f r (v + 1)
    by_cases hf : f v = true
    · rw [if_pos ⟨hf, Or.inl (by decide)⟩, if_pos hf]
      exact srF_keep f r (v + 1) (nI v) (nI_nn (by omega))
    · rw [if_neg (fun q => hf q.1), if_neg hf]
      exact srF_least f r (v + 1) (by omega)
theorem srF_up (f : Nat → Bool) : ∀ (r v : Nat), r + v = 31 → srF f true r v (gsF f v) = gsF f 31
  | 0, v, h => by
    have : v = 31 := by omega
    rw [this]; rfl
  | r + 1, v, h => by
    show srF f true r (v + 1) (if f v = true ∧ (gsF f v < 0 ∨ true = true) then nI v else gsF f v) = gsF f 31
    have := srF_up f r (v + 1) (by omega)
    have e : gsF f (v + 1) = if f v = true then nI v else gsF f v := rfl
    rw [e] at this
    rw [← this]
    by_cases hf : f v = true
    · rw [if_pos ⟨hf, Or.inr rfl⟩, if_pos hf]
    · rw [if_neg (fun q => hf q.1), if_neg hf]
theorem m_sure {d c : Nat} {M : Mem} {K : Int32 → Mem → Prop} {F : List Int32} {st : Nat} {S S1 : Sh} {W : Nat → Sight} {x k : Int32} (hR : CR M F st S S1) (hP : CP F st S S1) (hA : ATh S1) (hW : WOk c W) (hM : MM M c W) (hK : ∀ M', Q M M' → K (aSure F st S1 c W x k) M') : CI (d + 7) μX9_sure [.ref 58, .int x, .int k] M K := by
  refine sg_X9_sure_0 (r_isIn ?_)
  have hk := hK M Q.rf
  unfold aSure at hk hK
  by_cases h1 : 0 ≤ x ∧ x ≤ 1
  · rw [if_neg (bI_ne (decide_eq_true h1))]
    refine m_layFits (k := k) hR hP hA hW hM (fun h => ?_) (fun h M1 q1 e83 e85 => ?_)
    · rw [if_pos rfl]; rw [if_neg (fun q => q.2.1 h)] at hk; exact hk
    · have hl := ctF_le (fit F st S1 c W k) 31
      have hk1 := hK M1 q1
      by_cases hz : ctF (fit F st S1 c W k) 31 = 0
      · rw [if_pos (by rw [hz]; rfl)]; rw [if_neg (fun q => q.2.2 hz)] at hk1; exact hk1
      · rw [if_neg (fun q => hz ((n_z (by omega)).mp q))]
        rw [if_pos ⟨h1, h, hz⟩] at hk1
        have fin : srF (fit F st S1 c W k) (decide (x = 1)) 31 0 (-1) = if x = 0 then lsF (fit F st S1 c W k) 31 0 else gsF (fit F st S1 c W k) 31 := by
          by_cases hx : x = 0
          · rw [if_pos hx, decide_eq_false (by rw [hx]; decide)]; exact srF_least _ 31 0 rfl
          · have hx1 : x = 1 := by
              obtain ⟨j, hj, rfl⟩ := le_nat h1.1 h1.2 (k := 1) (by omega)
              have : j = 0 ∨ j = 1 := by omega
              rcases this with rfl | rfl
              · exact absurd rfl hx
              · rfl
            rw [if_neg hx, decide_eq_true hx1]; exact srF_up _ 31 0 rfl
        rw [← fin] at hk1
        generalize hf : fit F st S1 c W k = f at *
        have loop : ∀ (r v : Nat) (a : Int32), r + v = 31 → K (srF f (decide (x = 1)) r v a) M1 → RI (d + 7) μX9_sure 24 [(0, .ref 58), (1, .int x), (2, .int k), (3, .int a), (4, .int (nI v))] [] M1 K := by
          intro r
          induction r with
          | zero =>
            intro v a hv hk
            refine sg_X9_sure_24 ?_
            rw [if_pos (by rw [show (30 : Int32) = nI 30 from rfl, nI_ltI (by omega) (by omega)]; omega)]
            exact hk
          | succ r ih =>
            intro v a hv hk
            have hk : K (srF f (decide (x = 1)) r (v + 1) (if f v = true ∧ (a < 0 ∨ decide (x = 1) = true) then nI v else a)) M1 := hk
            refine sg_X9_sure_24 ?_
            rw [if_neg (by rw [show (30 : Int32) = nI 30 from rfl, nI_ltI (by omega) (by omega)]; omega), show nx (nI v) = v from nI_clamp (by omega), e85 v (by omega), nI_1]
            refine ⟨n_in (by omega) (by decide), ?_⟩
            cases hq : f v with
            | false =>
              rw [if_pos (by decide)]
              rw [if_neg (fun q => by rw [hq] at q; cases q.1)] at hk
              exact ih (v + 1) a (by omega) hk
            | true =>
              rw [if_neg (by decide)]
              by_cases ha : a < 0
              · rw [if_pos ha]
                rw [if_pos ⟨hq, Or.inl ha⟩] at hk
                exact ih (v + 1) _ (by omega) hk
              · rw [if_neg ha]
                by_cases hx : x = 1
                · rw [if_pos hx]
                  rw [if_pos ⟨hq, Or.inr (decide_eq_true hx)⟩] at hk
                  exact ih (v + 1) _ (by omega) hk
                · rw [if_neg hx]
                  rw [if_neg (fun q => by
                    rcases q.2 with q | q
                    · exact ha q
                    · exact hx (of_decide_eq_true q))] at hk
                  exact ih (v + 1) a (by omega) hk
        exact loop 31 0 (-1) rfl hk1
  · rw [if_pos (bI_eq (decide_eq_false h1))]
    rw [if_neg (fun q => h1 q.1)] at hk
    exact hk
theorem m_leftBy {d s : Nat} {M : Mem} {K : Int32 → Mem → Prop} {f : Nat → Bool} {sd : Nat → Nat → Nat} (hf : FtM M f) (hs : s < 13) (h54 : ∀ v s, v < 31 → s < 13 → ri M 83 (13 * v + s) = nI (sd v s)) (hle : ∀ v s, v < 31 → sd v s ≤ 7) (hK : ∀ M', (∀ k j, k ≠ 84 → ri M' k j = ri M k j) → (∀ k j, rl M' k j = rl M k j) → K (nI (mlF f (fun v => sd v s) 31 0 (fun _ => 0) 0)) M') : CI (d + 1) μX9_leftBy [.ref 58, .int (nI s)] M K := by
  refine sg_X9_leftBy_0 ?_
  have main : ∀ (r v m : Nat) (t : Nat → Nat) (M1 : Mem), r + v = 31 → m ≤ v → (∀ x, t x ≤ v) → (∀ k j, k ≠ 84 → ri M1 k j = ri M k j) → (∀ k j, rl M1 k j = rl M k j) → (∀ x, x < 13 → ri M1 84 x = nI (t x)) → (∀ M', (∀ k j, k ≠ 84 → ri M' k j = ri M k j) → (∀ k j, rl M' k j = rl M k j) → K (nI (mlF f (fun v => sd v s) r v t m)) M') → RI (d + 1) μX9_leftBy 25 [(0, .ref 58), (1, .int (nI s)), (2, .int (nI m)), (3, .int (nI v))] [] M1 K := by
    intro r
    induction r with
    | zero =>
      intro v m t M1 hv hm ht e1 e2 e56 hk
      refine sg_X9_leftBy_25 ?_
      rw [if_pos (by rw [show (30 : Int32) = nI 30 from rfl, nI_ltI (by omega) (by omega)]; omega)]
      exact hk M1 e1 e2
    | succ r ih =>
      intro v m t M1 hv hm ht e1 e2 e56 hk
      have hl := hle v s (by omega)
      have htv := ht (sd v s)
      refine sg_X9_leftBy_25 ?_
      rw [if_neg (by rw [show (30 : Int32) = nI 30 from rfl, nI_ltI (by omega) (by omega)]; omega), n_13', show nx (nI v) = v from nI_clamp (by omega), show nx (nI (13 * v + s)) = 13 * v + s from nI_clamp (by omega), e1 85 v (by omega), e1 83 _ (by omega), hf v (by omega), h54 v s (by omega) hs, show nx (nI (sd v s)) = sd v s from nI_clamp (by omega), e56 _ (by omega)]
      rw [show nI v + 1 = nI (v + 1) by rw [nI_1], show nI (t (sd v s)) + 1 = nI (t (sd v s) + 1) by rw [nI_1]]
      refine ⟨n_in (by omega) (by decide), ?_⟩
      unfold mlF at hk
      cases hq : f v with
      | false =>
        rw [if_pos (by decide)]
        rw [hq, if_neg (by decide)] at hk
        exact ih (v + 1) m t M1 (by omega) (by omega) (fun x => Nat.le_succ_of_le (ht x)) e1 e2 e56 hk
      | true =>
        rw [if_neg (by decide)]
        rw [hq, if_pos rfl] at hk
        refine ⟨n_in (by omega) (by decide), n_in (by omega) (by decide), n_in (by omega) (by decide), fun M2 h2 => ?_⟩
        have r2 : ∀ k' j, ri M2 k' j = if k' = 84 ∧ j = sd v s then nI (t (sd v s) + 1) else ri M1 k' j := by intro k' j; rw [h2, ri_wi]
        have e83 : ri M2 83 (13 * v + s) = nI (sd v s) := by rw [r2, if_neg (by omega), e1 83 _ (by omega), h54 v s (by omega) hs]
        have e84 : ri M2 84 (sd v s) = nI (t (sd v s) + 1) := by rw [r2, if_pos ⟨rfl, rfl⟩]
        rw [e83, show nx (nI (sd v s)) = sd v s from nI_clamp (by omega), e84]
        refine ⟨n_in (by omega) (by decide), n_in (by omega) (by decide), r_greater (by omega) (by omega) ?_⟩
        have em : (if m ≤ t (sd v s) + 1 then t (sd v s) + 1 else m) = (if m < t (sd v s) + 1 then t (sd v s) + 1 else m) := by split <;> split <;> omega
        rw [em]
        refine ih (v + 1) _ _ M2 (by omega) (by split <;> omega) (fun x => ?_) (fun k j hk' => by rw [r2, if_neg (fun z => hk' z.1)]; exact e1 k j hk') (fun k j => by rw [h2]; exact e2 k j) (fun x hx => ?_) hk
        · have := ht x
          show (if x = sd v s then t x + 1 else t x) ≤ v + 1
          split <;> omega
        · rw [r2]
          by_cases hxs : x = sd v s
          · rw [if_pos ⟨rfl, hxs⟩, if_pos hxs, hxs]
          · rw [if_neg (fun z => hxs z.2), if_neg hxs]; exact e56 x hx
  have zero : ∀ (r x : Nat) (M1 : Mem), r + x = 13 → (∀ k j, k ≠ 84 → ri M1 k j = ri M k j) → (∀ k j, rl M1 k j = rl M k j) → (∀ y, y < x → ri M1 84 y = 0) → RI (d + 1) μX9_leftBy 2 [(0, .ref 58), (1, .int (nI s)), (2, .int (nI x))] [] M1 K := by
    intro r
    induction r with
    | zero =>
      intro x M1 hx e1 e2 e56
      have hx : x = 13 := by omega
      subst hx
      refine sg_X9_leftBy_2 ?_
      rw [if_pos (by decide)]
      exact main 31 0 0 (fun _ => 0) M1 rfl (by omega) (fun _ => Nat.le_refl _) e1 e2 (fun x hx => e56 x hx) hK
    | succ r ih =>
      intro x M1 hx e1 e2 e56
      refine sg_X9_leftBy_2 ?_
      rw [if_neg (by rw [show (13 : Int32) = nI 13 from rfl, nI_leI (by omega) (by omega)]; omega), show nx (nI x) = x from nI_clamp (by omega), nI_1]
      refine ⟨n_in (by omega) (by decide), fun M2 h2 => ?_⟩
      have r2 : ∀ k' j, ri M2 k' j = if k' = 84 ∧ j = x then 0 else ri M1 k' j := by intro k' j; rw [h2, ri_wi]
      refine ih (x + 1) M2 (by omega) (fun k j hk' => by rw [r2, if_neg (fun z => hk' z.1)]; exact e1 k j hk') (fun k j => by rw [h2]; exact e2 k j) (fun y hy => ?_)
      rw [r2]
      by_cases hyx : y = x
      · rw [if_pos ⟨rfl, hyx⟩]
      · rw [if_neg (fun z => hyx z.2)]; exact e56 y (by omega)
  exact zero 13 0 M rfl (fun _ _ _ => rfl) (fun _ _ => rfl) (fun y hy => absurd hy (Nat.not_lt_zero _))
theorem m_ask {d c : Nat} {M : Mem} {K : Int32 → Mem → Prop} {F : List Int32} {st : Nat} {S S1 : Sh} {W : Nat → Sight} {x k : Int32} (hR : CR M F st S S1) (hP : CP F st S S1) (hA : ATh S1) (hW : WOk c W) (hM : MM M c W) (hK : ∀ M', Q M M' → K (aAsk F st S1 c W x k) M') : CI (d + 7) μX9_ask [.ref 58, .int x, .int k] M K := by
  refine sg_X9_ask_0 (r_isIn ?_)
  have hk := hK M Q.rf
  unfold aAsk at hk hK
  by_cases h1 : 0 ≤ x ∧ x ≤ 1
  · rw [if_neg (bI_ne (decide_eq_true h1))]
    refine m_layFits (k := k) hR hP hA hW hM (fun h => ?_) (fun h M1 q1 e83 e85 => ?_)
    · rw [if_pos rfl]; rw [if_neg (fun q => q.2.1 h)] at hk; exact hk
    · have hl := ctF_le (fit F st S1 c W k) 31
      by_cases hz : ctF (fit F st S1 c W k) 31 = 0
      · have hk1 := hK M1 q1
        rw [if_pos (by rw [hz]; rfl)]; rw [if_neg (fun q => q.2.2 hz)] at hk1; exact hk1
      · rw [if_neg (fun q => hz ((n_z (by omega)).mp q))]
        rw [if_pos ⟨h1, h, hz⟩] at hK
        have qf : ∀ M2, (∀ k j, k ≠ 84 → ri M2 k j = ri M1 k j) → (∀ k j, rl M2 k j = rl M1 k j) → Q M1 M2 := fun M2 e el => ⟨fun k j a _ => e k j (scr_ne a rfl), el⟩
        have left : ∀ (s : Nat) (M2 : Mem) (K' : Int32 → Mem → Prop), s < 13 → (∀ k j, k ≠ 84 → ri M2 k j = ri M1 k j) → (∀ k j, rl M2 k j = rl M1 k j) → (∀ M3, (∀ k j, k ≠ 84 → ri M3 k j = ri M1 k j) → (∀ k j, rl M3 k j = rl M1 k j) → K' (nI (lfB F st S1 c W k s)) M3) → CI (d + 6) μX9_leftBy [.ref 58, .int (nI s)] M2 K' := by
          intro s M2 K' hs e el hk'
          refine m_leftBy (f := fit F st S1 c W k) (sd := sdV F st S1) (fun v hv => by rw [e _ _ (by omega)]; exact e85 v hv) hs (fun v s hv hs => by rw [e _ _ (by omega)]; exact e83 v s hv hs) (fun v s hv => sdV_le hP.2.1 hA h (by omega) s) (fun M3 e3 el3 => ?_)
          exact hk' M3 (fun k j hk => (e3 k j hk).trans (e k j hk)) (fun k j => (el3 k j).trans (el k j))
        have loop : ∀ (r s b : Nat) (M2 : Mem), r + s = 13 → b < 13 → bsF (lfB F st S1 c W k) r s b = bsF (lfB F st S1 c W k) 12 1 0 → (∀ k j, k ≠ 84 → ri M2 k j = ri M1 k j) → (∀ k j, rl M2 k j = rl M1 k j) → RI (d + 7) μX9_ask 24 [(0, .ref 58), (1, .int x), (2, .int k), (3, .int (nI b)), (4, .int (nI s))] [] M2 K := by
          intro r
          induction r with
          | zero =>
            intro s b M2 hs hb he e el
            refine sg_X9_ask_24 ?_
            rw [if_pos (by rw [show (12 : Int32) = nI 12 from rfl, nI_ltI (by omega) (by omega)]; omega)]
            have he : b = bsF (lfB F st S1 c W k) 12 1 0 := he
            by_cases hx : x = 0
            · rw [if_pos hx]
              have hk2 := hK M2 (q1.trans (qf M2 e el))
              rw [← he, if_pos hx] at hk2; exact hk2
            · rw [if_neg hx]
              refine left b M2 _ hb e el (fun M3 e3 el3 => ?_)
              have hk2 := hK M3 (q1.trans (qf M3 e3 el3))
              rw [← he, if_neg hx] at hk2; exact hk2
          | succ r ih =>
            intro s b M2 hs hb he e el
            refine sg_X9_ask_24 ?_
            rw [if_neg (by rw [show (12 : Int32) = nI 12 from rfl, nI_ltI (by omega) (by omega)]; omega), nI_1]
            refine left s M2 _ (by omega) e el (fun M3 e3 el3 => ?_)
            refine left b M3 _ hb e3 el3 (fun M4 e4 el4 => ?_)
            have l1 := lfB_le F st S1 c W k b
            have l2 := lfB_le F st S1 c W k s
            have he : bsF (lfB F st S1 c W k) r (s + 1) (if lfB F st S1 c W k s < lfB F st S1 c W k b then s else b) = bsF (lfB F st S1 c W k) 12 1 0 := he
            by_cases hle : lfB F st S1 c W k s < lfB F st S1 c W k b
            · rw [if_neg (by rw [nI_leI (by omega) (by omega)]; omega)]
              rw [if_pos hle] at he
              exact ih (s + 1) s M4 (by omega) (by omega) he e4 el4
            · rw [if_pos (by rw [nI_leI (by omega) (by omega)]; omega)]
              rw [if_neg hle] at he
              exact ih (s + 1) b M4 (by omega) hb he e4 el4
        exact loop 12 1 0 M1 rfl (by omega) rfl (fun _ _ _ => rfl) (fun _ _ => rfl)
  · rw [if_pos (bI_eq (decide_eq_false h1))]
    rw [if_neg (fun q => h1 q.1)] at hk
    exact hk
