/-! restless, brides, acres, walls -/
def icn (f : Nat → Nat → Bool) (n a : Nat) : Nat → Int32 → Int32
  | 0, x => x
  | r + 1, x => icn f n a r (x + bI (f a (n - (r + 1))))
def ocn (f : Nat → Nat → Bool) (n : Nat) : Nat → Int32 → Int32
  | 0, x => x
  | r + 1, x => ocn f n r (icn f n (n - (r + 1)) r x)
theorem bI_add {b : Bool} {x : Int32} : x + bI b = if b = true then x + 1 else x := by
  cases b
  · show x + 0 = x; exact Int32.add_zero x
  · rfl
def aRest (S : Sh) : Int32 := ocn (fun a b => decide (fe S a b ≠ 0)) (sn S) (sn S) 0
def aBrid (S : Sh) : Int32 := ocn (fun a b => cmI S (nI a) (nI b)) (sn S) (sn S) 0
theorem icn_at {f : Nat → Nat → Bool} {n a r b : Nat} {x : Int32} (e : r + 1 + b = n) : icn f n a (r + 1) x = icn f n a r (x + bI (f a b)) := by
  show icn f n a r (x + bI (f a (n - (r + 1)))) = _
  rw [show n - (r + 1) = b by omega]
theorem ocn_at {f : Nat → Nat → Bool} {n r a : Nat} {x : Int32} (e : r + 1 + a = n) : ocn f n (r + 1) x = ocn f n r (icn f n a r x) := by
  show ocn f n r (icn f n (n - (r + 1)) r x) = _
  rw [show n - (r + 1) = a by omega]
theorem x_restless {d : Nat} {M : Mem} {K : Int32 → Mem → Prop} {S : Sh} (hF : Fr M 27 S) (hK : K (aRest S) M) : CI (d + 2) μX8_restless [.ref 0] M K := by
  have hS := hF.2.2
  have h8 := hS.1
  refine sg_X8_restless_0 ?_
  have inner : ∀ (a : Nat), a < sn S → ∀ (r b : Nat) (x : Int32), r + b = sn S → RI (d + 2) μX8_restless 4 [(0, .ref 0), (1, .int (icn (fun a b => decide (fe S a b ≠ 0)) (sn S) a r x)), (2, .int (nI (a + 1)))] [] M K → RI (d + 2) μX8_restless 19 [(0, .ref 0), (1, .int x), (2, .int (nI a)), (3, .int (nI b))] [] M K := by
    intro a ha r
    induction r with
    | zero =>
      intro b x hb hk
      refine sg_X8_restless_19 ?_
      rw [hF.1.1, if_pos (by rw [nI_leI (by omega) (by omega)]; omega), nI_1]
      exact hk
    | succ r ih =>
      intro b x hb hk
      refine sg_X8_restless_19 ?_
      rw [hF.1.1, if_neg (by rw [nI_leI (by omega) (by omega)]; omega), nI_1]
      rw [icn_at (show r + 1 + b = sn S by omega), bI_add] at hk
      refine c_flippedEnds (by decide +kernel) hF ?_
      have hlt := feI_lt hS (nI a) (nI b)
      rw [feI_nat hS ha (by omega)] at hlt ⊢
      by_cases hf : fe S a b = 0
      · rw [if_pos (by rw [hf]; rfl)]
        rw [if_neg (by simp [hf])] at hk
        exact ih (b + 1) x (by omega) hk
      · rw [if_neg (by rw [show (0 : Int32) = nI 0 from rfl, nI_eq (by omega) (by omega)]; exact hf)]
        rw [if_pos (by simp [hf])] at hk
        exact ih (b + 1) _ (by omega) hk
  have outer : ∀ (r a : Nat) (x : Int32), r + a = sn S → K (ocn (fun a b => decide (fe S a b ≠ 0)) (sn S) r x) M → RI (d + 2) μX8_restless 4 [(0, .ref 0), (1, .int x), (2, .int (nI a))] [] M K := by
    intro r
    induction r with
    | zero =>
      intro a x ha hk
      refine sg_X8_restless_4 ?_
      rw [hF.1.1, if_pos (by rw [nI_leI (by omega) (by omega)]; omega)]
      exact hk
    | succ r ih =>
      intro a x ha hk
      refine sg_X8_restless_4 ?_
      rw [hF.1.1, if_neg (by rw [nI_leI (by omega) (by omega)]; omega), nI_1]
      rw [ocn_at (show r + 1 + a = sn S by omega)] at hk
      exact inner a (by omega) r (a + 1) x (by omega) (ih (a + 1) _ (by omega) hk)
  exact outer (sn S) 0 0 (by omega) hK
theorem m_restless {d : Nat} {M : Mem} {K : Int32 → Mem → Prop} {F : List Int32} {st : Nat} {S S1 : Sh} (hR : CR M F st S S1) (hP : CP F st S S1) (hK : ∀ M', Q M M' → K (aRest S) M') : CI (d + 4) μX9_restless [.ref 58] M K := by
  have hS := hP.1.1
  have h8 := hS.1
  refine sg_X9_restless_0 ?_
  refine r_fillS hR hS (fun M1 q1 a1 c1 => ?_)
  have inner : ∀ (a : Nat), a < sn S → ∀ (r b : Nat) (x : Int32), r + b = sn S → RI (d + 4) μX9_restless 8 [(0, .ref 58), (1, .int (icn (fun a b => decide (fe S a b ≠ 0)) (sn S) a r x)), (2, .int (nI (a + 1)))] [] M1 K → RI (d + 4) μX9_restless 20 [(0, .ref 58), (1, .int x), (2, .int (nI a)), (3, .int (nI b))] [] M1 K := by
    intro a ha r
    induction r with
    | zero =>
      intro b x hb hk
      refine sg_X9_restless_20 ?_
      rw [c1.2.2.2.1, if_pos (by rw [nI_leI (by omega) (by omega)]; omega), nI_1]
      exact hk
    | succ r ih =>
      intro b x hb hk
      refine sg_X9_restless_20 ?_
      rw [c1.2.2.2.1, if_neg (by rw [nI_leI (by omega) (by omega)]; omega), nI_1]
      rw [icn_at (show r + 1 + b = sn S by omega)] at hk
      exact r_canFlip ha (by omega) hS hP.1.2.2.1 hP.1.2.2.2.1 a1 (r_truth (ih (b + 1) _ (by omega) hk))
  have outer : ∀ (r a : Nat) (x : Int32), r + a = sn S → K (ocn (fun a b => decide (fe S a b ≠ 0)) (sn S) r x) M1 → RI (d + 4) μX9_restless 8 [(0, .ref 58), (1, .int x), (2, .int (nI a))] [] M1 K := by
    intro r
    induction r with
    | zero =>
      intro a x ha hk
      refine sg_X9_restless_8 ?_
      rw [c1.2.2.2.1, if_pos (by rw [nI_leI (by omega) (by omega)]; omega)]
      exact hk
    | succ r ih =>
      intro a x ha hk
      refine sg_X9_restless_8 ?_
      rw [c1.2.2.2.1, if_neg (by rw [nI_leI (by omega) (by omega)]; omega), nI_1]
      rw [ocn_at (show r + 1 + a = sn S by omega)] at hk
      exact inner a (by omega) r (a + 1) x (by omega) (ih (a + 1) _ (by omega) hk)
  exact outer (sn S) 0 0 (by omega) (hK M1 q1)
theorem x_brides {d : Nat} {M : Mem} {K : Int32 → Mem → Prop} {S : Sh} (hF : Fr M 27 S) (hK : K (aBrid S) M) : CI (d + 3) μX8_brides [.ref 0] M K := by
  have hS := hF.2.2
  have h8 := hS.1
  refine sg_X8_brides_0 ?_
  have inner : ∀ (a : Nat), a < sn S → ∀ (r b : Nat) (x : Int32), r + b = sn S → RI (d + 3) μX8_brides 4 [(0, .ref 0), (1, .int (icn (fun a b => cmI S (nI a) (nI b)) (sn S) a r x)), (2, .int (nI (a + 1)))] [] M K → RI (d + 3) μX8_brides 19 [(0, .ref 0), (1, .int x), (2, .int (nI a)), (3, .int (nI b))] [] M K := by
    intro a ha r
    induction r with
    | zero =>
      intro b x hb hk
      refine sg_X8_brides_19 ?_
      rw [hF.1.1, if_pos (by rw [nI_leI (by omega) (by omega)]; omega), nI_1]
      exact hk
    | succ r ih =>
      intro b x hb hk
      refine sg_X8_brides_19 ?_
      rw [hF.1.1, if_neg (by rw [nI_leI (by omega) (by omega)]; omega), nI_1]
      rw [icn_at (show r + 1 + b = sn S by omega), bI_add] at hk
      refine c_canMerge (by decide +kernel) hF ?_
      cases hf : cmI S (nI a) (nI b) with
      | false =>
        rw [if_pos (by decide)]
        rw [hf, if_neg (by decide)] at hk
        exact ih (b + 1) x (by omega) hk
      | true =>
        rw [if_neg (by decide)]
        rw [hf, if_pos rfl] at hk
        exact ih (b + 1) _ (by omega) hk
  have outer : ∀ (r a : Nat) (x : Int32), r + a = sn S → K (ocn (fun a b => cmI S (nI a) (nI b)) (sn S) r x) M → RI (d + 3) μX8_brides 4 [(0, .ref 0), (1, .int x), (2, .int (nI a))] [] M K := by
    intro r
    induction r with
    | zero =>
      intro a x ha hk
      refine sg_X8_brides_4 ?_
      rw [hF.1.1, if_pos (by rw [nI_leI (by omega) (by omega)]; omega)]
      exact hk
    | succ r ih =>
      intro a x ha hk
      refine sg_X8_brides_4 ?_
      rw [hF.1.1, if_neg (by rw [nI_leI (by omega) (by omega)]; omega), nI_1]
      rw [ocn_at (show r + 1 + a = sn S by omega)] at hk
      exact inner a (by omega) r (a + 1) x (by omega) (ih (a + 1) _ (by omega) hk)
  exact outer (sn S) 0 0 (by omega) hK
theorem m_brides {d : Nat} {M : Mem} {K : Int32 → Mem → Prop} {F : List Int32} {st : Nat} {S S1 : Sh} (hR : CR M F st S S1) (hP : CP F st S S1) (hK : ∀ M', Q M M' → K (aBrid S) M') : CI (d + 4) μX9_brides [.ref 58] M K := by
  have hS := hP.1.1
  have h8 := hS.1
  refine sg_X9_brides_0 ?_
  refine r_fillS hR hS (fun M1 q1 a1 c1 => ?_)
  have inner : ∀ (a : Nat), a < sn S → ∀ (r b : Nat) (x : Int32), r + b = sn S → RI (d + 4) μX9_brides 8 [(0, .ref 58), (1, .int (icn (fun a b => cmI S (nI a) (nI b)) (sn S) a r x)), (2, .int (nI (a + 1)))] [] M1 K → RI (d + 4) μX9_brides 20 [(0, .ref 58), (1, .int x), (2, .int (nI a)), (3, .int (nI b))] [] M1 K := by
    intro a ha r
    induction r with
    | zero =>
      intro b x hb hk
      refine sg_X9_brides_20 ?_
      rw [c1.2.2.2.1, if_pos (by rw [nI_leI (by omega) (by omega)]; omega), nI_1]
      exact hk
    | succ r ih =>
      intro b x hb hk
      refine sg_X9_brides_20 ?_
      rw [c1.2.2.2.1, if_neg (by rw [nI_leI (by omega) (by omega)]; omega), nI_1]
      rw [icn_at (show r + 1 + b = sn S by omega)] at hk
      exact r_canPop ha (by omega) hS a1 (r_truth (ih (b + 1) _ (by omega) hk))
  have outer : ∀ (r a : Nat) (x : Int32), r + a = sn S → K (ocn (fun a b => cmI S (nI a) (nI b)) (sn S) r x) M1 → RI (d + 4) μX9_brides 8 [(0, .ref 58), (1, .int x), (2, .int (nI a))] [] M1 K := by
    intro r
    induction r with
    | zero =>
      intro a x ha hk
      refine sg_X9_brides_8 ?_
      rw [c1.2.2.2.1, if_pos (by rw [nI_leI (by omega) (by omega)]; omega)]
      exact hk
    | succ r ih =>
      intro a x ha hk
      refine sg_X9_brides_8 ?_
      rw [c1.2.2.2.1, if_neg (by rw [nI_leI (by omega) (by omega)]; omega), nI_1]
      rw [ocn_at (show r + 1 + a = sn S by omega)] at hk
      exact inner a (by omega) r (a + 1) x (by omega) (ih (a + 1) _ (by omega) hk)
  exact outer (sn S) 0 0 (by omega) (hK M1 q1)
theorem szF_end {S : Sh} (h4 : N4 S) : ∀ k, sn S + k ≤ 8 → szF S (sb S) (sn S + k) = szF S (sb S) (sn S)
  | 0, _ => rfl
  | k + 1, h => by
    show szF S (sb S) (sn S + k) + (if (sb S).testBit (sn S + k) then sz S (sn S + k) else 0) = _
    rw [szF_end h4 k (by omega), if_neg]
    · rfl
    · intro q; have := h4.2 _ q; omega
theorem x_acres {d : Nat} {M : Mem} {K : Int32 → Mem → Prop} {S : Sh} (hF : Fr M 27 S) (hG : GS S) (hK : K (nI (szF S (sb S) 8)) M) : CI d μX8_acres [.ref 0] M K := by
  have hS := hF.2.2
  have h8 := hS.1
  refine sg_X8_acres_0 ?_
  have loop : ∀ (r p : Nat), r + p = sn S → RI d μX8_acres 4 [(0, .ref 0), (1, .int (nI (szF S (sb S) p))), (2, .int (nI p))] [] M K := by
    intro r
    induction r with
    | zero =>
      intro p hp
      have hp : p = sn S := by omega
      subst hp
      refine sg_X8_acres_4 ?_
      rw [hF.1.1, if_pos (by rw [nI_leI (by omega) (by omega)]; omega)]
      have := szF_end hG.2.2.2.1 (8 - sn S) (by omega)
      rw [show sn S + (8 - sn S) = 8 by omega] at this
      rw [← this]; exact hK
    | succ r ih =>
      intro p hp
      have h := ih (p + 1) (by omega)
      refine sg_X8_acres_4 ?_
      rw [hF.1.1, if_neg (by rw [nI_leI (by omega) (by omega)]; omega), nI_1, show nx (nI p) = p from nI_clamp (by omega), hF.1.2.2.2.2.2.1 p (by omega), nI_add]
      refine ⟨n_in (by omega) (by decide), ?_⟩
      have e : szF S (sb S) (p + 1) = szF S (sb S) p + sz S p := by
        show szF S (sb S) p + (if (sb S).testBit p then sz S p else 0) = _
        cases ht : (sb S).testBit p with
        | true => rfl
        | false => rw [hG.2.2.2.2.2.2 p (by omega) ht]; rfl
      rw [e] at h
      exact h
  exact loop (sn S) 0 (by omega)
theorem m_acres {d : Nat} {M : Mem} {K : Int32 → Mem → Prop} {F : List Int32} {st : Nat} {S S1 : Sh} (hR : CR M F st S S1) (hP : CP F st S S1) (hK : ∀ M', Q M M' → K (nI (szF S (sb S) 8)) M') : CI (d + 1) μX9_acres [.ref 58] M K := by
  have hS := hP.1.1
  refine sg_X9_acres_0 ?_
  refine r_fillS hR hS (fun M1 q1 a1 c1 => ?_)
  rw [x_13, a1.2.2.1]
  exact r_sizesOf hS.2.1 a1 (hK M1 q1)
theorem m_walls {d : Nat} {M : Mem} {K : Int32 → Mem → Prop} {F : List Int32} {st : Nat} {S S1 : Sh} (hR : CR M F st S S1) (hP : CP F st S S1) (hK : ∀ M', Q M M' → K (nI (wlF S (sn S) / 2)) M') : CI (d + 2) μX9_walls [.ref 58] M K := by
  have hS := hP.1.1
  have h8 := hS.1
  refine sg_X9_walls_0 ?_
  refine r_fillS hR hS (fun M1 q1 a1 c1 => ?_)
  have hk := hK M1 q1
  have loop : ∀ (r p : Nat), r + p = sn S → RI (d + 2) μX9_walls 8 [(0, .ref 58), (1, .int (nI (wlF S p))), (2, .int (nI p))] [] M1 K := by
    intro r
    induction r with
    | zero =>
      intro p hp
      have hp : p = sn S := by omega
      subst hp
      refine sg_X9_walls_8 ?_
      rw [c1.2.2.2.1, if_pos (by rw [nI_leI (by omega) (by omega)]; omega)]
      have := wlF_le S (sn S)
      rw [n_half (by omega)]
      exact hk
    | succ r ih =>
      intro p hp
      have h := ih (p + 1) (by omega)
      refine sg_X9_walls_8 ?_
      rw [c1.2.2.2.1, if_neg (by rw [nI_leI (by omega) (by omega)]; omega), nI_1]
      refine r_bordersOf (by omega) hS a1 (r_members (nbm_lt8 hS p) ?_)
      rw [nI_add]
      exact h
  exact loop (sn S) 0 (by omega)
