/-! counts over all lords: thirds, sleepers, king, restless, brides, acres, walls -/
def lpF (f : Nat → Int32 → Int32) (n : Nat) : Nat → Int32 → Int32
  | 0, a => a
  | r + 1, a => lpF f n r (f (n - (r + 1)) a)
theorem lpF_congr {f g : Nat → Int32 → Int32} {n : Nat} (h : ∀ p, p < n → ∀ a, f p a = g p a) : ∀ (r : Nat) (a : Int32), r ≤ n → lpF f n r a = lpF g n r a
  | 0, _, _ => rfl
  | r + 1, a, hr => by
    show lpF f n r (f (n - (r + 1)) a) = lpF g n r (g (n - (r + 1)) a)
    rw [h _ (by omega), lpF_congr h r _ (by omega)]
theorem sh_0 : ∀ p, p < 8 → (0 : Int32) <<< (nI p &&& 31) = 0 := by decide +kernel
theorem dgm_there {S : Sh} (h4 : N4 S) {p : Nat} (h : dgm (sc S) p ≠ 0) : (sb S).testBit p = true := by
  have : 0 < dgm (sc S) p := by omega
  obtain ⟨m, hm, hp⟩ := List.countP_pos_iff.mp this
  exact h4.1 m hm p hp
/-- those of whom f holds, as bits -/
def btF (f : Nat → Bool) (p : Nat) (a : Int32) : Int32 := if f p = true then a ||| ((1 : Int32) <<< (nI p &&& 31)) else a
def aThirds (S : Sh) : Int32 := lpF (btF (fun p => decide (dgm (sc S) p = 3))) (sn S) (sn S) 0
theorem x_thirds {d : Nat} {M : Mem} {K : Int32 → Mem → Prop} {S : Sh} (hF : Fr M 27 S) (hK : K (aThirds S) M) : CI d μX8_thirds [.ref 0] M K := by
  have h8 := hF.2.2.1
  have h12 := hF.2.2.2.2.1
  refine sg_X8_thirds_0 ?_
  have loop : ∀ (r p : Nat) (a : Int32), r + p = sn S → K (lpF (btF (fun p => decide (dgm (sc S) p = 3))) (sn S) r a) M → RI d μX8_thirds 4 [(0, .ref 0), (1, .int a), (2, .int (nI p))] [] M K := by
    intro r
    induction r with
    | zero =>
      intro p a hp hk
      refine sg_X8_thirds_4 ?_
      rw [hF.1.1, if_pos (by rw [nI_leI (by omega) (by omega)]; omega)]
      exact hk
    | succ r ih =>
      intro p a hp hk
      refine sg_X8_thirds_4 ?_
      rw [hF.1.1, if_neg (by rw [nI_leI (by omega) (by omega)]; omega), show nx (nI p) = p from nI_clamp (by omega), hF.2.1.2 p (by omega), nI_1]
      refine ⟨n_in (by omega) (by decide), ?_⟩
      have hd := dgm_le (sc S) p
      have e : sn S - (r + 1) = p := by omega
      have hk' : K (lpF (btF (fun p => decide (dgm (sc S) p = 3))) (sn S) r (btF (fun p => decide (dgm (sc S) p = 3)) p a)) M := by
        have hk2 : K (lpF (btF (fun p => decide (dgm (sc S) p = 3))) (sn S) r (btF (fun p => decide (dgm (sc S) p = 3)) (sn S - (r + 1)) a)) M := hk
        rw [e] at hk2; exact hk2
      unfold btF at hk'
      by_cases h3 : dgm (sc S) p = 3
      · rw [if_pos (by rw [h3]; rfl)]
        rw [if_pos (decide_eq_true h3)] at hk'
        exact ih (p + 1) _ (by omega) hk'
      · rw [if_neg (by rw [show (3 : Int32) = nI 3 from rfl, nI_eq (by omega) (by omega)]; exact h3)]
        rw [if_neg (by simp [h3])] at hk'
        exact ih (p + 1) _ (by omega) hk'
  exact loop (sn S) 0 0 (by omega) hK
theorem m_thirds {d : Nat} {M : Mem} {K : Int32 → Mem → Prop} {F : List Int32} {st : Nat} {S S1 : Sh} (hR : CR M F st S S1) (hP : CP F st S S1) (hK : ∀ M', Q M M' → K (aThirds S) M') : CI (d + 2) μX9_thirds [.ref 58] M K := by
  have hS := hP.1.1
  have h4 := hP.1.2.2.2.1
  have h8 := hS.1
  have h12 := hS.2.2.1
  refine sg_X9_thirds_0 ?_
  refine r_fillS hR hS (fun M1 q1 a1 c1 => ?_)
  have hk := hK M1 q1
  have loop : ∀ (r p : Nat) (a : Int32), r + p = sn S → K (lpF (btF (fun p => decide (dgm (sc S) p = 3))) (sn S) r a) M1 → RI (d + 2) μX9_thirds 8 [(0, .ref 58), (1, .int a), (2, .int (nI p))] [] M1 K := by
    intro r
    induction r with
    | zero =>
      intro p a hp hk
      refine sg_X9_thirds_8 ?_
      rw [c1.2.2.2.1, if_pos (by rw [nI_leI (by omega) (by omega)]; omega)]
      exact hk
    | succ r ih =>
      intro p a hp hk
      refine sg_X9_thirds_8 ?_
      rw [c1.2.2.2.1, if_neg (by rw [nI_leI (by omega) (by omega)]; omega), nI_1]
      have hd := dgm_le (sc S) p
      have e : sn S - (r + 1) = p := by omega
      have hk' : K (lpF (btF (fun p => decide (dgm (sc S) p = 3))) (sn S) r (btF (fun p => decide (dgm (sc S) p = 3)) p a)) M1 := by
        have hk2 : K (lpF (btF (fun p => decide (dgm (sc S) p = 3))) (sn S) r (btF (fun p => decide (dgm (sc S) p = 3)) (sn S - (r + 1)) a)) M1 := hk
        rw [e] at hk2; exact hk2
      unfold btF at hk'
      refine r_isThere (by omega) hS.2.1 a1 ?_
      have t0 : ∀ {K' : Int32 → Mem → Prop}, K' 0 M1 → CI (d + 1) μX9_truth [.int 0] M1 K' := fun h => r_truth (b := false) h
      have t1 : ∀ {K' : Int32 → Mem → Prop}, K' 1 M1 → CI (d + 1) μX9_truth [.int 1] M1 K' := fun h => r_truth (b := true) h
      cases ht : (sb S).testBit p with
      | false =>
        rw [if_pos (by decide)]
        have h3 : ¬ dgm (sc S) p = 3 := by
          intro h3
          rw [dgm_there h4 (by omega)] at ht; cases ht
        rw [if_neg (by simp [h3])] at hk'
        refine t0 ?_
        rw [sh_0 p (by omega), Int32.or_zero]
        exact ih (p + 1) _ (by omega) hk'
      | true =>
        rw [if_neg (by decide)]
        refine r_sidesOf (by omega) hS a1 ?_
        by_cases h3 : dgm (sc S) p = 3
        · rw [if_pos (by rw [h3]; rfl)]
          rw [if_pos (decide_eq_true h3)] at hk'
          refine t1 ?_
          exact ih (p + 1) _ (by omega) hk'
        · rw [if_neg (by rw [show (3 : Int32) = nI 3 from rfl, nI_eq (by omega) (by omega)]; exact h3)]
          rw [if_neg (by simp [h3])] at hk'
          refine t0 ?_
          rw [sh_0 p (by omega), Int32.or_zero]
          exact ih (p + 1) _ (by omega) hk'
  exact loop (sn S) 0 0 (by omega) hk
def slF (S : Sh) (F : List Int32) : Nat → Bool := fun p => (sb S).testBit p && decide (grS S F p = 0)
def aSleep (S : Sh) (F : List Int32) : Int32 := lpF (btF (slF S F)) (sn S) (sn S) 0
theorem lpF_at {f : Nat → Int32 → Int32} {n r p : Nat} {a : Int32} (e : r + 1 + p = n) : lpF f n (r + 1) a = lpF f n r (f p a) := by
  show lpF f n r (f (n - (r + 1)) a) = _
  rw [show n - (r + 1) = p by omega]
theorem x_sleepers {d t : Nat} {M : Mem} {K : Int32 → Mem → Prop} {F : List Int32} {st : Nat} {S S1 : Sh} (hX : CX M t F st S S1) (hK : ∀ M', Q M M' → K (aSleep S F) M') : CI (d + 4) μX8_sleepers [.ref 0] M K := by
  have hF0 := hX.2.2.2.2.2
  have hS := hF0.2.2
  have h8 := hS.1
  refine sg_X8_sleepers_0 ?_
  have loop : ∀ (r p : Nat) (a : Int32) (M1 : Mem), r + p = sn S → Q M M1 → (∀ M', Q M M' → K (lpF (btF (slF S F)) (sn S) r a) M') → RI (d + 4) μX8_sleepers 4 [(0, .ref 0), (1, .int a), (2, .int (nI p))] [] M1 K := by
    intro r
    induction r with
    | zero =>
      intro p a M1 hp q1 hk
      refine sg_X8_sleepers_4 ?_
      have hX1 := hX.keep q1
      rw [hX1.2.2.2.2.2.1.1, if_pos (by rw [nI_leI (by omega) (by omega)]; omega)]
      exact hk M1 q1
    | succ r ih =>
      intro p a M1 hp q1 hk
      have hX1 := hX.keep q1
      have hF := hX1.2.2.2.2.2
      refine sg_X8_sleepers_4 ?_
      rw [hF.1.1, if_neg (by rw [nI_leI (by omega) (by omega)]; omega), nI_1]
      rw [lpF_at (show r + 1 + p = sn S by omega)] at hk
      unfold btF slF at hk
      refine c_isThere (by decide +kernel) hF.1 hS ?_
      rw [thI_nat hS (by omega)]
      cases ht : (sb S).testBit p with
      | false =>
        rw [if_pos (by decide)]
        rw [ht, Bool.false_and, if_neg (by decide)] at hk
        exact ih (p + 1) _ M1 (by omega) q1 hk
      | true =>
        rw [if_neg (by decide)]
        rw [ht, Bool.true_and] at hk
        refine ⟨t, hX1.1, (tell_kd hX.2.1).1, ?_⟩
        refine c_growthOf (by decide +kernel) (tell_kd hX.2.1).2.1 (by omega) hF hX1.2.2.1 (fun M2 s2 => ?_)
        by_cases hg : grS S F p = 0
        · rw [if_pos hg]
          rw [if_pos (decide_eq_true hg)] at hk
          exact ih (p + 1) _ M2 (by omega) (q1.trans (s2.q hX.2.1)) hk
        · rw [if_neg hg]
          rw [if_neg (by simp [hg])] at hk
          exact ih (p + 1) _ M2 (by omega) (q1.trans (s2.q hX.2.1)) hk
  exact loop (sn S) 0 0 M (by omega) Q.rf hK
theorem m_sleepers {d : Nat} {M : Mem} {K : Int32 → Mem → Prop} {F : List Int32} {st : Nat} {S S1 : Sh} (hR : CR M F st S S1) (hP : CP F st S S1) (hK : ∀ M', Q M M' → K (aSleep S F) M') : CI (d + 3) μX9_sleepers [.ref 58] M K := by
  have hS := hP.1.1
  have h8 := hS.1
  refine sg_X9_sleepers_0 ?_
  refine r_fillS hR hS (fun M1 q1 a1 c1 => ?_)
  have loop : ∀ (r p : Nat) (a : Int32) (M1 : Mem), r + p = sn S → Q M M1 → Ar M1 69 S → (∀ M', Q M M' → K (lpF (btF (slF S F)) (sn S) r a) M') → RI (d + 3) μX9_sleepers 8 [(0, .ref 58), (1, .int a), (2, .int (nI p))] [] M1 K := by
    intro r
    induction r with
    | zero =>
      intro p a M1 hp q1 a1 hk
      refine sg_X9_sleepers_8 ?_
      rw [(hR.keep q1).2.2.2.1, if_pos (by rw [nI_leI (by omega) (by omega)]; omega)]
      exact hk M1 q1
    | succ r ih =>
      intro p a M1 hp q1 a1 hk
      have c1 := hR.keep q1
      refine sg_X9_sleepers_8 ?_
      rw [c1.2.2.2.1, if_neg (by rw [nI_leI (by omega) (by omega)]; omega), nI_1]
      rw [lpF_at (show r + 1 + p = sn S by omega)] at hk
      unfold btF slF at hk
      refine r_isThere (by omega) hS.2.1 a1 ?_
      have t0 : ∀ {K' : Int32 → Mem → Prop} {M1 : Mem}, K' 0 M1 → CI (d + 2) μX9_truth [.int 0] M1 K' := fun h => r_truth (b := false) h
      have t1 : ∀ {K' : Int32 → Mem → Prop} {M1 : Mem}, K' 1 M1 → CI (d + 2) μX9_truth [.int 1] M1 K' := fun h => r_truth (b := true) h
      cases ht : (sb S).testBit p with
      | false =>
        rw [if_pos (by decide)]
        rw [ht, Bool.false_and, if_neg (by decide)] at hk
        refine t0 ?_
        rw [sh_0 p (by omega), Int32.or_zero]
        exact ih (p + 1) _ M1 (by omega) q1 a1 hk
      | true =>
        rw [if_neg (by decide)]
        rw [ht, Bool.true_and] at hk
        refine r_growth (by omega) hS hP.1.2.2.2.1 hP.2.2.2.1 a1 c1.2.2.1 (fun M2 s2 => ?_)
        have a2 : Ar M2 69 S := a1.keepE (fun j => s2.1 69 (by decide) (by decide) j)
        by_cases hg : grS S F p = 0
        · rw [if_pos hg]
          rw [if_pos (decide_eq_true hg)] at hk
          refine t1 ?_
          exact ih (p + 1) _ M2 (by omega) (q1.trans s2.q) a2 hk
        · rw [if_neg hg]
          rw [if_neg (by simp [hg])] at hk
          refine t0 ?_
          rw [sh_0 p (by omega), Int32.or_zero]
          exact ih (p + 1) _ M2 (by omega) (q1.trans s2.q) a2 hk
  exact loop (sn S) 0 0 M1 (by omega) q1 a1 hK
/-- the first of the most sides, of those who are there -/
def kgF (S : Sh) : Nat → Option Nat
  | 0 => none
  | p + 1 => if (sb S).testBit p = true then (match kgF S p with
    | none => some p
    | some b => if dgm (sc S) p ≤ dgm (sc S) b then some b else some p) else kgF S p
theorem kgF_lt (S : Sh) : ∀ (p b : Nat), kgF S p = some b → b < p := by
  intro p
  induction p with
  | zero => intro b h; cases h
  | succ p ih =>
    intro b h
    unfold kgF at h
    split at h
    · cases hk : kgF S p with
      | none => rw [hk] at h; simp at h; omega
      | some c =>
        rw [hk] at h
        have := ih c hk
        simp only at h
        split at h
        · simp at h; omega
        · simp at h; omega
    · have := ih b h; omega
theorem x_king {d : Nat} {M : Mem} {K : Int32 → Mem → Prop} {S : Sh} (hF : Fr M 27 S) (hK : K (oI (kgF S (sn S))) M) : CI (d + 1) μX8_king [.ref 0] M K := by
  have hS := hF.2.2
  have h8 := hS.1
  have h12 := hS.2.2.1
  refine sg_X8_king_0 ?_
  have loop : ∀ (r p : Nat), r + p = sn S → RI (d + 1) μX8_king 4 [(0, .ref 0), (1, .int (oI (kgF S p))), (2, .int (nI p))] [] M K := by
    intro r
    induction r with
    | zero =>
      intro p hp
      have hp : p = sn S := by omega
      subst hp
      refine sg_X8_king_4 ?_
      rw [hF.1.1, if_pos (by rw [nI_leI (by omega) (by omega)]; omega)]
      exact hK
    | succ r ih =>
      intro p hp
      have h := ih (p + 1) (by omega)
      refine sg_X8_king_4 ?_
      rw [hF.1.1, if_neg (by rw [nI_leI (by omega) (by omega)]; omega), nI_1]
      refine c_isThere (by decide +kernel) hF.1 hS ?_
      rw [thI_nat hS (by omega)]
      unfold kgF at h
      cases ht : (sb S).testBit p with
      | false => rw [if_pos (by decide)]; rw [ht, if_neg (by decide)] at h; exact h
      | true =>
        rw [if_neg (by decide)]
        rw [ht, if_pos rfl] at h
        cases hk : kgF S p with
        | none => rw [hk] at h; rw [if_pos (by decide)]; exact h
        | some b =>
          rw [hk] at h
          have hb := kgF_lt S p b hk
          have d1 := dgm_le (sc S) p
          have d2 := dgm_le (sc S) b
          simp only at h
          show if nI b = -1 then _ else _
          rw [if_neg (by intro q; have : nI b < 0 := by rw [q]; decide
                         exact absurd this (i_nlt.mpr (by rw [show (0 : Int32) = nI 0 from rfl, nI_leI (by omega) (by omega)]; omega)))]
          show vp_in (nI p) 8 ∧ vp_in (nI b) 8 ∧ (if ri M 31 (nx (nI p)) ≤ ri M 31 (nx (nI b)) then _ else _)
          refine ⟨n_in (by omega) (by decide), n_in (by omega) (by decide), ?_⟩
          rw [show nx (nI p) = p from nI_clamp (by omega), show nx (nI b) = b from nI_clamp (by omega), hF.2.1.2 p (by omega), hF.2.1.2 b (by omega)]
          by_cases hc : dgm (sc S) p ≤ dgm (sc S) b
          · rw [if_pos (by rw [nI_leI (by omega) (by omega)]; exact hc)]
            rw [if_pos hc] at h; exact h
          · rw [if_neg (by rw [nI_leI (by omega) (by omega)]; exact hc)]
            rw [if_neg hc] at h; exact h
  exact loop (sn S) 0 (by omega)
theorem m_king {d : Nat} {M : Mem} {K : Int32 → Mem → Prop} {F : List Int32} {st : Nat} {S S1 : Sh} (hR : CR M F st S S1) (hP : CP F st S S1) (hK : ∀ M', Q M M' → K (oI (kgF S (sn S))) M') : CI (d + 2) μX9_king [.ref 58] M K := by
  have hS := hP.1.1
  have h8 := hS.1
  have h12 := hS.2.2.1
  refine sg_X9_king_0 ?_
  refine r_fillS hR hS (fun M1 q1 a1 c1 => ?_)
  have hk1 := hK M1 q1
  have loop : ∀ (r p : Nat), r + p = sn S → RI (d + 2) μX9_king 8 [(0, .ref 58), (1, .int (oI (kgF S p))), (2, .int (nI p))] [] M1 K := by
    intro r
    induction r with
    | zero =>
      intro p hp
      have hp : p = sn S := by omega
      subst hp
      refine sg_X9_king_8 ?_
      rw [c1.2.2.2.1, if_pos (by rw [nI_leI (by omega) (by omega)]; omega)]
      exact hk1
    | succ r ih =>
      intro p hp
      have h := ih (p + 1) (by omega)
      refine sg_X9_king_8 ?_
      rw [c1.2.2.2.1, if_neg (by rw [nI_leI (by omega) (by omega)]; omega), nI_1]
      refine r_isThere (by omega) hS.2.1 a1 ?_
      unfold kgF at h
      cases ht : (sb S).testBit p with
      | false => rw [if_pos (by decide)]; rw [ht, if_neg (by decide)] at h; exact h
      | true =>
        rw [if_neg (by decide)]
        rw [ht, if_pos rfl] at h
        cases hk : kgF S p with
        | none => rw [hk] at h; rw [if_pos (by decide)]; exact h
        | some b =>
          rw [hk] at h
          have hb := kgF_lt S p b hk
          have d1 := dgm_le (sc S) p
          have d2 := dgm_le (sc S) b
          simp only at h
          show if nI b < 0 then _ else _
          rw [if_neg (i_nlt.mpr (by rw [show (0 : Int32) = nI 0 from rfl, nI_leI (by omega) (by omega)]; omega))]
          refine r_sidesOf (by omega) hS a1 ?_
          show CI (d + 1) μX9_sidesOf [.ref 58, .int (nI b)] M1 _
          refine r_sidesOf (by omega) hS a1 ?_
          by_cases hc : dgm (sc S) p ≤ dgm (sc S) b
          · rw [if_pos (by rw [nI_leI (by omega) (by omega)]; exact hc)]
            rw [if_pos hc] at h; exact h
          · rw [if_neg (by rw [nI_leI (by omega) (by omega)]; exact hc)]
            rw [if_neg hc] at h; exact h
  exact loop (sn S) 0 (by omega)
