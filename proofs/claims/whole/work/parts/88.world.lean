/-! the seed matters to nobody while no straw falls -/
theorem near_D (S : Sh) (v p : Nat) : ∀ q, nearF (setD S v) p q = nearF S p q
  | 0 => rfl
  | q + 1 => by
    show nearF (setD S v) p q + (if mtI (setD S v) (nI p) (nI q) = true then sz (setD S v) q else 0) = _
    rw [near_D S v p q]; rfl
theorem gv_D (S : Sh) (F : List Int32) (v : Nat) : gvS (setD S v) F = gvS S F := by
  funext p
  show (if thI S (nI p) = true then grF F (nI (dgm (sc S) p)) (nI (sz S p)) (nI (nearF (setD S v) p (sn S))) (nI (pc8 (sb S))) (sy S) else 0) = _
  rw [near_D]; rfl
theorem shed_D (S : Sh) (v p : Nat) : ∀ r, shedS (setD S v) p r = setD (shedS S p r) v
  | 0 => rfl
  | r + 1 => by
    show (if fe S p (sn S - (r + 1)) ≠ 0 then flipS (setD S v) p (sn S - (r + 1)) else shedS (setD S v) p r) = setD (if fe S p (sn S - (r + 1)) ≠ 0 then flipS S p (sn S - (r + 1)) else shedS S p r) v
    rw [shed_D S v p r]
    split <;> rfl
theorem with_D (S : Sh) (v p : Nat) : withS (setD S v) p = setD (withS S p) v := by
  show (if dgm (sc S) p = 3 ∧ 3 < pc8 (sb S) then vanS (setD S v) p else shedS (setD S v) p (sn S)) = setD (if dgm (sc S) p = 3 ∧ 3 < pc8 (sb S) then vanS S p else shedS S p (sn S)) v
  rw [shed_D]
  split <;> rfl
theorem wls_D (n v : Nat) : ∀ (r : Nat) (S : Sh), wlsS n (setD S v) r = setD (wlsS n S r) v
  | 0, _ => rfl
  | r + 1, S => by
    show wlsS n (if thI S (nI (n - (r + 1))) = true ∧ sz S (n - (r + 1)) = 0 then withS (setD S v) (n - (r + 1)) else setD S v) r = setD (wlsS n (if thI S (nI (n - (r + 1))) = true ∧ sz S (n - (r + 1)) = 0 then withS S (n - (r + 1)) else S) r) v
    rw [with_D, ← wls_D n v r]
    split <;> rfl
theorem sea0_D (S : Sh) (F : List Int32) (v : Nat) : sea0 (setD S v) F = setD (sea0 S F) v := by
  have e : wlsS (sn S) (setZ (setD S v) (szU (setD S v) (gvS (setD S v) F) (sn S))) (sn S) = setD (wlsS (sn S) (setZ S (szU S (gvS S F) (sn S))) (sn S)) v := by
    rw [gv_D, ← wls_D]; rfl
  unfold sea0
  show setY (wlsS (sn S) (setZ (setD S v) (szU (setD S v) (gvS (setD S v) F) (sn S))) (sn S)) (sy (wlsS (sn S) (setZ (setD S v) (szU (setD S v) (gvS (setD S v) F) (sn S))) (sn S)) + 1) = _
  rw [e]; rfl
theorem str_0 (S1 : Sh) : strS S1 0 = setD S1 ((sd S1 * 137 + 71) % 1000) := by
  unfold strS
  simp only
  rw [if_neg (fun z => absurd z.1 (Nat.not_lt_zero _))]
theorem sea_0 (S : Sh) (F : List Int32) : ∃ v, seaS S F 0 = setD (sea0 S F) v := by
  refine ⟨sd (seaS S F 0), ?_⟩
  unfold seaS sea0
  simp only
  rw [str_0]
  rfl
/-- the class's look ahead without straws is the model's, but for the seed -/
theorem go_tie (F : List Int32) (st : Nat) : ∀ (n : Nat) (S S' : Sh), (∃ v, S' = setD S v) → ∃ v, seasS F 0 n S' = setD (goS F st false n S) v
  | 0, _, _, h => h
  | n + 1, S, S', ⟨v, h⟩ => by
    subst h
    obtain ⟨w, hw⟩ := sea_0 (setD S v) F
    refine go_tie F st n (sea0 S F) (seaS (setD S v) F 0) ⟨w, ?_⟩
    rw [hw, sea0_D]; rfl
theorem go_straw (F : List Int32) (st : Nat) : ∀ (n : Nat) (S : Sh), seasS F st n S = goS F st true n S
  | 0, _ => rfl
  | n + 1, S => go_straw F st n (seaS S F st)
/-! both worlds: which cells are nobody's memory, and what both hold -/
def scr (k : Nat) : Bool := [11, 12, 24, 25, 32, 33, 34, 35, 36, 37, 38, 42, 43, 44, 45, 46, 47, 55, 56, 66, 67, 69, 71, 74, 75, 76, 77, 83, 84, 85].contains k
def Q (M M' : Mem) : Prop := (∀ k j, scr k = false → ¬ (k = 58 ∧ (j = 48 ∨ j = 49)) → ri M' k j = ri M k j) ∧ ∀ k j, rl M' k j = rl M k j
theorem Q.rf {M : Mem} : Q M M := ⟨fun _ _ _ _ => rfl, fun _ _ => rfl⟩
theorem Q.trans {M M' M'' : Mem} (h : Q M M') (h2 : Q M' M'') : Q M M'' := ⟨fun k j a b => (h2.1 k j a b).trans (h.1 k j a b), fun k j => (h2.2 k j).trans (h.2 k j)⟩
theorem scr_ne {k c : Nat} (h : scr k = false) (hc : scr c = true) : k ≠ c := by
  intro q; rw [q, hc] at h; cases h
theorem Q.wi {M : Mem} {k j : Nat} {x : Int32} (h : scr k = true) : Q M (wi M k j x) := ⟨fun a b ha _ => by rw [ri_wi, if_neg (fun q => scr_ne ha h q.1)], fun _ _ => rfl⟩
theorem Sa.q {M M' : Mem} (h : Sa M M') : Q M M' := ⟨fun k j a _ => h.1 k (scr_ne a rfl) j, h.2⟩
theorem Sv.q {M M' : Mem} (h : Sv M M') : Q M M' := ⟨fun k j a _ => h.1 k (scr_ne a rfl) (scr_ne a rfl) j, h.2⟩
theorem Sq.q {M M' : Mem} (h : Sq M M') : Q M M' := ⟨fun k j a _ => h.1 k (scr_ne a rfl) (scr_ne a rfl) (scr_ne a rfl) (scr_ne a rfl) j, h.2⟩
theorem far33 {k : Nat} (h : scr k = false) : k < 33 ∨ 33 + 5 < k := by
  have h0 : k ≠ 33 := scr_ne h rfl
  have h1 : k ≠ 34 := scr_ne h rfl
  have h2 : k ≠ 35 := scr_ne h rfl
  have h3 : k ≠ 36 := scr_ne h rfl
  have h4 : k ≠ 37 := scr_ne h rfl
  have h5 : k ≠ 38 := scr_ne h rfl
  omega
theorem Sm.q {M M' : Mem} (h : Sm M M' 33) : Q M M' := ⟨fun k j a _ => h.1 k (far33 a) j, h.2⟩
theorem Sg.q {M M' : Mem} {t : Nat} (ht : t = 2 ∨ t = 15) (h : Sg M M' (t + 7)) : Q M M' := by
  rcases ht with rfl | rfl
  · exact ⟨fun k j a _ => h.1 k (scr_ne a rfl) (scr_ne a rfl) j, h.2⟩
  · exact ⟨fun k j a _ => h.1 k (scr_ne a rfl) (scr_ne a rfl) j, h.2⟩
theorem Sp.q {M M' : Mem} {t : Nat} (ht : t = 2 ∨ t = 15) (h : Sp M M' 33 (t + 7)) : Q M M' := by
  rcases ht with rfl | rfl
  · exact ⟨fun k j a _ => h.1 k (far33 a) (scr_ne a rfl) (scr_ne a rfl) j, h.2⟩
  · exact ⟨fun k j a _ => h.1 k (far33 a) (scr_ne a rfl) (scr_ne a rfl) j, h.2⟩
/-- the class: t the telling that is told, its formula, straw and shire; what is now -/
def CX (M : Mem) (t : Nat) (F : List Int32) (st : Nat) (S S1 : Sh) : Prop := nx (ri M 0 1) = t ∧ (t = 2 ∨ t = 15) ∧ Fm M (t + 7) F ∧ ri M t 3 = nI st ∧ Fr M (t + 1) S1 ∧ Fr M 27 S
/-- the model -/
def CR (M : Mem) (F : List Int32) (st : Nat) (S S1 : Sh) : Prop := Ar M 68 S ∧ Ar M 70 S1 ∧ Rf M F ∧ ri M 58 35 = nI (sn S) ∧ ri M 58 36 = nI st
def CP (F : List Int32) (st : Nat) (S S1 : Sh) : Prop := GS S ∧ GS S1 ∧ sn S1 = sn S ∧ WfF F ∧ st ≤ 100
theorem tell_kd {t : Nat} (h : t = 2 ∨ t = 15) : kd t = (0, 7) ∧ kd (t + 7) = (0, 1) ∧ kd (t + 1) = (0, 2) := by
  rcases h with rfl | rfl <;> decide +kernel
theorem Fr.keepQ {M M' : Mem} {o : Nat} {S : Sh} (h : Fr M o S) (ho : o = 3 ∨ o = 16 ∨ o = 27) (q : Q M M') : Fr M' o S := by
  apply h.keepK
  intro k hk j
  have : k = 0 ∨ k = 1 ∨ k = 2 ∨ k = 3 ∨ k = 4 := by omega
  apply q.1
  · rcases ho with rfl | rfl | rfl <;> rcases this with rfl | rfl | rfl | rfl | rfl <;> rfl
  · omega
theorem CX.keep {M M' : Mem} {t : Nat} {F : List Int32} {st : Nat} {S S1 : Sh} (h : CX M t F st S S1) (q : Q M M') : CX M' t F st S S1 := by
  obtain ⟨h1, h2, h3, h4, h5, h6⟩ := h
  refine ⟨by rw [q.1 0 1 rfl (by omega)]; exact h1, h2, ⟨h3.1, ?_, ?_, h3.2.2.2⟩, ?_, h5.keepQ (by omega) q, h6.keepQ (by omega) q⟩
  · rw [q.1 _ 3 (by rcases h2 with rfl | rfl <;> rfl) (by omega)]; exact h3.2.1
  · intro i hi
    rw [q.1 _ i (by rcases h2 with rfl | rfl <;> rfl) (by omega)]; exact h3.2.2.1 i hi
  · rw [q.1 _ 3 (by rcases h2 with rfl | rfl <;> rfl) (by omega)]; exact h4
theorem Ar.keepQ {M M' : Mem} {a : Nat} {S : Sh} (h : Ar M a S) (ha : scr a = false) (h58 : a ≠ 58) (q : Q M M') : Ar M' a S := by
  have e : ∀ j, ri M' a j = ri M a j := fun j => q.1 a j ha (by omega)
  refine ⟨fun i hi => ?_, ?_, ?_, fun j hj => ?_, ?_, ?_⟩ <;> rw [e]
  · exact h.1 i hi
  · exact h.2.1
  · exact h.2.2.1
  · exact h.2.2.2.1 j hj
  · exact h.2.2.2.2.1
  · exact h.2.2.2.2.2
theorem CR.keep {M M' : Mem} {F : List Int32} {st : Nat} {S S1 : Sh} (h : CR M F st S S1) (q : Q M M') : CR M' F st S S1 := by
  obtain ⟨h1, h2, h3, h4, h5⟩ := h
  refine ⟨h1.keepQ rfl (by omega) q, h2.keepQ rfl (by omega) q, ⟨?_, ?_, h3.2.2.1, h3.2.2.2.1, ?_⟩, ?_, ?_⟩
  · rw [q.1 58 25 rfl (by omega)]; exact h3.1
  · rw [q.1 58 18 rfl (by omega)]; exact h3.2.1
  · intro i hi
    rw [q.1 63 i rfl (by omega), q.1 64 i rfl (by omega)]; exact h3.2.2.2.2 i hi
  · rw [q.1 58 35 rfl (by omega)]; exact h4
  · rw [q.1 58 36 rfl (by omega)]; exact h5
theorem x_lookAhead {d t : Nat} {M : Mem} {K : Mem → Prop} {F : List Int32} {st s n : Nat} {S S1 : Sh} (hX : CX M t F st S S1) (hG : GS S) (hs : s ≤ 100) (hn : n < 1000) (hK : ∀ M', Q M M' → Fr M' 33 (seasS F s n S) → GS (seasS F s n S) → K M') : CV (d + 6) μX8_lookAhead [.ref 0, .int (nI n), .int (nI s)] M K := by
  refine sg_X8_lookAhead_0 ?_
  refine c_copyFrom (by decide +kernel) (by decide +kernel) (by decide) hX.2.2.2.2.2 (fun M1 s1 f1 => ?_)
  have hX1 := hX.keep s1.q
  have hk := tell_kd hX.2.1
  refine ⟨t, hX1.1, hk.1, ?_⟩
  refine c_passSeasons (by decide +kernel) hk.2.1 GS_Clo hs hn f1 hG hX1.2.2.1 (fun M2 s2 f2 g2 _ => ?_)
  exact hK M2 (s1.q.trans (s2.q hX.2.1)) f2 g2
/-- is it within: any ints -/
theorem r_isIn {d : Nat} {M : Mem} {K : Int32 → Mem → Prop} {x a b : Int32} (h : K (bI (decide (a ≤ x ∧ x ≤ b))) M) : CI d μX9_isIn [.int x, .int a, .int b] M K := by
  refine sg_X9_isIn_0 ?_
  by_cases h1 : x < a
  · rw [if_pos h1]; rw [decide_eq_false (fun q => absurd h1 (i_nlt.mpr q.1))] at h; exact h
  rw [if_neg h1]
  by_cases h2 : b < x
  · rw [if_pos h2]; rw [decide_eq_false (fun q => absurd h2 (i_nlt.mpr q.2))] at h; exact h
  rw [if_neg h2]
  rw [decide_eq_true ⟨i_nlt.mp h1, i_nlt.mp h2⟩] at h
  exact h
/-- is it a told lord's number -/
def tdI (S : Sh) (x : Int32) : Bool := decide (0 ≤ x ∧ x < nI (sn S))
theorem i_pred {x : Int32} {n : Nat} (hn : n < 2 ^ 31) (h0 : 0 ≤ x) : x ≤ nI n - 1 ↔ x < nI n := by
  obtain ⟨j, hj, rfl⟩ := nI_of (i_nlt.mpr h0)
  rw [nI_ltI hj hn]
  cases n with
  | zero =>
    have : ¬ (nI j ≤ nI 0 - 1) := by
      rw [i_nle]
      exact Int32.lt_of_lt_of_le z_neg h0
    exact ⟨fun q => absurd q this, fun q => absurd q (Nat.not_lt_zero _)⟩
  | succ n =>
    have e : nI (n + 1) - 1 = nI n := by rw [← nI_1, Int32.add_sub_cancel]
    rw [e, nI_leI hj (by omega)]; omega
theorem r_isLord {d : Nat} {M : Mem} {K : Int32 → Mem → Prop} {S : Sh} {x : Int32} (hS : SOk S) (h35 : ri M 58 35 = nI (sn S)) (h : K (bI (tdI S x)) M) : CI (d + 1) μX9_isLord [.ref 58, .int x] M K := by
  refine sg_X9_isLord_0 ?_
  rw [h35]
  refine r_isIn ⟨by cases (decide (0 ≤ x ∧ x ≤ nI (sn S) - 1)) <;> simp [bI], ?_⟩
  have e : decide (0 ≤ x ∧ x ≤ nI (sn S) - 1) = tdI S x := by
    unfold tdI
    have h8 := hS.1
    by_cases h0 : 0 ≤ x
    · have := i_pred (n := sn S) (by omega) h0
      simp only [h0, true_and]
      exact decide_eq_decide.mpr this
    · simp [h0]
  rw [e]
  exact h
theorem tdI_nat {S : Sh} (hS : SOk S) {x : Int32} (h : tdI S x = true) : ∃ i, i < sn S ∧ x = nI i := by
  unfold tdI at h
  rw [decide_eq_true_iff] at h
  have := hS.1
  exact n_nat h.1 h.2 (by omega)
theorem r_fillS {d : Nat} {M : Mem} {K : Mem → Prop} {F : List Int32} {st : Nat} {S S1 : Sh} (hR : CR M F st S S1) (hS : SOk S) (hK : ∀ M', Q M M' → Ar M' 69 S → CR M' F st S S1 → K M') : CV d μX9_fill [.ref 58] M K := by
  refine r_fill (fun M' s e => ?_)
  exact hK M' s.q (hR.1.copy hS.2.2.1 e) (hR.keep s.q)
theorem r_isThereNow {d : Nat} {M : Mem} {K : Int32 → Mem → Prop} {F : List Int32} {st : Nat} {S S1 : Sh} {x : Int32} (hR : CR M F st S S1) (hS : SOk S) (hK : ∀ M', Q M M' → Ar M' 69 S → CR M' F st S S1 → K (bI (thI S x)) M') : CI (d + 2) μX9_isThereNow [.ref 58, .int x] M K := by
  refine sg_X9_isThereNow_0 ?_
  refine r_fillS hR hS (fun M1 q1 a1 c1 => ?_)
  refine r_isLord hS c1.2.2.2.1 ?_
  have hk := hK M1 q1 a1 c1
  cases ht : tdI S x with
  | false =>
    rw [if_pos (by decide)]
    unfold thI at hk
    unfold tdI at ht
    rw [ht, Bool.false_and] at hk
    exact hk
  | true =>
    rw [if_neg (by decide)]
    obtain ⟨i, hi, rfl⟩ := tdI_nat hS ht
    have h8 := hS.1
    refine r_isThere (by omega) hS.2.1 a1 ?_
    rw [thI_nat hS hi] at hk
    cases hb : (sb S).testBit i with
    | false => rw [if_pos (by decide)]; rw [hb] at hk; exact hk
    | true => rw [if_neg (by decide)]; rw [hb] at hk; exact hk
