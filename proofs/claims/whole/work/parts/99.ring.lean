/-! what lies there, and the ring about one -/
/-- which side's memory may change: s = 0 the class's, s = 1 the model's -/
def QL (s : Nat) (M M' : Mem) : Prop := (∀ k j, scr k = false → ¬ (k = 58 ∧ (j = 48 ∨ j = 49 ∨ s = 1 ∧ j = 45)) → ¬ (s = 0 ∧ k = 57) → ¬ (s = 1 ∧ k = 73) → ¬ (s = 0 ∧ k = 0 ∧ j = 12) → ri M' k j = ri M k j) ∧ ∀ k j, rl M' k j = rl M k j
theorem Q.l {s : Nat} {M M' : Mem} (h : Q M M') : QL s M M' := ⟨fun k j a b _ _ _ => h.1 k j a (fun q => b ⟨q.1, by omega⟩), h.2⟩
theorem QL.rf {s : Nat} {M : Mem} : QL s M M := ⟨fun _ _ _ _ _ _ _ => rfl, fun _ _ => rfl⟩
theorem QL.trans {s : Nat} {M M' M'' : Mem} (h : QL s M M') (h2 : QL s M' M'') : QL s M M'' := ⟨fun k j a b c e f => (h2.1 k j a b c e f).trans (h.1 k j a b c e f), fun k j => (h2.2 k j).trans (h.2 k j)⟩
theorem QL.w0 {M : Mem} {x : Int32} : QL 0 M (wi M 0 12 x) := ⟨fun k j _ _ _ _ f => by rw [ri_wi, if_neg (fun q => f ⟨rfl, q⟩)], fun _ _ => rfl⟩
theorem QL.w57 {M : Mem} {j : Nat} {x : Int32} : QL 0 M (wi M 57 j x) := ⟨fun k j _ _ c _ _ => by rw [ri_wi, if_neg (fun q => c ⟨rfl, q.1⟩)], fun _ _ => rfl⟩
theorem QL.w73 {M : Mem} {j : Nat} {x : Int32} : QL 1 M (wi M 73 j x) := ⟨fun k j _ _ _ c _ => by rw [ri_wi, if_neg (fun q => c ⟨rfl, q.1⟩)], fun _ _ => rfl⟩
theorem QL.w58 {M : Mem} {x : Int32} : QL 1 M (wi M 58 45 x) := ⟨fun k j _ b _ _ _ => by rw [ri_wi, if_neg (fun q => b ⟨q.1, by omega⟩)], fun _ _ => rfl⟩
theorem Fr.keepQL {s : Nat} {M M' : Mem} {o : Nat} {S : Sh} (h : Fr M o S) (ho : o = 3 ∨ o = 16 ∨ o = 27) (q : QL s M M') : Fr M' o S := by
  apply h.keepK
  intro k hk j
  have : k = 0 ∨ k = 1 ∨ k = 2 ∨ k = 3 ∨ k = 4 := by omega
  apply q.1
  · rcases ho with rfl | rfl | rfl <;> rcases this with rfl | rfl | rfl | rfl | rfl <;> rfl
  · omega
  · omega
  · omega
  · omega
theorem CX.keepL {s : Nat} {M M' : Mem} {t : Nat} {F : List Int32} {st : Nat} {S S1 : Sh} (h : CX M t F st S S1) (q : QL s M M') : CX M' t F st S S1 := by
  obtain ⟨h1, h2, h3, h4, h5, h6⟩ := h
  refine ⟨by rw [q.1 0 1 rfl (by omega) (by omega) (by omega) (by omega)]; exact h1, h2, ⟨h3.1, ?_, ?_, h3.2.2.2⟩, ?_, h5.keepQL (by omega) q, h6.keepQL (by omega) q⟩
  · rw [q.1 _ 3 (by rcases h2 with rfl | rfl <;> rfl) (by omega) (by omega) (by omega) (by omega)]; exact h3.2.1
  · intro i hi
    rw [q.1 _ i (by rcases h2 with rfl | rfl <;> rfl) (by omega) (by omega) (by omega) (by omega)]; exact h3.2.2.1 i hi
  · rw [q.1 _ 3 (by rcases h2 with rfl | rfl <;> rfl) (by omega) (by omega) (by omega) (by omega)]; exact h4
theorem Ar.keepQL {s : Nat} {M M' : Mem} {a : Nat} {S : Sh} (h : Ar M a S) (ha : scr a = false) (h58 : a ≠ 58) (h0 : a ≠ 0) (h57 : a ≠ 57) (h73 : a ≠ 73) (q : QL s M M') : Ar M' a S := h.keepE (fun j => q.1 a j ha (by omega) (by omega) (by omega) (by omega))
theorem CR.keepL {s : Nat} {M M' : Mem} {F : List Int32} {st : Nat} {S S1 : Sh} (h : CR M F st S S1) (q : QL s M M') : CR M' F st S S1 := by
  obtain ⟨h1, h2, h3, h4, h5⟩ := h
  refine ⟨h1.keepQL rfl (by omega) (by omega) (by omega) (by omega) q, h2.keepQL rfl (by omega) (by omega) (by omega) (by omega) q, ⟨?_, ?_, h3.2.2.1, h3.2.2.2.1, ?_⟩, ?_, ?_⟩
  · rw [q.1 58 25 rfl (by omega) (by omega) (by omega) (by omega)]; exact h3.1
  · rw [q.1 58 18 rfl (by omega) (by omega) (by omega) (by omega)]; exact h3.2.1
  · intro i hi
    rw [q.1 63 i rfl (by omega) (by omega) (by omega) (by omega), q.1 64 i rfl (by omega) (by omega) (by omega) (by omega)]; exact h3.2.2.2.2 i hi
  · rw [q.1 58 35 rfl (by omega) (by omega) (by omega) (by omega)]; exact h4
  · rw [q.1 58 36 rfl (by omega) (by omega) (by omega) (by omega)]; exact h5
/-- the row that lies: in the class, in the model -/
def LyX (M : Mem) (L : List Int32) : Prop := ri M 0 12 = nI L.length ∧ ∀ i, i < L.length → ri M 57 i = L[i]?.getD 0
def LyM (M : Mem) (L : List Int32) : Prop := ri M 58 45 = nI L.length ∧ ∀ i, i < L.length → ri M 73 i = L[i]?.getD 0
theorem x_layDown {d n : Nat} {M : Mem} {K : Mem → Prop} {L : List Int32} (hn : L.length = n) (h8 : n ≤ 8) (hL : ∀ i, i < n → ri M 43 i = L[i]?.getD 0) (hK : ∀ M', QL 0 M M' → LyX M' L → K M') : CV (d + 1) μX8_layDown [.ref 0, .int (nI n)] M K := by
  refine sg_X8_layDown_0 (fun M1 h1 => ?_)
  rw [if_neg (show ¬ Int32.ofNat 8 < nI n by show ¬ nI 8 < nI n; rw [nI_ltI (by omega) (by omega)]; omega)] at h1
  have r1 : ∀ k j, ri M1 k j = if k = 0 ∧ j = 12 then nI n else ri M k j := by intro k j; rw [h1, ri_wi]
  have loop : ∀ (r i : Nat) (M2 : Mem), r + i = n → QL 0 M M2 → ri M2 0 12 = nI n → (∀ j, j < n → ri M2 43 j = L[j]?.getD 0) → (∀ j, j < i → ri M2 57 j = L[j]?.getD 0) → RV (d + 1) μX8_layDown 15 [(0, .ref 0), (1, .int (nI n)), (2, .int (nI i))] [] M2 K := by
    intro r
    induction r with
    | zero =>
      intro i M2 hi q h0 h43 h57
      have hi : i = n := by omega
      subst hi
      refine sg_X8_layDown_15 ?_
      rw [h0, if_pos (by rw [nI_leI (by omega) (by omega)]; omega)]
      exact hK M2 q ⟨by rw [hn]; exact h0, fun j hj => h57 j (by omega)⟩
    | succ r ih =>
      intro i M2 hi q h0 h43 h57
      refine sg_X8_layDown_15 ?_
      rw [h0, if_neg (by rw [nI_leI (by omega) (by omega)]; omega), nI_1, show nx (nI i) = i from nI_clamp (by omega)]
      refine ⟨n_in (by omega) (by decide), n_in (by omega) (by decide), fun M3 h3 => ?_⟩
      have r3 : ∀ k j, ri M3 k j = if k = 57 ∧ j = i then ri M2 43 i else ri M2 k j := by intro k j; rw [h3, ri_wi]
      refine ih (i + 1) M3 (by omega) (q.trans (by rw [h3]; exact QL.w57)) (by rw [r3, if_neg (by omega)]; exact h0) (fun j hj => by rw [r3, if_neg (by omega)]; exact h43 j hj) (fun j hj => ?_)
      rw [r3]
      by_cases hji : j = i
      · rw [if_pos ⟨rfl, hji⟩, hji]; exact h43 i (by omega)
      · rw [if_neg (fun z => hji z.2)]; exact h57 j (by omega)
  exact loop n 0 M1 (by omega) (by rw [h1]; exact QL.w0) (by rw [r1, if_pos ⟨rfl, rfl⟩]) (fun j hj => by rw [r1, if_neg (by omega)]; exact hL j hj) (fun j h => absurd h (Nat.not_lt_zero _))
theorem x_lies {d : Nat} {M : Mem} {K : Int32 → Mem → Prop} {L : List Int32} {x : Int32} (h8 : L.length ≤ 8) (hL : LyX M L) (hK : K (if 0 ≤ x ∧ x < nI L.length then L[nx x]?.getD 0 else -2) M) : CI d μX8_lies [.ref 0, .int x] M K := by
  refine sg_X8_lies_0 ?_
  rw [hL.1]
  by_cases h1 : x < 0
  · rw [if_pos h1]; rw [if_neg (fun q => absurd h1 (i_nlt.mpr q.1))] at hK; exact hK
  rw [if_neg h1]
  by_cases h2 : nI L.length ≤ x
  · rw [if_pos h2]; rw [if_neg (fun q => absurd h2 (i_nle.mpr q.2))] at hK; exact hK
  rw [if_neg h2]
  rw [if_pos ⟨i_nlt.mp h1, i_nle.mp h2⟩] at hK
  obtain ⟨i, hi, rfl⟩ := n_nat (i_nlt.mp h1) (i_nle.mp h2) (by omega)
  have e1 : nx (nI i) = i := nI_clamp (by omega)
  rw [e1] at hK ⊢
  rw [hL.2 i hi]
  exact ⟨n_in (by omega) (by decide), hK⟩
theorem m_lies {d : Nat} {M : Mem} {K : Int32 → Mem → Prop} {L : List Int32} {x : Int32} (h8 : L.length ≤ 8) (hL : LyM M L) (hK : K (if 0 ≤ x ∧ x < nI L.length then L[nx x]?.getD 0 else -2) M) : CI (d + 1) μX9_lies [.ref 58, .int x] M K := by
  refine sg_X9_lies_0 ?_
  rw [hL.1]
  refine r_isIn ?_
  by_cases h1 : 0 ≤ x ∧ x < nI L.length
  · have e : (0 ≤ x ∧ x ≤ nI L.length - 1) := ⟨h1.1, (i_pred (by omega) h1.1).mpr h1.2⟩
    rw [if_neg (bI_ne (decide_eq_true e))]
    rw [if_pos h1] at hK
    obtain ⟨i, hi, rfl⟩ := n_nat h1.1 h1.2 (by omega)
    have e1 : nx (nI i) = i := nI_clamp (by omega)
    rw [e1] at hK ⊢
    rw [hL.2 i hi]
    exact ⟨n_in (by omega) (by decide), hK⟩
  · have e : ¬ (0 ≤ x ∧ x ≤ nI L.length - 1) := fun q => h1 ⟨q.1, (i_pred (by omega) q.1).mp q.2⟩
    rw [if_pos (bI_eq (decide_eq_false e))]
    rw [if_neg h1] at hK
    exact hK
/-- all corners that hold b together, the first i of them -/
def oPi (C : List Nat) (b : Nat) : Nat → Nat
  | 0 => 0
  | i + 1 => oPi C b i ||| if (C[i]?.getD 0) &&& b = b then C[i]?.getD 0 else 0
def shr (S : Sh) (l q : Nat) : Nat := clr (oPi (sc S) (pr l q) (sc S).length) (pr l q)
theorem oPi_lt {S : Sh} (hS : SOk S) (b : Nat) : ∀ i, i ≤ (sc S).length → oPi (sc S) b i < 256
  | 0, _ => (by decide : (0 : Nat) < 256)
  | i + 1, h => by
    show oPi (sc S) b i ||| _ < 2 ^ 8
    refine Nat.or_lt_two_pow (oPi_lt hS b i (by omega)) ?_
    split
    · exact (sc_T3 hS (by omega)).1
    · decide
theorem shr_lt {S : Sh} (hS : SOk S) (l q : Nat) : shr S l q < 256 := clr_lt (n := 8) (oPi_lt hS _ _ (Nat.le_refl _))
theorem x_sharing {d o : Nat} {M : Mem} {K : Int32 → Mem → Prop} {S : Sh} {l q : Nat} (ho : kd o = (0, 2)) (hF : Fr M o S) (hl : l < 8) (hq : q < 8) (hK : K (nI (shr S l q)) M) : CI d μX5_sharingCorner [.ref o, .int (nI (pr l q))] M K := by
  have hS := hF.2.2
  have h12 := hS.2.2.1
  have hpr := pr_lt hl hq
  refine sg_X5_sharingCorner_0 ho ?_
  have loop : ∀ (r i : Nat), r + i = (sc S).length → RI d μX5_sharingCorner 4 [(0, .ref o), (1, .int (nI (pr l q))), (2, .int (nI (oPi (sc S) (pr l q) i))), (3, .int (nI i))] [] M K := by
    intro r
    induction r with
    | zero =>
      intro i hi
      have hi : i = (sc S).length := by omega
      subst hi
      refine sg_X5_sharingCorner_4 ho ?_
      rw [hF.1.2.2.2.2.1, if_pos (by rw [nI_leI (by omega) (by omega)]; omega), n_clr]
      exact hK
    | succ r ih =>
      intro i hi
      have h := ih (i + 1) (by omega)
      have hT := sc_T3 hS (show i < (sc S).length by omega)
      refine sg_X5_sharingCorner_4 ho ?_
      rw [hF.1.2.2.2.2.1, if_neg (by rw [nI_leI (by omega) (by omega)]; omega), nI_1, show nx (nI i) = i from nI_clamp (by omega), hF.1.2.2.2.2.2.2 i (by omega), n_and, n_or]
      refine ⟨n_in (by omega) (by decide), ?_⟩
      have e : oPi (sc S) (pr l q) (i + 1) = oPi (sc S) (pr l q) i ||| if ((sc S)[i]?.getD 0) &&& (pr l q) = (pr l q) then (sc S)[i]?.getD 0 else 0 := rfl
      rw [e] at h
      have hal : ((sc S)[i]?.getD 0) &&& (pr l q) < 256 := Nat.lt_of_le_of_lt Nat.and_le_left hT.1
      by_cases hc : ((sc S)[i]?.getD 0) &&& (pr l q) = (pr l q)
      · rw [if_pos (by rw [hc])]
        rw [if_pos hc] at h
        exact ⟨n_in (by omega) (by decide), h⟩
      · rw [if_neg (fun z => hc (nI_inj (by omega) (by omega) z))]
        rw [if_neg hc, Nat.or_zero] at h
        exact h
  exact loop (sc S).length 0 (by omega)
theorem m_ringNext {d : Nat} {M : Mem} {K : Int32 → Mem → Prop} {S : Sh} {l q : Nat} (hS : SOk S) (hA : Ar M 69 S) (hl : l < 8) (hq : q < 8) (hK : K (nI (shr S l q)) M) : CI (d + 1) μX9_ringNext [.ref 58, .int (nI l), .int (nI q)] M K := by
  have h12 := hS.2.2.1
  refine sg_X9_ringNext_0 ?_
  have loop : ∀ (r i : Nat), r + i = (sc S).length → RI (d + 1) μX9_ringNext 5 [(0, .ref 58), (1, .int (nI l)), (2, .int (nI q)), (3, .int (nI (oPi (sc S) (pr l q) i))), (4, .int (nI i))] [] M K := by
    intro r
    induction r with
    | zero =>
      intro i hi
      have hi : i = (sc S).length := by omega
      subst hi
      refine sg_X9_ringNext_5 ?_
      rw [x_12, hA.2.1, if_pos (by rw [nI_leI (by omega) (by omega)]; omega), n_shl (by omega), n_shl (by omega), n_or, n_clr]
      exact hK
    | succ r ih =>
      intro i hi
      have h := ih (i + 1) (by omega)
      have hT := sc_T3 hS (show i < (sc S).length by omega)
      refine sg_X9_ringNext_5 ?_
      rw [x_12, hA.2.1, if_neg (by rw [nI_leI (by omega) (by omega)]; omega), nI_1, show nx (nI i) = i from nI_clamp (by omega), hA.1 i (by omega)]
      refine ⟨n_in (by omega) (by decide), r_has hT hl ?_⟩
      have e : oPi (sc S) (pr l q) (i + 1) = oPi (sc S) (pr l q) i ||| if ((sc S)[i]?.getD 0) &&& (pr l q) = (pr l q) then (sc S)[i]?.getD 0 else 0 := rfl
      rw [e] at h
      cases h1 : ((sc S)[i]?.getD 0).testBit l with
      | false =>
        rw [if_pos (by decide)]
        rw [if_neg (fun z => by have := (and_pr.mp z).1; rw [h1] at this; cases this), Nat.or_zero] at h
        exact h
      | true =>
        rw [if_neg (by decide)]
        refine ⟨n_in (by omega) (by decide), ?_⟩
        rw [hA.1 i (by omega)]
        refine r_has hT hq ?_
        cases h2 : ((sc S)[i]?.getD 0).testBit q with
        | false =>
          rw [if_pos (by decide)]
          rw [if_neg (fun z => by have := (and_pr.mp z).2; rw [h2] at this; cases this), Nat.or_zero] at h
          exact h
        | true =>
          rw [if_neg (by decide)]
          refine ⟨n_in (by omega) (by decide), ?_⟩
          rw [hA.1 i (by omega)]
          refine r_bitsOf hT ?_
          rw [if_pos (and_pr.mpr ⟨h1, h2⟩)] at h
          rw [n_or]
          exact h
  exact loop (sc S).length 0 (by omega)
theorem m_leastOf {d : Nat} {M : Mem} {K : Int32 → Mem → Prop} {s : Nat} (hs : s < 256) (h0 : s ≠ 0) (hK : K (nI (low8 s)) M) : CI d μX9_leastOf [.int (nI s)] M K := by
  refine sg_X9_leastOf_0 ?_
  have loop : ∀ (r i : Nat), r + i = 8 → (∀ j, j < i → s.testBit j = false) → RI d μX9_leastOf 2 [(0, .int (nI s)), (1, .int (nI i))] [] M K := by
    intro r
    induction r with
    | zero =>
      intro i hi hj
      exact absurd (low_zero s hs (fun j hj2 => hj j (by omega))) h0
    | succ r ih =>
      intro i hi hj
      refine sg_X9_leastOf_2 ?_
      by_cases hb : s.testBit i = true
      · rw [if_neg (fun q => by have := (n_bitz hs (by omega)).mp q; rw [hb] at this; cases this)]
        rw [← (low_first s hs i (by omega) hb hj).2]
        exact hK
      · rw [Bool.not_eq_true] at hb
        rw [if_pos ((n_bitz hs (by omega)).mpr hb), nI_1]
        refine ih (i + 1) (by omega) (fun j hj2 => ?_)
        by_cases hji : j = i
        · rw [hji]; exact hb
        · exact hj j (by omega)
  exact loop 8 0 rfl (fun j h => absurd h (Nat.not_lt_zero _))
/-- about l: left, and of them who may be next -/
def rgF (S : Sh) (l : Nat) : Nat → Nat → Nat → List Int32
  | 0, _, _ => []
  | f + 1, left, c => if c = 0 then [] else nI (low8 c) :: rgF S l f (clr left (2 ^ low8 c)) (clr left (2 ^ low8 c) &&& shr S l (low8 c))
def rgS (S : Sh) (l : Nat) : List Int32 := rgF S l 8 (nbm (sc S) l) (nbm (sc S) l)
theorem rgF_len (S : Sh) (l : Nat) : ∀ f left c, (rgF S l f left c).length ≤ f
  | 0, _, _ => Nat.le_refl _
  | f + 1, left, c => by
    unfold rgF
    split
    · simp
    · simp; exact rgF_len S l f _ _
theorem low_ok : ∀ c, c < 256 → c ≠ 0 → low8 c < 8 ∧ c.testBit (low8 c) = true := by decide +kernel
theorem x_ring {d : Nat} {M : Mem} {K : Int32 → Mem → Prop} {S : Sh} {x : Int32} (hF : Fr M 27 S) (h0 : thI S x = false → ∀ M', QL 0 M M' → LyX M' [] → K (-1) M') (hK : thI S x = true → ∀ M', QL 0 M M' → LyX M' (rgS S (nx x)) → K (nI (rgS S (nx x)).length) M') : CI (d + 2) μX8_ring [.ref 0, .int x] M K := by
  have hS := hF.2.2
  have h8 := hS.1
  refine sg_X8_ring_0 (fun M1 h1 => ?_)
  have q1 : QL 0 M M1 := by rw [h1]; exact QL.w0
  have f1 := hF.keepQL (by omega) q1
  refine c_isThere (by decide +kernel) f1.1 hS ?_
  cases hth : thI S x with
  | false =>
    rw [if_pos (by decide)]
    exact h0 hth M1 q1 ⟨by rw [h1, ri_wi, if_pos ⟨rfl, rfl⟩]; rfl, fun i hi => absurd hi (Nat.not_lt_zero _)⟩
  | true =>
    rw [if_neg (by decide)]
    have hK := hK hth
    obtain ⟨l, hl, rfl, -⟩ := thI_is hS hth
    have e1 : nx (nI l) = l := nI_clamp (by omega)
    rw [e1] at hK
    refine sg_X5_neighboursInOrder_0 (by decide +kernel) ?_
    rw [e1, show ri M1 (27 + 3) l = nI (nbm (sc S) l) from f1.2.1.1 l (by omega)]
    refine ⟨n_in (by omega) (by decide), c_lowest (nbm_lt8 hS l) ?_⟩
    have loop : ∀ (f i left c : Nat) (L : List Int32) (M2 : Mem), f + i = 8 → L.length = i → left < 256 → c < 256 → QL 0 M M2 → (∀ j, j < i → ri M2 43 j = L[j]?.getD 0) → L ++ rgF S l f left c = rgS S l → RI (d + 1) μX5_neighboursInOrder 19 [(0, .ref 42), (1, .ref 27), (2, .int (nI l)), (3, .int (nI left)), (4, .int (if c = 0 then -1 else nI (low8 c))), (5, .int (nI i)), (6, .int (nI i))] [] M2 (fun r5 M4 => (CV (d + 1) μX8_layDown [.ref 0, .int r5] M4 (fun M6 => K r5 M6))) := by
      intro f
      induction f with
      | zero =>
        intro i left c L M2 hi hLl hleft hc q2 hL he
        refine sg_X5_neighboursInOrder_19 (by decide +kernel) ?_
        rw [if_pos (by rw [show (8 : Int32) = nI 8 from rfl, nI_leI (by omega) (by omega)]; omega)]
        have he : L = rgS S l := by rw [← he]; unfold rgF; simp
        refine x_layDown (L := L) hLl (by omega) hL (fun M3 q3 l3 => ?_)
        have := hK M3 (q2.trans q3) (by rw [← he]; exact l3)
        rw [← he, hLl] at this
        exact this
      | succ f ih =>
        intro i left c L M2 hi hLl hleft hc q2 hL he
        refine sg_X5_neighboursInOrder_19 (by decide +kernel) ?_
        rw [if_neg (by rw [show (8 : Int32) = nI 8 from rfl, nI_leI (by omega) (by omega)]; omega)]
        by_cases hz : c = 0
        · rw [if_pos (by rw [if_pos hz])]
          have he : L = rgS S l := by rw [← he]; unfold rgF; rw [if_pos hz]; simp
          refine x_layDown (L := L) hLl (by omega) hL (fun M3 q3 l3 => ?_)
          have := hK M3 (q2.trans q3) (by rw [← he]; exact l3)
          rw [← he, hLl] at this
          exact this
        · have hlo := low_ok c hc hz
          rw [if_neg (by rw [if_neg hz]; intro q; have : nI (low8 c) < 0 := by rw [q]; decide
                         exact absurd this (i_nlt.mpr (by rw [show (0 : Int32) = nI 0 from rfl, nI_leI (by omega) (by omega)]; omega)))]
          rw [if_neg hz, nI_1, show nx (nI i) = i from nI_clamp (by omega), n_shl (by omega), n_shl (by omega), n_or, n_clr]
          refine ⟨n_in (by omega) (by decide), fun M3 h3 => ?_⟩
          have q3 : QL 0 M2 M3 := by rw [h3]; exact (Q.wi rfl).l
          have f3 := hF.keepQL (by omega) (q2.trans q3)
          refine x_sharing (by decide +kernel) f3 (by omega) hlo.1 ?_
          rw [n_and]
          have hcl : clr left (2 ^ low8 c) < 256 := clr_lt (n := 8) hleft
          have hal : clr left (2 ^ low8 c) &&& shr S l (low8 c) < 256 := Nat.lt_of_le_of_lt Nat.and_le_left hcl
          refine c_lowest hal ?_
          refine ih (i + 1) _ _ (L ++ [nI (low8 c)]) M3 (by omega) (by simp; exact hLl) hcl hal (q2.trans q3) (fun j hj => ?_) ?_
          · rw [h3, ri_wi]
            by_cases hji : j = i
            · rw [if_pos ⟨rfl, hji⟩, hji, List.getElem?_append_right (by omega)]
              simp [hLl]
            · rw [if_neg (fun z => hji z.2), hL j (by omega), List.getElem?_append_left (by omega)]
          · rw [← he]
            conv => rhs; unfold rgF
            rw [if_neg hz]; simp
    exact loop 8 0 (nbm (sc S) l) (nbm (sc S) l) [] M1 rfl rfl (nbm_lt8 hS l) (nbm_lt8 hS l) q1 (fun j h => absurd h (Nat.not_lt_zero _)) rfl
theorem m_ring {d : Nat} {M : Mem} {K : Int32 → Mem → Prop} {F : List Int32} {st : Nat} {S S1 : Sh} {x : Int32} (hR : CR M F st S S1) (hP : CP F st S S1) (h0 : thI S x = false → ∀ M', QL 1 M M' → LyM M' [] → K (-1) M') (hK : thI S x = true → ∀ M', QL 1 M M' → LyM M' (rgS S (nx x)) → K (nI (rgS S (nx x)).length) M') : CI (d + 3) μX9_ring [.ref 58, .int x] M K := by
  have hS := hP.1.1
  have h8 := hS.1
  refine sg_X9_ring_0 (fun M1 h1 => ?_)
  have q1 : QL 1 M M1 := by rw [h1]; exact QL.w58
  have e45 : ri M1 58 45 = 0 := by rw [h1, ri_wi, if_pos ⟨rfl, rfl⟩]
  refine r_isThereNow (hR.keepL q1) hS (fun M2 q2 a2 c2 => ?_)
  have e45' : ri M2 58 45 = 0 := by rw [q2.1 58 45 rfl (by omega)]; exact e45
  cases hth : thI S x with
  | false =>
    rw [if_pos (by decide)]
    exact h0 hth M2 (q1.trans q2.l) ⟨e45', fun i hi => absurd hi (Nat.not_lt_zero _)⟩
  | true =>
    rw [if_neg (by decide)]
    have hK := hK hth
    obtain ⟨l, hl, rfl, -⟩ := thI_is hS hth
    have e1 : nx (nI l) = l := nI_clamp (by omega)
    rw [e1] at hK
    refine r_bordersOf (by omega) hS a2 ?_
    have hnl := nbm_lt8 hS l
    have loop : ∀ (f i left c : Nat) (L : List Int32) (M2 : Mem), f + i = 8 → L.length = i → left < 256 → c < 256 → pc8 left ≤ f → (∀ j, c.testBit j = true → left.testBit j = true) → QL 1 M M2 → Ar M2 69 S → ri M2 58 45 = nI i → (∀ j, j < i → ri M2 73 j = L[j]?.getD 0) → L ++ rgF S l f left c = rgS S l → RI (d + 3) μX9_ring 34 [(0, .ref 58), (1, .int (nI l)), (2, .int (nI left)), (3, .int (if c = 0 then -1 else nI (low8 c)))] [] M2 K := by
      intro f
      induction f with
      | zero =>
        intro i left c L M2 hi hLl hleft hc hpc hsub q2 a2 h45 hL he
        have hz : c = 0 := by
          have hl0 : left = 0 := by
            have : ∀ s, s < 256 → pc8 s ≤ 0 → s = 0 := by decide +kernel
            exact this left hleft hpc
          apply tb_ext; intro j
          rw [Nat.zero_testBit]
          cases q : c.testBit j with
          | false => rfl
          | true => have := hsub j q; rw [hl0, Nat.zero_testBit] at this; cases this
        refine sg_X9_ring_34 ?_
        rw [if_pos (by rw [if_pos hz]; decide), h45]
        have he : L = rgS S l := by rw [← he]; unfold rgF; simp
        have := hK M2 q2 ⟨by rw [← he, hLl]; exact h45, fun j hj => by rw [← he]; rw [← he] at hj; exact hL j (by omega)⟩
        rw [← he, hLl] at this
        exact this
      | succ f ih =>
        intro i left c L M2 hi hLl hleft hc hpc hsub q2 a2 h45 hL he
        refine sg_X9_ring_34 ?_
        by_cases hz : c = 0
        · rw [if_pos (by rw [if_pos hz]; decide), h45]
          have he : L = rgS S l := by rw [← he]; unfold rgF; rw [if_pos hz]; simp
          have := hK M2 q2 ⟨by rw [← he, hLl]; exact h45, fun j hj => by rw [← he]; rw [← he] at hj; exact hL j (by omega)⟩
          rw [← he, hLl] at this
          exact this
        · have hlo := low_ok c hc hz
          rw [if_neg (by rw [if_neg hz]; exact i_nlt.mpr (by rw [show (0 : Int32) = nI 0 from rfl, nI_leI (by omega) (by omega)]; omega))]
          rw [if_neg hz, h45, show nx (nI i) = i from nI_clamp (by omega), n_shl (by omega), n_clr]
          refine ⟨n_in (by omega) (by decide), fun M3 h3 M4 h4 => ?_⟩
          have r3 : ∀ k j, ri M3 k j = if k = 73 ∧ j = i then nI (low8 c) else ri M2 k j := by intro k j; rw [h3, ri_wi]
          rw [r3, if_neg (by omega), h45, nI_1] at h4
          have r4 : ∀ k j, ri M4 k j = if k = 58 ∧ j = 45 then nI (i + 1) else ri M3 k j := by intro k j; rw [h4, ri_wi]
          have q4 : QL 1 M2 M4 := by rw [h4, h3]; exact QL.w73.trans QL.w58
          have a4 : Ar M4 69 S := a2.keepE (fun j => by rw [r4, if_neg (by omega), r3, if_neg (by omega)])
          refine m_ringNext hS a4 (by omega) hlo.1 ?_
          rw [n_and, Nat.and_comm]
          have hcl : clr left (2 ^ low8 c) < 256 := clr_lt (n := 8) hleft
          have hal : clr left (2 ^ low8 c) &&& shr S l (low8 c) < 256 := Nat.lt_of_le_of_lt Nat.and_le_left hcl
          have hpc2 := pc8_clr left hleft (low8 c) hlo.1 (hsub _ hlo.2)
          have next := ih (i + 1) (clr left (2 ^ low8 c)) (clr left (2 ^ low8 c) &&& shr S l (low8 c)) (L ++ [nI (low8 c)]) M4 (by omega) (by simp; exact hLl) hcl hal (by omega) (fun j hj => by rw [Nat.testBit_and, Bool.and_eq_true] at hj; exact hj.1) (q2.trans q4) a4 (by rw [r4, if_pos ⟨rfl, rfl⟩]) (fun j hj => by
            rw [r4, if_neg (by omega), r3]
            by_cases hji : j = i
            · rw [if_pos ⟨rfl, hji⟩, hji, List.getElem?_append_right (by omega)]
              simp [hLl]
            · rw [if_neg (fun z => hji z.2), hL j (by omega), List.getElem?_append_left (by omega)]) (by
            rw [← he]
            conv => rhs; unfold rgF
            rw [if_neg hz]; simp)
          by_cases hz2 : clr left (2 ^ low8 c) &&& shr S l (low8 c) = 0
          · rw [if_pos ((n_z (by omega)).mpr hz2)]
            rw [if_pos hz2] at next
            exact next
          · rw [if_neg (fun q => hz2 ((n_z (by omega)).mp q))]
            rw [if_neg hz2] at next
            exact m_leastOf hal hz2 next
    have start := loop 8 0 (nbm (sc S) l) (nbm (sc S) l) [] M2 rfl rfl hnl hnl (pc8_le _) (fun j h => h) (q1.trans q2.l) a2 e45' (fun j h => absurd h (Nat.not_lt_zero _)) rfl
    by_cases hz : nbm (sc S) l = 0
    · rw [if_pos ((n_z (by omega)).mpr hz)]
      rw [if_pos hz] at start
      exact start
    · rw [if_neg (fun q => hz ((n_z (by omega)).mp q))]
      rw [if_neg hz] at start
      exact m_leastOf hnl hz start
