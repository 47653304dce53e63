/-! the acts: season, flip, pop, gift -/
theorem sy_flipS (S : Sh) (a b : Nat) : sy (flipS S a b) = sy S := rfl
theorem sy_shed (S : Sh) (p : Nat) : ∀ r, sy (shedS S p r) = sy S
  | 0 => rfl
  | r + 1 => by
    show sy (if fe S p (sn S - (r + 1)) ≠ 0 then flipS S p (sn S - (r + 1)) else shedS S p r) = sy S
    split
    · rfl
    · exact sy_shed S p r
theorem sy_with (S : Sh) (p : Nat) : sy (withS S p) = sy S := by
  unfold withS
  split
  · rfl
  · exact sy_shed S p _
theorem sy_wls (n : Nat) : ∀ (r : Nat) (S : Sh), sy (wlsS n S r) = sy S
  | 0, _ => rfl
  | r + 1, S => by
    show sy (wlsS n (if thI S (nI (n - (r + 1))) = true ∧ sz S (n - (r + 1)) = 0 then withS S (n - (r + 1)) else S) r) = sy S
    rw [sy_wls n r]
    split
    · exact sy_with S _
    · rfl
theorem sy_str (S : Sh) (st : Nat) : sy (strS S st) = sy S := by
  unfold strS
  simp only
  split
  · split
    · rfl
    · rfl
  · rfl
theorem sy_sea (S : Sh) (F : List Int32) (st : Nat) : sy (seaS S F st) = sy S + 1 := by
  unfold seaS
  simp only
  show sy (strS _ st) + 1 = sy S + 1
  rw [sy_str, sy_wls]; rfl
theorem HG.act {n : Nat} {P R : List Sh} {S : Sh} (h : HG n P R) (hS : GK n S) : HG n ((S :: P).take 40) [] := by
  refine ⟨?_, fun T hT => ?_⟩
  · rw [List.length_take, List.length_nil]; omega
  · rcases hT with hT | hT
    · rcases List.mem_cons.mp (List.mem_of_mem_take hT) with rfl | hT
      · exact hS
      · exact h.2 T (Or.inl hT)
    · cases hT
theorem HX.keepC {M M' : Mem} {S : Sh} {P R : List Sh} (h : HX M S P R) {n : Nat} (hG : HG n P R) (hS : SOk S) (e : ∀ j, ri M' 39 j = ri M 39 j) (e40 : ∀ j, ri M' 40 j = ri M 40 j) : HX M' S P R := by
  obtain ⟨a, ha, h3, h0, h1, hrow, hP, hR⟩ := h
  exact ⟨a, ha, by rw [e]; exact h3, by rw [e]; exact h0, by rw [e]; exact h1, hrow.keep hS.2.2.1 (fun j _ _ => e40 j), fun i hi => (hP i hi).keep (hG.at hi).1.1.2.2.1 (fun j _ _ => e40 j), fun i hi => (hR i hi).keep (hG.at2 hi).1.1.2.2.1 (fun j _ _ => e40 j)⟩
theorem HM.keepC {M M' : Mem} {P R : List Sh} (h : HM M P R) {n : Nat} (hG : HG n P R) (e0 : ri M' 58 40 = ri M 58 40) (e1 : ri M' 58 41 = ri M 58 41) (e : ∀ j, ri M' 72 j = ri M 72 j) : HM M' P R :=
  ⟨by rw [e0]; exact h.1, by rw [e1]; exact h.2.1, fun i hi => (h.2.2.1 i hi).copy (hG.at hi).1.1.2.2.1 (fun j _ => e _), fun i hi => (h.2.2.2 i hi).copy (hG.at2 hi).1.1.2.2.1 (fun j _ => e _)⟩
def aSeason (S S' : Sh) : Int32 := nI (clr (sb S) (sb S'))
theorem x_season {d n t : Nat} {M : Mem} {K : Int32 → Mem → Prop} {F : List Int32} {st : Nat} {S S1 : Sh} {P R : List Sh} (hX : CX M t F st S S1) (hst : st ≤ 100) (hS : GK n S) (hH : HX M S P R) (hG : HG n P R) (h0 : sy S = 999 → K (-1) M) (hK : ∀ M', QH 0 M M' → Fr M' 27 (seaS S F st) → GK n (seaS S F st) → HX M' (seaS S F st) ((S :: P).take 40) [] → K (aSeason S (seaS S F st)) M') : CI (d + 5) μX8_season [.ref 0] M K := by
  have hF := hX.2.2.2.2.2
  obtain ⟨k, hk, hsy⟩ := hS.2.2
  refine sg_X8_season_0 ?_
  rw [hF.1.2.2.1, hsy]
  by_cases h9 : k = 999
  · rw [if_neg (by rw [show (999 : Int32) = nI 999 from rfl, nI_ltI (by omega) (by omega)]; omega)]
    exact h0 (by rw [hsy, h9]; rfl)
  · rw [if_pos (by rw [show (999 : Int32) = nI 999 from rfl, nI_ltI (by omega) (by omega)]; omega)]
    refine ⟨t, hX.1, (tell_kd hX.2.1).1, t, hX.1, (tell_kd hX.2.1).1, ?_⟩
    rw [hX.2.2.2.1]
    refine c_passSeason (by decide +kernel) (tell_kd hX.2.1).2.1 GS_Clo hst hF hS.1 hX.2.2.1 (fun M1 s1 f1 g1 _ => ?_)
    have e1 : ∀ k j, (k = 39 ∨ k = 40) → ri M1 k j = ri M k j := fun k j hk => s1.1 k (by omega) (by rcases hX.2.1 with rfl | rfl <;> omega) (by rcases hX.2.1 with rfl | rfl <;> omega) j
    have H1 : HX M1 S P R := hH.keepC hG hS.1.1 (fun j => e1 _ _ (by omega)) (fun j => e1 _ _ (by omega))
    have gk : GK n (seaS S F st) := ⟨g1, by rw [sn_seaS]; exact hS.2.1, k + 1, by omega, by rw [sy_sea, hsy, nI_1]⟩
    refine x_keep f1 H1 hG hS (fun M2 q2 f2 h2 => ?_)
    rw [hF.1.2.1, f2.1.2.1, n_clr]
    exact hK M2 ((s1.h hX.2.1).trans q2) f2 gk h2
theorem m_season {d n : Nat} {M : Mem} {K : Int32 → Mem → Prop} {F : List Int32} {st : Nat} {S S1 : Sh} {P R : List Sh} (hR : CR M F st S S1) (hW : WfF F) (hst : st ≤ 100) (hS : GK n S) (hH : HM M P R) (hG : HG n P R) (h0 : sy S = 999 → K (-1) M) (hK : ∀ M', QH 1 M M' → Ar M' 68 (seaS S F st) → HM M' ((S :: P).take 40) [] → K (aSeason S (seaS S F st)) M') : CI (d + 6) μX9_season [.ref 58] M K := by
  refine sg_X9_season_0 ?_
  rw [x_22, hR.1.2.2.2.2.1]
  by_cases h9 : sy S = 999
  · rw [if_pos h9]; exact h0 h9
  · rw [if_neg h9]
    refine m_act hS.1.1 hG hR.1 hH (fun M1 q1 a1 b1 h1 => ?_)
    have c1 := hR.keepH q1 rfl b1
    refine r_goSeason GS_Clo GS_2 hst true hS.1 hW a1 c1.2.2.1 c1.2.2.2.1 c1.2.2.2.2 (fun M2 s2 a2 g2 => ?_)
    have a2 : Ar M2 69 (seaS S F st) := a2
    have g2 : GS (seaS S F st) := g2
    refine r_keepAir (fun M3 s3 e3 => ?_)
    have a3 : Ar M3 68 (seaS S F st) := a2.copy g2.1.2.2.1 e3
    rw [x_13, a1.2.2.1, a3.2.2.1, n_clr]
    have e2 : ∀ k j, (k = 58 ∨ k = 72) → ri M3 k j = ri M1 k j := fun k j hk => by
      rw [s3.1 k (by omega) j, s2.1 k (by omega) (by omega) (by omega) (by omega) j]
    refine hK M3 ((q1.trans s2.q.h).trans ⟨fun k j _ _ _ _ c _ _ => s3.1 k (fun q => c ⟨rfl, q⟩) j, s3.2⟩) a3 (h1.keepC (hG.act hS) (e2 _ _ (by omega)) (e2 _ _ (by omega)) (fun j => e2 _ _ (by omega)))
def aFlip (S : Sh) (x y : Int32) : Int32 := nI (8 * low8 (feI S x y) + low8 (feI S x y &&& (feI S x y - 1)))
theorem e_and1 {e : Nat} (he : 0 < e) : nI e &&& (nI e - 1) = nI (e &&& (e - 1)) := by
  have : nI e - 1 = nI (e - 1) := by
    have := nI_pred (e - 1)
    rw [show e - 1 + 1 = e by omega] at this
    exact this
  rw [this, n_and]
theorem x_flip {d n : Nat} {M : Mem} {K : Int32 → Mem → Prop} {S : Sh} {P R : List Sh} {x y : Int32} (hF : Fr M 27 S) (hS : GK n S) (hH : HX M S P R) (hG : HG n P R) (h0 : feI S x y = 0 → K (-1) M) (hK : feI S x y ≠ 0 → ∀ M', QH 0 M M' → Fr M' 27 (flipS S (nx x) (nx y)) → GK n (flipS S (nx x) (nx y)) → HX M' (flipS S (nx x) (nx y)) ((S :: P).take 40) [] → K (aFlip S x y) M') : CI (d + 3) μX8_flip [.ref 0, .int x, .int y] M K := by
  have hSo := hF.2.2
  have h8 := hSo.1
  refine sg_X8_flip_0 ?_
  refine c_turnWall (by decide +kernel) hF (fun h => by rw [if_pos rfl]; exact h0 h) (fun i j M1 e1 e2 hi hj hf s1 f1 => ?_)
  subst e1 e2
  have efe := feI_nat hSo hi hj
  have hlt := feI_lt hSo (nI i) (nI j)
  rw [efe] at hlt
  have hK := hK (by rw [efe]; exact hf)
  rw [show nx (nI i) = i from nI_clamp (by omega), show nx (nI j) = j from nI_clamp (by omega)] at hK
  rw [if_neg (fun q => hf ((n_z (by omega)).mp q))]
  have gk : GK n (flipS S i j) := ⟨GS_flip hS.1 hi hj hf, hS.2.1, hS.2.2⟩
  have H1 : HX M1 S P R := hH.keepC hG hSo (fun j => s1.1 39 (by omega) j) (fun j => s1.1 40 (by omega) j)
  refine x_keep f1 H1 hG hS (fun M2 q2 f2 h2 => ?_)
  obtain ⟨-, -, -, -, p2, -, -⟩ := fe_pos hf
  have tb := two_bits _ hlt p2
  refine c_lowest hlt ?_
  rw [if_neg (by omega), e_and1 tb.1]
  refine c_lowest tb.2.2 ?_
  rw [if_neg tb.2.1, nI_88]
  have := hK M2 (s1.h.trans q2) f2 gk h2
  unfold aFlip at this
  rw [efe] at this
  exact this
theorem m_flip {d n : Nat} {M : Mem} {K : Int32 → Mem → Prop} {F : List Int32} {st : Nat} {S S1 : Sh} {P R : List Sh} {x y : Int32} (hR : CR M F st S S1) (hS : GK n S) (hH : HM M P R) (hG : HG n P R) (h0 : feI S x y = 0 → ∀ M', Q M M' → K (-1) M') (hK : feI S x y ≠ 0 → ∀ M', QH 1 M M' → Ar M' 68 (flipS S (nx x) (nx y)) → HM M' ((S :: P).take 40) [] → K (aFlip S x y) M') : CI (d + 4) μX9_flip [.ref 58, .int x, .int y] M K := by
  have hSo := hS.1.1
  have h8 := hSo.1
  refine sg_X9_flip_0 (r_isThereNow hR hSo (fun M1 q1 a1 c1 => ?_))
  have nf : ∀ z, thI S z = false → ∀ u v, (u = z ∨ v = z) → feI S u v = 0 := by
    intro z hz u v huv
    by_cases hf : feI S u v = 0
    · exact hf
    · exfalso
      obtain ⟨i, j, hi, hj, rfl, rfl, e⟩ := feI_pos hSo hf
      rw [e] at hf
      obtain ⟨f1, -, -, -, -, -, -⟩ := fe_pos hf
      rw [mtI_nat hSo hi hj] at f1
      have hij : i ≠ j := by intro q; rw [q, nbm_self] at f1; cases f1
      have tj := (nbm_th hS.1.2.2.2.1 f1).1
      have ti := (nbm_th hS.1.2.2.2.1 (by rw [← nbm_sym hij]; exact f1)).1
      rcases huv with rfl | rfl
      · rw [thI_nat hSo hi, ti] at hz; cases hz
      · rw [thI_nat hSo hj, tj] at hz; cases hz
  cases h1 : thI S x with
  | false => rw [if_pos (by decide)]; exact h0 (nf x h1 x y (Or.inl rfl)) M1 q1
  | true =>
    rw [if_neg (by decide)]
    refine r_isThereNow c1 hSo (fun M2 q2 a2 c2 => ?_)
    cases h2 : thI S y with
    | false => rw [if_pos (by decide)]; exact h0 (nf y h2 x y (Or.inr rfl)) M2 (q1.trans q2)
    | true =>
      rw [if_neg (by decide)]
      obtain ⟨i, hi, rfl, -⟩ := thI_is hSo h1
      obtain ⟨j, hj, rfl, -⟩ := thI_is hSo h2
      have efe := feI_nat hSo hi hj
      refine r_canFlip hi hj hSo hS.1.2.2.1 hS.1.2.2.2.1 a2 ?_
      by_cases hf : fe S i j = 0
      · rw [if_pos (bI_eq (by simp [hf]))]
        exact h0 (by rw [efe]; exact hf) M2 (q1.trans q2)
      · rw [if_neg (bI_ne (by simp [hf]))]
        have hK := hK (by rw [efe]; exact hf)
        rw [show nx (nI i) = i from nI_clamp (by omega), show nx (nI j) = j from nI_clamp (by omega)] at hK
        have qq := q1.trans q2
        have H2 : HM M2 P R := hH.keepC hG (qq.1 58 40 rfl (by omega)) (qq.1 58 41 rfl (by omega)) (fun j => qq.1 72 j rfl (by omega))
        refine m_act hSo hG c2.1 H2 (fun M3 q3 a3 b3 h3 => ?_)
        refine r_doFlip hi hj hSo hS.1.2.1 hS.1.2.2.1 hS.1.2.2.2.1 hf a3 (fun M4 s4 a4 => ?_)
        refine r_keepAir (fun M5 s5 e5 => ?_)
        have a5 : Ar M5 68 (flipS S i j) := a4.copy (GS_flip hS.1 hi hj hf).1.2.2.1 e5
        have e2 : ∀ k j, (k = 58 ∨ k = 72) → ri M5 k j = ri M3 k j := fun k j hk => by
          rw [s5.1 k (by omega) j, s4.1 k (by omega) j]
        have := hK M5 (((qq.h.trans q3).trans s4.q.h).trans ⟨fun k j _ _ _ _ c _ _ => s5.1 k (fun q => c ⟨rfl, q⟩) j, s5.2⟩) a5 (h3.keepC (hG.act hS) (e2 _ _ (by omega)) (e2 _ _ (by omega)) (fun j => e2 _ _ (by omega)))
        unfold aFlip at this
        rw [efe] at this
        exact this
theorem x_pop {d n : Nat} {M : Mem} {K : Int32 → Mem → Prop} {S : Sh} {P R : List Sh} {x y : Int32} (hF : Fr M 27 S) (hS : GK n S) (hH : HX M S P R) (hG : HG n P R) (h0 : cmI S x y = false → K (-1) M) (hK : cmI S x y = true → ∀ M', QH 0 M M' → Fr M' 27 (mgS S (nx x) (nx y)) → GK n (mgS S (nx x) (nx y)) → HX M' (mgS S (nx x) (nx y)) ((S :: P).take 40) [] → K (nI (sz (mgS S (nx x) (nx y)) (nx x))) M') : CI (d + 4) μX8_pop [.ref 0, .int x, .int y] M K := by
  have hSo := hF.2.2
  have h8 := hSo.1
  refine sg_X8_pop_0 ?_
  refine c_merge (by decide +kernel) hF (fun h => by rw [if_pos rfl]; exact h0 h) (fun i j M1 e1 e2 hi hj hc s1 f1 => ?_)
  subst e1 e2
  have hK := hK hc
  have e1 : nx (nI i) = i := nI_clamp (by omega)
  rw [e1, show nx (nI j) = j from nI_clamp (by omega)] at hK
  rw [if_neg (by decide)]
  have gk : GK n (mgS S i j) := ⟨GS_pop hS.1 hi hj hc, hS.2.1, hS.2.2⟩
  have H1 : HX M1 S P R := hH.keepC hG hSo (fun j => s1.1 39 (by omega) j) (fun j => s1.1 40 (by omega) j)
  refine x_keep f1 H1 hG hS (fun M2 q2 f2 h2 => ?_)
  rw [e1, f2.1.2.2.2.2.2.1 i (by omega)]
  exact ⟨n_in (by omega) (by decide), hK M2 (s1.h.trans q2) f2 gk h2⟩
theorem m_pop {d n : Nat} {M : Mem} {K : Int32 → Mem → Prop} {F : List Int32} {st : Nat} {S S1 : Sh} {P R : List Sh} {x y : Int32} (hR : CR M F st S S1) (hS : GK n S) (hH : HM M P R) (hG : HG n P R) (h0 : cmI S x y = false → ∀ M', Q M M' → K (-1) M') (hK : cmI S x y = true → ∀ M', QH 1 M M' → Ar M' 68 (mgS S (nx x) (nx y)) → HM M' ((S :: P).take 40) [] → K (nI (sz (mgS S (nx x) (nx y)) (nx x))) M') : CI (d + 4) μX9_pop [.ref 58, .int x, .int y] M K := by
  have hSo := hS.1.1
  have h8 := hSo.1
  refine sg_X9_pop_0 (r_isThereNow hR hSo (fun M1 q1 a1 c1 => ?_))
  have nf : ∀ z, thI S z = false → ∀ u v, (u = z ∨ v = z) → cmI S u v = false := by
    intro z hz u v huv
    cases hf : cmI S u v with
    | false => rfl
    | true =>
      exfalso
      obtain ⟨i, j, hi, hj, rfl, rfl⟩ := mtI_rng hSo hf
      rw [cmI_nat hSo hi hj, Bool.and_eq_true, Bool.and_eq_true] at hf
      have f1 := hf.1.1
      have hij : i ≠ j := by intro q; rw [q, nbm_self] at f1; cases f1
      have tj := (nbm_th hS.1.2.2.2.1 f1).1
      have ti := (nbm_th hS.1.2.2.2.1 (by rw [← nbm_sym hij]; exact f1)).1
      rcases huv with rfl | rfl
      · rw [thI_nat hSo hi, ti] at hz; cases hz
      · rw [thI_nat hSo hj, tj] at hz; cases hz
  cases h1 : thI S x with
  | false => rw [if_pos (by decide)]; exact h0 (nf x h1 x y (Or.inl rfl)) M1 q1
  | true =>
    rw [if_neg (by decide)]
    refine r_isThereNow c1 hSo (fun M2 q2 a2 c2 => ?_)
    cases h2 : thI S y with
    | false => rw [if_pos (by decide)]; exact h0 (nf y h2 x y (Or.inr rfl)) M2 (q1.trans q2)
    | true =>
      rw [if_neg (by decide)]
      obtain ⟨i, hi, rfl, -⟩ := thI_is hSo h1
      obtain ⟨j, hj, rfl, -⟩ := thI_is hSo h2
      refine r_canPop hi hj hSo a2 ?_
      cases hc : cmI S (nI i) (nI j) with
      | false => rw [if_pos (by decide)]; exact h0 hc M2 (q1.trans q2)
      | true =>
        rw [if_neg (by decide)]
        have hK := hK hc
        rw [show nx (nI i) = i from nI_clamp (by omega), show nx (nI j) = j from nI_clamp (by omega)] at hK
        have hm := hc
        rw [cmI_nat hSo hi hj, Bool.and_eq_true, Bool.and_eq_true] at hm
        have hij : i ≠ j := by intro q; have f1 := hm.1.1; rw [q, nbm_self] at f1; cases f1
        have qq := q1.trans q2
        have H2 : HM M2 P R := hH.keepC hG (qq.1 58 40 rfl (by omega)) (qq.1 58 41 rfl (by omega)) (fun j => qq.1 72 j rfl (by omega))
        refine m_act hSo hG c2.1 H2 (fun M3 q3 a3 b3 h3 => ?_)
        refine r_doPop hi hj hij hSo hS.1.2.1 hS.1.2.2.1 hm.1.1 a3 (fun M4 s4 a4 => ?_)
        refine r_keepAir (fun M5 s5 e5 => ?_)
        have a5 : Ar M5 68 (mgS S i j) := a4.copy (GS_pop hS.1 hi hj hc).1.2.2.1 e5
        have e2 : ∀ k j, (k = 58 ∨ k = 72) → ri M5 k j = ri M3 k j := fun k j hk => by
          rw [s5.1 k (by omega) j, s4.1 k (by omega) j]
        have h14 := n_in14 (show i < 8 by omega)
        rw [h14.2, a5.2.2.2.1 i (by omega)]
        exact ⟨h14.1, hK M5 (((qq.h.trans q3).trans s4.q.h).trans ⟨fun k j _ _ _ _ c _ _ => s5.1 k (fun q => c ⟨rfl, q⟩) j, s5.2⟩) a5 (h3.keepC (hG.act hS) (e2 _ _ (by omega)) (e2 _ _ (by omega)) (fun j => e2 _ _ (by omega)))⟩
/-- l gets m more -/
def gfS (S : Sh) (l m : Nat) : Sh := setZ S (fun j => if j = l then (if sz S l + m < 999 then sz S l + m else 999) else sz S j)
theorem GK_gift {n : Nat} {S : Sh} (h : GK n S) {l m : Nat} (hl : l < sn S) (ht : (sb S).testBit l = true) : GK n (gfS S l m) := by
  refine ⟨GS_Clo.2.2.2.2.1 S _ h.1 (fun j => ?_) (fun j hj => ?_), h.2.1, h.2.2⟩
  · show (if j = l then (if sz S l + m < 999 then sz S l + m else 999) else sz S j) ≤ 999
    have := h.1.1.2.2.2.2.2 j
    split
    · split <;> omega
    · exact this
  · show (if j = l then (if sz S l + m < 999 then sz S l + m else 999) else sz S j) = sz S j
    by_cases hjl : j = l
    · subst hjl; rw [thI_nat h.1.1 hl, ht] at hj; cases hj
    · rw [if_neg hjl]
def gfC (S : Sh) (x y : Int32) : Prop := thI S x = true ∧ (1 ≤ y ∧ y ≤ 99) ∧ sz S (nx x) < 999
theorem x_gift {d n : Nat} {M : Mem} {K : Int32 → Mem → Prop} {S : Sh} {P R : List Sh} {x y : Int32} (hF : Fr M 27 S) (hS : GK n S) (hH : HX M S P R) (hG : HG n P R) (h0 : ¬ gfC S x y → K (-1) M) (hK : gfC S x y → ∀ M', QH 0 M M' → Fr M' 27 (gfS S (nx x) (nx y)) → GK n (gfS S (nx x) (nx y)) → HX M' (gfS S (nx x) (nx y)) ((S :: P).take 40) [] → K (nI (sz (gfS S (nx x) (nx y)) (nx x))) M') : CI (d + 3) μX8_gift [.ref 0, .int x, .int y] M K := by
  have hSo := hF.2.2
  have h8 := hSo.1
  refine sg_X8_gift_0 (c_isThere (by decide +kernel) hF.1 hSo ?_)
  cases ht : thI S x with
  | false => rw [if_pos (by decide)]; exact h0 (fun q => by have := q.1; rw [ht] at this; cases this)
  | true =>
    rw [if_neg (by decide)]
    by_cases h1 : y < 1
    · rw [if_pos h1]; exact h0 (fun q => absurd h1 (i_nlt.mpr q.2.1.1))
    rw [if_neg h1]
    by_cases h2 : 99 < y
    · rw [if_pos h2]; exact h0 (fun q => absurd h2 (i_nlt.mpr q.2.1.2))
    rw [if_neg h2]
    obtain ⟨l, hl, rfl, htb⟩ := thI_is hSo ht
    obtain ⟨m, hm, rfl⟩ := le_nat (Int32.le_trans (by decide) (i_nlt.mp h1)) (i_nlt.mp h2) (k := 99) (by decide)
    have e1 : nx (nI l) = l := nI_clamp (by omega)
    have e2 : nx (nI m) = m := nI_clamp (by omega)
    have hz := hSo.2.2.2.2.2 l
    rw [e1, hF.1.2.2.2.2.2.1 l (by omega)]
    refine ⟨n_in (by omega) (by decide), ?_⟩
    unfold gfC at h0 hK
    rw [e1] at h0 hK
    rw [e2] at hK
    by_cases h3 : sz S l < 999
    · rw [if_pos (by rw [show (999 : Int32) = nI 999 from rfl, nI_ltI (by omega) (by omega)]; exact h3)]
      have hK := hK ⟨ht, ⟨i_nlt.mp h1, i_nlt.mp h2⟩, h3⟩
      refine ⟨n_in (by omega) (by decide), n_in (by omega) (by decide), fun M3 h3' => ?_⟩
      have ev : (if nI (sz S l) + nI m < 999 then nI (sz S l) + nI m else 999) = nI (if sz S l + m < 999 then sz S l + m else 999) := by
        rw [nI_add]
        by_cases hc : sz S l + m < 999
        · rw [if_pos hc, if_pos (by rw [show (999 : Int32) = nI 999 from rfl, nI_ltI (by omega) (by omega)]; exact hc)]
        · rw [if_neg hc, if_neg (by rw [show (999 : Int32) = nI 999 from rfl, nI_ltI (by omega) (by omega)]; exact hc)]; rfl
      rw [ev] at h3'
      have r3 : ∀ k j, ri M3 k j = if k = 28 ∧ j = l then nI (if sz S l + m < 999 then sz S l + m else 999) else ri M k j := by intro k j; rw [h3', ri_wi]
      have gk := GK_gift (m := m) hS hl htb
      have f3 : Fr M3 27 (gfS S l m) := by
        refine ⟨⟨?_, ?_, ?_, ?_, ?_, fun j hj => ?_, fun i hi => ?_⟩, ⟨fun p hp => ?_, fun p hp => ?_⟩, gk.1.1⟩
        · rw [r3, if_neg (by omega)]; exact hF.1.1
        · rw [r3, if_neg (by omega)]; exact hF.1.2.1
        · rw [r3, if_neg (by omega)]; exact hF.1.2.2.1
        · rw [r3, if_neg (by omega)]; exact hF.1.2.2.2.1
        · rw [r3, if_neg (by omega)]; exact hF.1.2.2.2.2.1
        · rw [r3]
          show _ = nI (if j = l then (if sz S l + m < 999 then sz S l + m else 999) else sz S j)
          by_cases hjl : j = l
          · rw [if_pos ⟨rfl, hjl⟩, if_pos hjl]
          · rw [if_neg (fun q => hjl q.2), if_neg hjl]; exact hF.1.2.2.2.2.2.1 j hj
        · rw [r3, if_neg (by omega)]; exact hF.1.2.2.2.2.2.2 i hi
        · rw [r3, if_neg (by omega)]; exact hF.2.1.1 p hp
        · rw [r3, if_neg (by omega)]; exact hF.2.1.2 p hp
      have s3 : Sm M M3 27 := by rw [h3']; exact Sm.wi (by omega) (by omega)
      have H1 : HX M3 S P R := hH.keepC hG hSo (fun j => s3.1 39 (by omega) j) (fun j => s3.1 40 (by omega) j)
      refine x_keep f3 H1 hG hS (fun M4 q4 f4 h4 => ?_)
      rw [f4.1.2.2.2.2.2.1 l (by omega)]
      exact ⟨n_in (by omega) (by decide), hK M4 (s3.h.trans q4) f4 gk h4⟩
    · rw [if_neg (by rw [show (999 : Int32) = nI 999 from rfl, nI_ltI (by omega) (by omega)]; exact h3)]
      exact h0 (fun q => h3 q.2.2)
theorem m_gift {d n : Nat} {M : Mem} {K : Int32 → Mem → Prop} {F : List Int32} {st : Nat} {S S1 : Sh} {P R : List Sh} {x y : Int32} (hR : CR M F st S S1) (hS : GK n S) (hH : HM M P R) (hG : HG n P R) (h0 : ¬ gfC S x y → ∀ M', Q M M' → K (-1) M') (hK : gfC S x y → ∀ M', QH 1 M M' → Ar M' 68 (gfS S (nx x) (nx y)) → HM M' ((S :: P).take 40) [] → K (nI (sz (gfS S (nx x) (nx y)) (nx x))) M') : CI (d + 3) μX9_gift [.ref 58, .int x, .int y] M K := by
  have hSo := hS.1.1
  have h8 := hSo.1
  have h12 := hSo.2.2.1
  refine sg_X9_gift_0 (r_isThereNow hR hSo (fun M1 q1 a1 c1 => ?_))
  cases ht : thI S x with
  | false => rw [if_pos (by decide)]; exact h0 (fun q => by have := q.1; rw [ht] at this; cases this) M1 q1
  | true =>
    rw [if_neg (by decide)]
    refine r_isIn ?_
    by_cases h1 : 1 ≤ y ∧ y ≤ 99
    · rw [if_neg (bI_ne (decide_eq_true h1))]
      obtain ⟨l, hl, rfl, htb⟩ := thI_is hSo ht
      obtain ⟨m, hm, rfl⟩ := le_nat (Int32.le_trans (by decide) h1.1) h1.2 (k := 99) (by decide)
      have e1 : nx (nI l) = l := nI_clamp (by omega)
      have e2 : nx (nI m) = m := nI_clamp (by omega)
      have hz := hSo.2.2.2.2.2 l
      have h14 := n_in14 (show l < 8 by omega)
      rw [h14.2, c1.1.2.2.2.1 l (by omega)]
      refine ⟨h14.1, ?_⟩
      unfold gfC at h0 hK
      rw [e1] at h0 hK
      rw [e2] at hK
      by_cases h3 : sz S l = 999
      · rw [if_pos (by rw [h3]; rfl)]
        exact h0 (fun q => by have := q.2.2; omega) M1 q1
      · rw [if_neg (by rw [show (999 : Int32) = nI 999 from rfl, nI_eq (by omega) (by omega)]; exact h3)]
        have hK := hK ⟨ht, h1, by omega⟩
        have H1 : HM M1 P R := hH.keepC hG (q1.1 58 40 rfl (by omega)) (q1.1 58 41 rfl (by omega)) (fun j => q1.1 72 j rfl (by omega))
        refine m_act hSo hG c1.1 H1 (fun M3 q3 a3 b3 h3' => ?_)
        rw [b3.2.2.2.1 l (by omega), nI_add]
        refine ⟨h14.1, ?_⟩
        refine r_lesser (a := 999) (b := sz S l + m) (by omega) (by omega) ⟨h14.1, fun M8 h8' => ?_⟩
        have ev : (if sz S l + m ≤ 999 then sz S l + m else 999) = (if sz S l + m < 999 then sz S l + m else 999) := by split <;> split <;> omega
        rw [ev] at h8'
        have r8 : ∀ k j, ri M8 k j = if k = 68 ∧ j = 14 + l then nI (if sz S l + m < 999 then sz S l + m else 999) else ri M3 k j := by intro k j; rw [h8', ri_wi]
        have a8 : Ar M8 68 (gfS S l m) := by
          refine ⟨fun i hi => ?_, ?_, ?_, fun j hj => ?_, ?_, ?_⟩
          · have hi' : i < (sc S).length := hi
            rw [r8, if_neg (by omega)]; exact b3.1 i hi
          · rw [r8, if_neg (by omega)]; exact b3.2.1
          · rw [r8, if_neg (by omega)]; exact b3.2.2.1
          · rw [r8]
            show _ = nI (if j = l then (if sz S l + m < 999 then sz S l + m else 999) else sz S j)
            by_cases hjl : j = l
            · rw [if_pos ⟨rfl, by omega⟩, if_pos hjl]
            · rw [if_neg (by omega), if_neg hjl]; exact b3.2.2.2.1 j hj
          · rw [r8, if_neg (by omega)]; exact b3.2.2.2.2.1
          · rw [r8, if_neg (by omega)]; exact b3.2.2.2.2.2
        have := hK M8 ((q1.h.trans q3).trans (by rw [h8']; exact qh_w68)) a8 (h3'.keepC (hG.act hS) (by rw [r8, if_neg (by omega)]) (by rw [r8, if_neg (by omega)]) (fun j => by rw [r8, if_neg (by omega)]))
        rw [a8.2.2.2.1 l (by omega)]
        exact ⟨h14.1, this⟩
    · rw [if_pos (bI_eq (decide_eq_false h1))]
      exact h0 (fun q => h1 q.2.1) M1 q1
