/-! the pairs: acts -/
theorem GS_str {S : Sh} (h : GS S) (st : Nat) : GS (strS S st) := by
  have g1 : ∀ v, v < 1000 → GS (setD S v) := fun v hv => GS_Clo.2.2.2.2.2.1 S v h hv
  have hv : (sd S * 137 + 71) % 1000 < 1000 := Nat.mod_lt _ (by omega)
  unfold strS
  simp only
  generalize (sd S * 137 + 71) % 1000 = v at hv ⊢
  split
  · split
    · rename_i hf
      have hS := (g1 v hv).1
      have hmt := (fe_pos hf).1
      obtain ⟨i, j, hi, hj, ei, ej⟩ := mtI_in hS hmt
      have h8 := hS.1
      rename_i hc
      have hml : v % (sc S).length < (sc S).length := Nat.mod_lt _ hc.2
      have hmem : (sc S)[v % (sc S).length]?.getD 0 ∈ sc S := by rw [List.getElem?_eq_getElem hml]; exact List.getElem_mem _
      generalize (sc S)[v % (sc S).length]?.getD 0 = m at hmem hf hmt ei ej ⊢
      have hT := h.1.2.2.2.1 m hmem
      obtain ⟨t0, t1, t2, t3, t4, t5⟩ := T3_low m hT.1 hT.2
      have hi' := (nI_eq (by omega) (by omega)).mp ei
      have hj' := (nI_eq (by omega) (by omega)).mp ej
      rw [← hi'] at hi
      rw [← hj'] at hj
      exact GS_flip (g1 v hv) hi hj hf
    · exact g1 v hv
  · exact g1 v hv
theorem GK_sea {n st : Nat} {S : Sh} {F : List Int32} (h : GK n S) (h9 : sy S ≠ 999) : GK n (seaS S F st) := by
  obtain ⟨g, hn, k, hk, hsy⟩ := h
  have k9 : k ≠ 999 := fun q => h9 (by rw [hsy, q]; rfl)
  refine ⟨?_, by rw [sn_seaS]; exact hn, k + 1, by omega, by rw [sy_sea, hsy, nI_1]⟩
  have hz : GS (setZ S (szU S (gvS S F) (sn S))) := by
    refine GS_Clo.2.2.2.2.1 S _ g (szU_le g.1 _ _) (fun j ht => ?_)
    unfold szU
    split
    · have hz := g.1.2.2.2.2.2 j
      have : gvS S F j = 0 := by unfold gvS; rw [ht]; rfl
      rw [this, clS_same hz]
      exact nI_clamp (by omega)
    · rfl
  exact GS_Clo.2.2.2.2.2.2 _ _ (GS_str (GS_wls (n := sn S) (sn S) (setZ S (szU S (gvS S F) (sn S))) rfl (Nat.le_refl _) hz) st)
/-- what changes the shire, or nothing -/
theorem pr_h {μx μm : Mt} {as : List Value} (h : ∀ F st S S1 P R B, CP F st S S1 → GK (sn S) S → HG (sn S) P R → BG (sn S) B → (∃ r, (∀ (M : Mem) (t : Nat) (K : Int32 → Mem → Prop), CX M t F st S S1 → HX M S P R → BX M B → (∀ M', Q M M' → K r M') → CI 113 μx (.ref 0 :: as) M K) ∧ ∀ (M : Mem) (K : Int32 → Mem → Prop), CR M F st S S1 → HM M P R → BM M B → (∀ M', Q M M' → K r M') → CI 113 μm (.ref 58 :: as) M K) ∨ ∃ r S' P' R', GK (sn S) S' ∧ HG (sn S) P' R' ∧ (∀ (M : Mem) (t : Nat) (K : Int32 → Mem → Prop), CX M t F st S S1 → HX M S P R → BX M B → (∀ M', QH 0 M M' → Fr M' 27 S' → HX M' S' P' R' → K r M') → CI 113 μx (.ref 0 :: as) M K) ∧ ∀ (M : Mem) (K : Int32 → Mem → Prop), CR M F st S S1 → HM M P R → BM M B → (∀ M', QH 1 M M' → Ar M' 68 S' → HM M' P' R' → K r M') → CI 113 μm (.ref 58 :: as) M K) : PR μx μm as := by
  intro w hw
  obtain ⟨⟨F, st, un⟩, ⟨S, S1⟩, ⟨P, R⟩, B, ⟨c, W⟩, ⟨L, T⟩, Ly, ⟨tm, fc, fp⟩⟩ := w
  obtain ⟨p1, p2, p3, p4, p5, p6, p7, p8⟩ := id hw
  rcases h F st S S1 P R B p1 p2 p3 p4 with ⟨r, hx, hm⟩ | ⟨r, S', P', R', g, hg, hx, hm⟩
  · exact ⟨r, _, hw, fun M K hX hK => by
      obtain ⟨t, t', ht, h1, h2, h3, h4, h5, h6⟩ := id hX
      exact hx M t K h1 h4 h5 (fun M' q => hK M' q.fx (WX.q hw hX q)), fun M K hM hK => hm M K hM.1 hM.2.2.1 hM.2.2.2.1 (fun M' q => hK M' q.fz (WM.q hw hM q))⟩
  · have hn : sn S' = sn S := g.2.1
    refine ⟨r, ((F, st, un), (S', S1), (P', R'), B, (c, W), (L, T), Ly, (tm, fc, fp)), ⟨⟨g.1, p1.2.1, by rw [hn]; exact p1.2.2.1, p1.2.2.2⟩, by rw [hn]; exact g, by rw [hn]; exact hg, by rw [hn]; exact p4, p5, p6, p7, p8⟩, fun M K hX hK => ?_, fun M K hM hK => ?_⟩
    · obtain ⟨t, t', ht, h1, h2, h3, h4, h5, h6, h7, h8, h9, h10, h11, h12⟩ := hX
      refine hx M t K h1 h4 h5 (fun M' q f l => hK M' q.fx ?_)
      have e : ∀ k j, ((k < 2) ∨ (2 ≤ k ∧ k ≤ 10) ∨ (15 ≤ k ∧ k ≤ 23) ∨ k = 14 ∨ k = 41 ∨ (48 ≤ k ∧ k ≤ 54) ∨ k = 57) → ri M' k j = ri M k j := fun k j hk => q.1 k j (scr_ok k (by omega) (by omega)) (by omega) (by omega) (by omega) (by omega) (by omega) (by omega)
      exact ⟨t, t', ht, h1.keepH q f, by rw [e _ _ (by omega)]; exact h2, by rw [e _ _ (by omega)]; exact h3, l, h5.keepE p4.l (fun k j a => e k j (by omega)), h6.keepE (fun k j a => e k j (by omega)), h7.keepE (fun k j a => e k j (by omega)), h8.keepE (fun k j a => e k j (by omega)), h9.keepE (fun k j a => e k j (by omega)), by rw [e _ _ (by omega)]; exact h10, by rw [e _ _ (by omega)]; exact h11, by rw [e _ _ (by omega)]; exact h12⟩
    · obtain ⟨h1, h2, h3, h4, h5, h6, h7, h8, h9, h10⟩ := hM
      refine hm M K h1 h3 h4 (fun M' q f l => hK M' q.fz ?_)
      have e : ∀ k j, (k = 58 ∨ k = 59 ∨ k = 63 ∨ k = 64 ∨ k = 70 ∨ k = 73 ∨ (78 ≤ k ∧ k ≤ 82) ∨ k = 86 ∨ k = 87) → ¬ (k = 58 ∧ (j = 48 ∨ j = 49 ∨ j = 40 ∨ j = 41)) → ri M' k j = ri M k j := fun k j hk hj => q.1 k j (scr_ok2 k (by omega) (by omega)) (by omega) (by omega) (by omega) (by omega) (by omega) (by omega)
      exact ⟨h1.keepH q hn f, by rw [e _ _ (by omega) (by omega)]; exact h2, l, h4.keepE p4.l (fun k j a => e k j (by omega) (by omega)), h5.keepE (fun k j a => e k j (by omega) (by omega)), h6.keepE (fun k j a => e k j (by omega) (by omega)), h7.keepE (fun k j a => e k j (by omega) (by omega)), by rw [e _ _ (by omega) (by omega)]; exact h8, by rw [e _ _ (by omega) (by omega)]; exact h9, by rw [e _ _ (by omega) (by omega)]; exact h10⟩
theorem x_season9 {d n t : Nat} {M : Mem} {K : Int32 → Mem → Prop} {F : List Int32} {st : Nat} {S S1 : Sh} (hX : CX M t F st S S1) (hS : GK n S) (h9 : sy S = 999) (h0 : K (-1) M) : CI (d + 5) μX8_season [.ref 0] M K := by
  have hF := hX.2.2.2.2.2
  refine sg_X8_season_0 ?_
  rw [hF.1.2.2.1, h9, if_neg (by decide)]
  exact h0
theorem m_season9 {d n : Nat} {M : Mem} {K : Int32 → Mem → Prop} {F : List Int32} {st : Nat} {S S1 : Sh} (hR : CR M F st S S1) (hS : GK n S) (h9 : sy S = 999) (h0 : K (-1) M) : CI (d + 6) μX9_season [.ref 58] M K := by
  refine sg_X9_season_0 ?_
  rw [x_22, hR.1.2.2.2.2.1, if_pos h9]
  exact h0
section Acts
variable {x y : Int32}
theorem pr_season : PR μX8_season μX9_season [] := pr_h (fun F st S S1 P R B hP g hg hb => by
  by_cases h9 : sy S = 999
  · exact Or.inl ⟨-1, fun M t K hX hH _ hK => RI.deeper (by decide) (x_season9 (d := 0) hX g h9 (hK M Q.rf)), fun M K hR hH _ hK => RI.deeper (by decide) (m_season9 (d := 0) hR g h9 (hK M Q.rf))⟩
  · exact Or.inr ⟨aSeason S (seaS S F st), seaS S F st, (S :: P).take 40, [], GK_sea g h9, hg.act g, fun M t K hX hH _ hK => RI.deeper (by decide) (x_season (d := 0) hX hP.2.2.2.2 g hH hg (fun q => absurd q h9) (fun M' q f _ l => hK M' q f l)), fun M K hR hH _ hK => RI.deeper (by decide) (m_season (d := 0) hR hP.2.2.2.1 hP.2.2.2.2 g hH hg (fun q => absurd q h9) hK)⟩)
theorem pr_flip : PR μX8_flip μX9_flip [.int x, .int y] := pr_h (fun F st S S1 P R B hP g hg hb => by
  by_cases h0 : feI S x y = 0
  · exact Or.inl ⟨-1, fun M t K hX hH _ hK => RI.deeper (by decide) (x_flip (d := 0) hX.2.2.2.2.2 g hH hg (fun _ => hK M Q.rf) (fun q => absurd h0 q)), fun M K hR hH _ hK => RI.deeper (by decide) (m_flip (d := 0) hR g hH hg (fun _ => hK) (fun q => absurd h0 q))⟩
  · have gk : GK (sn S) (flipS S (nx x) (nx y)) := by
      obtain ⟨i, j, hi, hj, rfl, rfl, ef⟩ := feI_pos hP.1.1 h0
      have h8 := hP.1.1.1
      rw [show nx (nI i) = i from nI_clamp (by omega), show nx (nI j) = j from nI_clamp (by omega)]
      exact ⟨GS_flip hP.1 hi hj (by rw [← ef]; exact h0), g.2.1, g.2.2⟩
    exact Or.inr ⟨aFlip S x y, flipS S (nx x) (nx y), (S :: P).take 40, [], gk, hg.act g, fun M t K hX hH _ hK => RI.deeper (by decide) (x_flip (d := 0) hX.2.2.2.2.2 g hH hg (fun q => absurd q h0) (fun _ M' q f _ l => hK M' q f l)), fun M K hR hH _ hK => RI.deeper (by decide) (m_flip (d := 0) hR g hH hg (fun q => absurd q h0) (fun _ => hK))⟩)
theorem pr_pop : PR μX8_pop μX9_pop [.int x, .int y] := pr_h (fun F st S S1 P R B hP g hg hb => by
  cases h0 : cmI S x y with
  | false => exact Or.inl ⟨-1, fun M t K hX hH _ hK => RI.deeper (by decide) (x_pop (d := 0) hX.2.2.2.2.2 g hH hg (fun _ => hK M Q.rf) (fun q => by rw [h0] at q; cases q)), fun M K hR hH _ hK => RI.deeper (by decide) (m_pop (d := 0) hR g hH hg (fun _ => hK) (fun q => by rw [h0] at q; cases q))⟩
  | true =>
    have gk : GK (sn S) (mgS S (nx x) (nx y)) := by
      obtain ⟨i, j, hi, hj, rfl, rfl⟩ := mtI_rng hP.1.1 h0
      have h8 := hP.1.1.1
      rw [show nx (nI i) = i from nI_clamp (by omega), show nx (nI j) = j from nI_clamp (by omega)]
      exact ⟨GS_pop hP.1 hi hj h0, g.2.1, g.2.2⟩
    exact Or.inr ⟨nI (sz (mgS S (nx x) (nx y)) (nx x)), mgS S (nx x) (nx y), (S :: P).take 40, [], gk, hg.act g, fun M t K hX hH _ hK => RI.deeper (by decide) (x_pop (d := 0) hX.2.2.2.2.2 g hH hg (fun q => by rw [h0] at q; cases q) (fun _ M' q f _ l => hK M' q f l)), fun M K hR hH _ hK => RI.deeper (by decide) (m_pop (d := 0) hR g hH hg (fun q => by rw [h0] at q; cases q) (fun _ => hK))⟩)
theorem pr_gift : PR μX8_gift μX9_gift [.int x, .int y] := pr_h (fun F st S S1 P R B hP g hg hb => by
  by_cases h0 : gfC S x y
  · have gk : GK (sn S) (gfS S (nx x) (nx y)) := by
      obtain ⟨i, hi, hx, htb⟩ := thI_is hP.1.1 h0.1
      have h8 := hP.1.1.1
      rw [hx, show nx (nI i) = i from nI_clamp (by omega)]
      exact GK_gift g hi htb
    exact Or.inr ⟨nI (sz (gfS S (nx x) (nx y)) (nx x)), gfS S (nx x) (nx y), (S :: P).take 40, [], gk, hg.act g, fun M t K hX hH _ hK => RI.deeper (by decide) (x_gift (d := 0) hX.2.2.2.2.2 g hH hg (fun q => absurd h0 q) (fun _ M' q f _ l => hK M' q f l)), fun M K hR hH _ hK => RI.deeper (by decide) (m_gift (d := 0) hR g hH hg (fun q => absurd h0 q) (fun _ => hK))⟩
  · exact Or.inl ⟨-1, fun M t K hX hH _ hK => RI.deeper (by decide) (x_gift (d := 0) hX.2.2.2.2.2 g hH hg (fun _ => hK M Q.rf) (fun q => absurd q h0)), fun M K hR hH _ hK => RI.deeper (by decide) (m_gift (d := 0) hR g hH hg (fun _ => hK) (fun q => absurd q h0))⟩)
theorem pr_undo : PR μX8_undo μX9_undo [] := pr_h (fun F st S S1 P R B hP g hg hb => by
  cases P with
  | nil => exact Or.inl ⟨0, fun M t K hX hH _ hK => RI.deeper (by decide) (x_undo (d := 0) (n := sn S) hX.2.2.2.2.2 rfl hH hg (fun _ => hK M Q.rf) (fun _ _ q => by cases q)), fun M K hR hH _ hK => RI.deeper (by decide) (m_undo (d := 0) (n := sn S) hP.1.1 hg hR.1 hH (fun _ => hK M Q.rf) (fun _ _ q => by cases q))⟩
  | cons T P' =>
    refine Or.inr ⟨1, T, P', S :: R, hg.2 T (Or.inl List.mem_cons_self), ⟨?_, fun U hU => ?_⟩, fun M t K hX hH _ hK => RI.deeper (by decide) (x_undo (d := 0) (n := sn S) hX.2.2.2.2.2 rfl hH hg (fun q => by cases q) (fun T2 P2 e => by cases e; exact hK)), fun M K hR hH _ hK => RI.deeper (by decide) (m_undo (d := 0) (n := sn S) hP.1.1 hg hR.1 hH (fun q => by cases q) (fun T2 P2 e => by cases e; exact hK))⟩
    · have := hg.1; simp only [List.length_cons] at this ⊢; omega
    · rcases hU with hU | hU
      · exact hg.2 U (Or.inl (List.mem_cons_of_mem _ hU))
      · rcases List.mem_cons.mp hU with rfl | hU
        · exact g
        · exact hg.2 U (Or.inr hU))
theorem pr_redo : PR μX8_redo μX9_redo [] := pr_h (fun F st S S1 P R B hP g hg hb => by
  cases R with
  | nil => exact Or.inl ⟨0, fun M t K hX hH _ hK => RI.deeper (by decide) (x_redo (d := 0) (n := sn S) hX.2.2.2.2.2 rfl hH hg (fun _ => hK M Q.rf) (fun _ _ q => by cases q)), fun M K hR hH _ hK => RI.deeper (by decide) (m_redo (d := 0) (n := sn S) hP.1.1 hg hR.1 hH (fun _ => hK M Q.rf) (fun _ _ q => by cases q))⟩
  | cons T R' =>
    refine Or.inr ⟨1, T, S :: P, R', hg.2 T (Or.inr List.mem_cons_self), ⟨?_, fun U hU => ?_⟩, fun M t K hX hH _ hK => RI.deeper (by decide) (x_redo (d := 0) (n := sn S) hX.2.2.2.2.2 rfl hH hg (fun q => by cases q) (fun T2 P2 e => by cases e; exact hK)), fun M K hR hH _ hK => RI.deeper (by decide) (m_redo (d := 0) (n := sn S) hP.1.1 hg hR.1 hH (fun q => by cases q) (fun T2 P2 e => by cases e; exact hK))⟩
    · have := hg.1; simp only [List.length_cons] at this ⊢; omega
    · rcases hU with hU | hU
      · rcases List.mem_cons.mp hU with rfl | hU
        · exact g
        · exact hg.2 U (Or.inl hU)
      · exact hg.2 U (Or.inr (List.mem_cons_of_mem _ hU)))
theorem pr_back : PR μX8_back μX9_back [.int x] := pr_h (fun F st S S1 P R B hP g hg hb => by
  by_cases h0 : (0 ≤ x ∧ x < 3) ∧ (B (nx x)).isSome = true
  · obtain ⟨T, hT⟩ := Option.isSome_iff_exists.mp h0.2
    exact Or.inr ⟨sy T, T, [], [], hb _ T hT, ⟨by decide, fun U hU => by rcases hU with hU | hU <;> cases hU⟩, fun M t K hX hH hB hK => RI.deeper (by decide) (x_back (d := 0) (n := sn S) hX.2.2.2.2.2 rfl hB hb (fun q => absurd h0 q) (fun T2 _ e => by rw [hT] at e; cases e; exact hK)), fun M K hR hH hB hK => RI.deeper (by decide) (m_back (d := 0) (n := sn S) hB hb (fun q => absurd h0 q) (fun T2 _ e => by rw [hT] at e; cases e; exact hK))⟩
  · exact Or.inl ⟨-1, fun M t K hX hH hB hK => RI.deeper (by decide) (x_back (d := 0) (n := sn S) hX.2.2.2.2.2 rfl hB hb (fun _ => hK M Q.rf) (fun T2 a e => absurd ⟨a, by rw [e]; rfl⟩ h0)), fun M K hR hH hB hK => RI.deeper (by decide) (m_back (d := 0) (n := sn S) hB hb (fun _ => hK M Q.rf) (fun T2 a e => absurd ⟨a, by rw [e]; rfl⟩ h0))⟩)
end Acts
