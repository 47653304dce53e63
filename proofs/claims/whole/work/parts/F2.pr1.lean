/-! the pairs: questions -/
section Ask
variable {x y z : Int32}
theorem pr_lord : PR μX8_lord μX9_lord [.int x, .int y] := pr_q (fun F st S S1 hP => ⟨aLord S F x y, fun M t K hX hK => RI.deeper (by decide) (x_lord (d := 0) hX hK), fun M K hR hK => RI.deeper (by decide) (m_lord (d := 0) hR hP hK)⟩)
theorem pr_corner : PR μX8_corner μX9_corner [.int x, .int y] := pr_q (fun F st S S1 hP => ⟨aCorner S x y, fun M t K hX hK => RI.deeper (by decide) (x_corner (d := 0) hX.2.2.2.2.2 (hK M Q.rf)), fun M K hR hK => RI.deeper (by decide) (m_corner (d := 0) hR hP.1.1 (hK M Q.rf))⟩)
theorem pr_wall : PR μX8_wall μX9_wall [.int x, .int y] := pr_q (fun F st S S1 hP => ⟨aWall S x y, fun M t K hX hK => RI.deeper (by decide) (x_wall (d := 0) hX.2.2.2.2.2 (hK M Q.rf)), fun M K hR hK => RI.deeper (by decide) (m_wall (d := 0) hR hP hK)⟩)
theorem pr_thirds : PR μX8_thirds μX9_thirds [] := pr_q (fun F st S S1 hP => ⟨aThirds S, fun M t K hX hK => RI.deeper (by decide) (x_thirds (d := 0) hX.2.2.2.2.2 (hK M Q.rf)), fun M K hR hK => RI.deeper (by decide) (m_thirds (d := 0) hR hP hK)⟩)
theorem pr_sleepers : PR μX8_sleepers μX9_sleepers [] := pr_q (fun F st S S1 hP => ⟨aSleep S F, fun M t K hX hK => RI.deeper (by decide) (x_sleepers (d := 0) hX hK), fun M K hR hK => RI.deeper (by decide) (m_sleepers (d := 0) hR hP hK)⟩)
theorem pr_king : PR μX8_king μX9_king [] := pr_q (fun F st S S1 hP => ⟨oI (kgF S (sn S)), fun M t K hX hK => RI.deeper (by decide) (x_king (d := 0) hX.2.2.2.2.2 (hK M Q.rf)), fun M K hR hK => RI.deeper (by decide) (m_king (d := 0) hR hP hK)⟩)
theorem pr_restless : PR μX8_restless μX9_restless [] := pr_q (fun F st S S1 hP => ⟨aRest S, fun M t K hX hK => RI.deeper (by decide) (x_restless (d := 0) hX.2.2.2.2.2 (hK M Q.rf)), fun M K hR hK => RI.deeper (by decide) (m_restless (d := 0) hR hP hK)⟩)
theorem pr_brides : PR μX8_brides μX9_brides [] := pr_q (fun F st S S1 hP => ⟨aBrid S, fun M t K hX hK => RI.deeper (by decide) (x_brides (d := 0) hX.2.2.2.2.2 (hK M Q.rf)), fun M K hR hK => RI.deeper (by decide) (m_brides (d := 0) hR hP hK)⟩)
theorem pr_acres : PR μX8_acres μX9_acres [] := pr_q (fun F st S S1 hP => ⟨nI (szF S (sb S) 8), fun M t K hX hK => RI.deeper (by decide) (x_acres (d := 0) hX.2.2.2.2.2 hP.1 (hK M Q.rf)), fun M K hR hK => RI.deeper (by decide) (m_acres (d := 0) hR hP hK)⟩)
theorem pr_law : PR μX8_law μX9_law [.int x] := pr_q (fun F st S S1 hP => ⟨aLaw S F x, fun M t K hX hK => RI.deeper (by decide) (x_law (d := 0) hX hK), fun M K hR hK => RI.deeper (by decide) (m_law (d := 0) hR hP hK)⟩)
theorem pr_aunts : PR μX8_aunts μX9_aunts [.int x, .int y] := pr_q (fun F st S S1 hP => ⟨aAunts S x y, fun M t K hX hK => RI.deeper (by decide) (x_aunts (d := 0) hX.2.2.2.2.2 (hK M Q.rf)), fun M K hR hK => RI.deeper (by decide) (m_aunts (d := 0) hR hP hK)⟩)
theorem pr_will : PR μX8_will μX9_will [.int x, .int y, .int z] := pr_q (fun F st S S1 hP => ⟨aWill F st S x y z, fun M t K hX hK => RI.deeper (by decide) (x_will (d := 0) hX hP hK), fun M K hR hK => RI.deeper (by decide) (m_will (d := 0) hR hP hK)⟩)
theorem pr_sides : PR μX8_sides μX9_sides [.int x, .int y] := pr_q (fun F st S S1 hP => ⟨aSides F st S x y, fun M t K hX hK => RI.deeper (by decide) (x_sides (d := 0) hX hP hK), fun M K hR hK => RI.deeper (by decide) (m_sides (d := 0) hR hP hK)⟩)
theorem pr_left : PR μX8_left μX9_left [.int x] := pr_q (fun F st S S1 hP => ⟨aLeft F st S x, fun M t K hX hK => RI.deeper (by decide) (x_left (d := 0) hX hP hK), fun M K hR hK => RI.deeper (by decide) (m_left (d := 0) hR hP hK)⟩)
theorem pr_ending : PR μX8_ending μX9_ending [.int x] := pr_q (fun F st S S1 hP => ⟨aEnding F S x, fun M t K hX hK => RI.deeper (by decide) (x_ending (d := 0) hX hP hK), fun M K hR hK => RI.deeper (by decide) (m_ending (d := 0) hR hP hK)⟩)
theorem pr_save : PR μX8_save μX9_save [.int x, .int y] := pr_q (fun F st S S1 hP => ⟨aSave F st S x y, fun M t K hX hK => RI.deeper (by decide) (x_save (d := 0) hX hP hK), fun M K hR hK => RI.deeper (by decide) (m_save (d := 0) hR hP hK)⟩)
theorem pr_boost : PR μX8_boost μX9_boost [.int x, .int y, .int z] := pr_q (fun F st S S1 hP => ⟨aBoost F st S x y z, fun M t K hX hK => RI.deeper (by decide) (x_boost (d := 0) hX hP hK), fun M K hR hK => RI.deeper (by decide) (m_boost (d := 0) hR hP hK)⟩)
theorem pr_odds : PR μX8_odds μX9_odds [.int x, .int y] := pr_q (fun F st S S1 hP => ⟨aOdds st x y, fun M t K hX hK => RI.deeper (by decide) (x_odds (d := 0) hX hP.2.2.2.2 (hK M Q.rf)), fun M K hR hK => RI.deeper (by decide) (m_odds (d := 0) hR hP.2.2.2.2 (hK M Q.rf))⟩)
theorem pr_far : PR μX8_far μX9_far [.int x, .int y] := pr_q (fun F st S S1 hP => ⟨aFar S x y, fun M t K hX hK => RI.deeper (by decide) (x_far (d := 0) hX.2.2.2.2.2 (hK M Q.rf)), fun M K hR hK => RI.deeper (by decide) (m_far (d := 0) hR hP hK)⟩)
theorem pr_hermits : PR μX8_hermits μX9_hermits [.int x] := pr_q (fun F st S S1 hP => ⟨aHerm S x, fun M t K hX hK => RI.deeper (by decide) (x_hermits (d := 0) hX.2.2.2.2.2 (hK M Q.rf)), fun M K hR hK => RI.deeper (by decide) (m_hermits (d := 0) hR hP hK)⟩)
theorem pr_cut : PR μX8_cut μX9_cut [.int x, .int y, .int z] := pr_q (fun F st S S1 hP => ⟨aCut S x y z, fun M t K hX hK => RI.deeper (by decide) (x_cut (d := 0) hX.2.2.2.2.2 (hK M Q.rf)), fun M K hR hK => RI.deeper (by decide) (m_cut (d := 0) hR hP hK)⟩)
end Ask
/-- what lays itself out -/
theorem pr_l {μx μm : Mt} {as : List Value} (h : ∀ F st S S1, CP F st S S1 → ∃ r Ly, Ly.length ≤ 8 ∧ (∀ (M : Mem) (t : Nat) (K : Int32 → Mem → Prop), CX M t F st S S1 → (∀ M', QL 0 M M' → LyX M' Ly → K r M') → CI 113 μx (.ref 0 :: as) M K) ∧ ∀ (M : Mem) (K : Int32 → Mem → Prop), CR M F st S S1 → (∀ M', QL 1 M M' → LyM M' Ly → K r M') → CI 113 μm (.ref 58 :: as) M K) : PR μx μm as := by
  intro w hw
  obtain ⟨⟨F, st, un⟩, ⟨S, S1⟩, ⟨P, R⟩, B, ⟨c, W⟩, ⟨L, T⟩, Ly0, ⟨tm, fc, fp⟩⟩ := w
  obtain ⟨p1, p2, p3, p4, p5, p6, p7, p8⟩ := hw
  obtain ⟨r, Ly, hl, hx, hm⟩ := h F st S S1 p1
  refine ⟨r, ((F, st, un), (S, S1), (P, R), B, (c, W), (L, T), Ly, (tm, fc, fp)), ⟨p1, p2, p3, p4, p5, p6, p7, hl⟩, fun M K hX hK => ?_, fun M K hM hK => ?_⟩
  · obtain ⟨t, t', ht, h1, h2, h3, h4, h5, h6, h7, h8, h9, h10, h11, h12⟩ := hX
    refine hx M t K h1 (fun M' q l => hK M' q.fx ?_)
    have e : ∀ k j, ((k < 2) ∨ (2 ≤ k ∧ k ≤ 10) ∨ (15 ≤ k ∧ k ≤ 23) ∨ (27 ≤ k ∧ k ≤ 31) ∨ k = 14 ∨ (39 ≤ k ∧ k ≤ 41) ∨ (48 ≤ k ∧ k ≤ 54)) → ¬ (k = 0 ∧ j = 12) → ri M' k j = ri M k j := fun k j hk hj => q.1 k j (scr_ok k (by omega) (by omega)) (by omega) (by omega) (by omega) (by omega)
    exact ⟨t, t', ht, h1.keepE (fun k j a => e k j (by omega) (by omega)), by rw [e _ _ (by omega) (by omega)]; exact h2, by rw [e _ _ (by omega) (by omega)]; exact h3, h4.keepC p3 p1.1.1 (fun j => e _ _ (by omega) (by omega)) (fun j => e _ _ (by omega) (by omega)), h5.keepE p4.l (fun k j a => e k j (by omega) (by omega)), h6.keepE (fun k j a => e k j (by omega) (by omega)), h7.keepE (fun k j a => e k j (by omega) (by omega)), h8.keepE (fun k j a => e k j (by omega) (by omega)), l, by rw [e _ _ (by omega) (by omega)]; exact h10, by rw [e _ _ (by omega) (by omega)]; exact h11, by rw [e _ _ (by omega) (by omega)]; exact h12⟩
  · obtain ⟨h1, h2, h3, h4, h5, h6, h7, h8, h9, h10⟩ := hM
    refine hm M K h1 (fun M' q l => hK M' q.fz ?_)
    have e : ∀ k j, (k = 58 ∨ k = 59 ∨ k = 63 ∨ k = 64 ∨ k = 68 ∨ k = 70 ∨ k = 72 ∨ (78 ≤ k ∧ k ≤ 82) ∨ k = 86 ∨ k = 87) → ¬ (k = 58 ∧ (j = 48 ∨ j = 49 ∨ j = 45)) → ri M' k j = ri M k j := fun k j hk hj => q.1 k j (scr_ok2 k (by omega) (by omega)) (by omega) (by omega) (by omega) (by omega)
    exact ⟨h1.keepE (fun k j a => e k j (by omega) (by omega)), by rw [e _ _ (by omega) (by omega)]; exact h2, h3.keepC p3 (e _ _ (by omega) (by omega)) (e _ _ (by omega) (by omega)) (fun j => e _ _ (by omega) (by omega)), h4.keepE p4.l (fun k j a => e k j (by omega) (by omega)), h5.keepE (fun k j a => e k j (by omega) (by omega)), h6.keepE (fun k j a => e k j (by omega) (by omega)), l, by rw [e _ _ (by omega) (by omega)]; exact h8, by rw [e _ _ (by omega) (by omega)]; exact h9, by rw [e _ _ (by omega) (by omega)]; exact h10⟩
section Lay
variable {x y : Int32}
theorem pr_ring : PR μX8_ring μX9_ring [.int x] := pr_l (fun F st S S1 hP => by
  cases hx : thI S x with
  | false => exact ⟨-1, [], by decide, fun M t K hX hK => RI.deeper (by decide) (x_ring (d := 0) hX.2.2.2.2.2 (fun _ => hK) (fun q => by rw [hx] at q; cases q)), fun M K hR hK => RI.deeper (by decide) (m_ring (d := 0) hR hP (fun _ => hK) (fun q => by rw [hx] at q; cases q))⟩
  | true => exact ⟨nI (rgS S (nx x)).length, rgS S (nx x), rgF_len S _ _ _ _, fun M t K hX hK => RI.deeper (by decide) (x_ring (d := 0) hX.2.2.2.2.2 (fun q => by rw [hx] at q; cases q) (fun _ => hK)), fun M K hR hK => RI.deeper (by decide) (m_ring (d := 0) hR hP (fun q => by rw [hx] at q; cases q) (fun _ => hK))⟩)
theorem pr_pricks : PR μX8_pricks μX9_pricks [.int x, .int y] := pr_l (fun F st S S1 hP => by
  cases hx : twI S x y with
  | false => exact ⟨-1, [], by decide, fun M t K hX hK => RI.deeper (by decide) (x_pricks (d := 0) hX.2.2.2.2.2 hP.1 (fun _ => hK) (fun q => by rw [hx] at q; cases q)), fun M K hR hK => RI.deeper (by decide) (m_pricks (d := 0) hR hP (fun _ => hK) (fun q => by rw [hx] at q; cases q))⟩
  | true => exact ⟨nI (dlR S (nx x) (nx y)).1, dlL (dlR S (nx x) (nx y)), by unfold dlL; split <;> simp, fun M t K hX hK => RI.deeper (by decide) (x_pricks (d := 0) hX.2.2.2.2.2 hP.1 (fun q => by rw [hx] at q; cases q) (fun _ => hK)), fun M K hR hK => RI.deeper (by decide) (m_pricks (d := 0) hR hP (fun q => by rw [hx] at q; cases q) (fun _ => hK))⟩)
theorem pr_peace : PR μX8_peace μX9_peace [] := pr_l (fun F st S S1 hP => ⟨(pcB S).1, pcL S, by unfold pcL; rw [List.length_map, List.length_range]; exact hP.1.1.1, fun M t K hX hK => RI.deeper (by decide) (x_peace (d := 0) hX.2.2.2.2.2 hK), fun M K hR hK => RI.deeper (by decide) (m_peace (d := 0) hR hP.1.1 hK)⟩)
theorem pr_banners : PR μX8_banners μX9_banners [] := pr_l (fun F st S S1 hP => by
  have hcol : ∀ m x, (colL S m x).length ≤ 8 := fun m x => by unfold colL; rw [List.length_map, List.length_range]; exact hP.1.1.1
  by_cases h1 : 1 ≤ pc8 (sb S)
  · obtain ⟨m, x, m1, m7, mp, hx, hl⟩ := bn_ex hP.1 h1
    exact ⟨nI m, colL S m x, hcol m x, fun M t K hX hK => RI.deeper (by decide) (x_banners (d := 0) hX.2.2.2.2.2 m7 hx hl hK), fun M K hR hK => RI.deeper (by decide) (m_banners (d := 0) hR hP (fun _ => ⟨m1, mp⟩) (fun q => absurd q (by omega)) hx hl hK)⟩
  · have hn : sn S = 0 := by rcases hP.1.2.2.2.2.2.1.2 with q | q; exact q; exact absurd q h1
    have hx : fd S 0 (sn S) 0 = some 0 := by rw [hn]; rfl
    exact ⟨nI 0, colL S 0 0, hcol 0 0, fun M t K hX hK => RI.deeper (by decide) (x_banners (d := 0) hX.2.2.2.2.2 (by decide) hx (fun c hc => absurd hc (Nat.not_lt_zero _)) hK), fun M K hR hK => RI.deeper (by decide) (m_banners (d := 0) hR hP (fun q => absurd q h1) (fun _ => ⟨rfl, hn⟩) hx (fun c hc => absurd hc (Nat.not_lt_zero _)) hK)⟩)
theorem pr_lies : PR μX8_lies μX9_lies [.int x] := by
  intro w hw
  obtain ⟨⟨F, st, un⟩, ⟨S, S1⟩, ⟨P, R⟩, B, ⟨c, W⟩, ⟨L, T⟩, Ly, ⟨tm, fc, fp⟩⟩ := w
  have h8 := hw.2.2.2.2.2.2.2
  exact ⟨_, _, hw, fun M K hX hK => RI.deeper (by decide) (x_lies (d := 0) h8 (by obtain ⟨t, t', ht, h1, h2, h3, h4, h5, h6, h7, h8, h9, h10⟩ := hX; exact h9) (hK M FX.rf hX)), fun M K hM hK => RI.deeper (by decide) (m_lies (d := 0) h8 hM.2.2.2.2.2.2.1 (hK M FZ.rf hM))⟩
end Lay
