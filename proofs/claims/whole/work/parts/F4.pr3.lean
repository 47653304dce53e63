/-! the pairs: memory, text, boxes -/
section Mem4
variable {x y : Int32}
theorem pr_seen {b : Bool} : PR μX8_seen μX9_seen [.int x, .int y, .int (bI b)] := by
  intro w hw
  obtain ⟨⟨F, st, un⟩, ⟨S, S1⟩, ⟨P, R⟩, B, ⟨c, W⟩, ⟨L, T⟩, Ly, ⟨tm, fc, fp⟩⟩ := w
  obtain ⟨p1, p2, p3, p4, p5, p6, p7, p8⟩ := id hw
  by_cases h0 : seC S1 c x y
  · have wok : WOk (c + 1) (addW W c (nx x, nx y, b, tm, -1)) := by
      obtain ⟨⟨a1, a2⟩, ⟨a3, a4⟩, a5, a6⟩ := id h0
      have c30 := p6.1
      refine ⟨by omega, fun i hi => ?_⟩
      unfold addW
      by_cases hi' : i = c
      · rw [if_pos hi']
        obtain ⟨n, hn, rfl⟩ := le_nat a1 (show x ≤ nI 12 from a2) (by omega)
        obtain ⟨m, hm, rfl⟩ := le_nat a3 (show y ≤ nI 8 from a4) (by omega)
        exact ⟨by show nx (nI n) < 13; rw [show nx (nI n) = n from nI_clamp (by omega)]; omega, by show nx (nI m) < 9; rw [show nx (nI m) = m from nI_clamp (by omega)]; omega, Or.inl rfl⟩
      · rw [if_neg hi']; exact p6.2 i (by omega)
    refine ⟨nI c, ((F, st, un), (S, S1), (P, R), B, (c + 1, addW W c (nx x, nx y, b, tm, -1)), (L, T), Ly, (tm, fc, fp)), ⟨p1, p2, p3, p4, p5, wok, p7, p8⟩, fun M K hX hK => ?_, fun M K hM hK => ?_⟩
    · obtain ⟨t, t', ht, h1, h2, h3, h4, h5, h6, h7, h8, h9, h10, h11, h12⟩ := hX
      refine RI.deeper (by decide) (x_seen (d := 0) (b := b) h1 p1.2.1.1 p6 h6 h10 (fun q => absurd h0 q) (fun _ M' q m => hK M' q.fx ?_))
      have e : ∀ k j, ¬ (49 ≤ k ∧ k ≤ 53) → ¬ (k = 48 ∧ j = 0) → ri M' k j = ri M k j := fun k j a b => q.1 k j (by omega) (by omega) (by omega) (by omega)
      exact ⟨t, t', ht, h1.keepE (fun k j a => e k j (by omega) (by omega)), by rw [e _ _ (by omega) (by omega)]; exact h2, by rw [e _ _ (by omega) (by omega)]; exact h3, h4.keepC p3 p1.1.1 (fun j => e _ _ (by omega) (by omega)) (fun j => e _ _ (by omega) (by omega)), h5.keepE p4.l (fun k j a => e k j (by omega) (by omega)), m, h7.keepE (fun k j a => e k j (by omega) (by omega)), h8.keepE (fun k j a => e k j (by omega) (by omega)), h9.keepE (fun k j a => e k j (by omega) (by omega)), by rw [e _ _ (by omega) (by omega)]; exact h10, by rw [e _ _ (by omega) (by omega)]; exact h11, by rw [e _ _ (by omega) (by omega)]; exact h12⟩
    · obtain ⟨h1, h2, h3, h4, h5, h6, h7, h8, h9, h10⟩ := hM
      refine RI.deeper (by decide) (m_seen (d := 0) (b := b) h1 p1.1.1 p1.2.2.1 p6 h5 h8 (fun q => absurd h0 q) (fun _ M' q m => hK M' q.fz ?_))
      have e : ∀ k j, ¬ (78 ≤ k ∧ k ≤ 82) → ¬ (k = 58 ∧ j = 55) → ri M' k j = ri M k j := fun k j a b => q.1 k j (by omega) (by omega) (by omega) (by omega)
      exact ⟨h1.keepE (fun k j a => e k j (by omega) (by omega)), by rw [e _ _ (by omega) (by omega)]; exact h2, h3.keepC p3 (e _ _ (by omega) (by omega)) (e _ _ (by omega) (by omega)) (fun j => e _ _ (by omega) (by omega)), h4.keepE p4.l (fun k j a => e k j (by omega) (by omega)), m, h6.keepE (fun k j a => e k j (by omega) (by omega)), h7.keepE (fun k j a => e k j (by omega) (by omega)), by rw [e _ _ (by omega) (by omega)]; exact h8, by rw [e _ _ (by omega) (by omega)]; exact h9, by rw [e _ _ (by omega) (by omega)]; exact h10⟩
  · refine ⟨-1, _, hw, fun M K hX hK => ?_, fun M K hM hK => ?_⟩
    · obtain ⟨t, t', ht, h1, h2, h3, h4, h5, h6, h7, h8, h9, h10, h11, h12⟩ := id hX
      exact RI.deeper (by decide) (x_seen (d := 0) (b := b) h1 p1.2.1.1 p6 h6 h10 (fun _ => hK M FX.rf hX) (fun q => absurd q h0))
    · obtain ⟨h1, h2, h3, h4, h5, h6, h7, h8, h9, h10⟩ := id hM
      exact RI.deeper (by decide) (m_seen (d := 0) (b := b) h1 p1.1.1 p1.2.2.1 p6 h5 h8 (fun _ => hK M FZ.rf hM) (fun q => absurd q h0))
theorem pr_untell : PR μX8_untell μX9_untell [.int x] := by
  intro w hw
  obtain ⟨⟨F, st, un⟩, ⟨S, S1⟩, ⟨P, R⟩, B, ⟨c, W⟩, ⟨L, T⟩, Ly, ⟨tm, fc, fp⟩⟩ := w
  obtain ⟨p1, p2, p3, p4, p5, p6, p7, p8⟩ := id hw
  by_cases h0 : utC c W x
  · have wok : WOk c (unW W (nx x) tm) := by
      refine ⟨p6.1, fun i hi => ?_⟩
      obtain ⟨n, hn, htm⟩ := p7.2
      obtain ⟨a, b, e⟩ := p6.2 i hi
      unfold unW
      split
      · exact ⟨a, b, Or.inr (by show 0 ≤ tm; rw [htm]; exact nI_pos' (by omega))⟩
      · exact ⟨a, b, e⟩
    refine ⟨1, ((F, st, un), (S, S1), (P, R), B, (c, unW W (nx x) tm), (L, T), Ly, (tm, fc, fp)), ⟨p1, p2, p3, p4, p5, wok, p7, p8⟩, fun M K hX hK => ?_, fun M K hM hK => ?_⟩
    · obtain ⟨t, t', ht, h1, h2, h3, h4, h5, h6, h7, h8, h9, h10, h11, h12⟩ := hX
      refine RI.deeper (by decide) (x_untell (d := 0) p6 h6 h10 (fun q => absurd h0 q) (fun _ M' q m => hK M' q.fx ?_))
      have e : ∀ k j, ¬ (49 ≤ k ∧ k ≤ 53) → ¬ (k = 48 ∧ j = 0) → ri M' k j = ri M k j := fun k j a b => q.1 k j (by omega) (by omega) (by omega) (by omega)
      exact ⟨t, t', ht, h1.keepE (fun k j a => e k j (by omega) (by omega)), by rw [e _ _ (by omega) (by omega)]; exact h2, by rw [e _ _ (by omega) (by omega)]; exact h3, h4.keepC p3 p1.1.1 (fun j => e _ _ (by omega) (by omega)) (fun j => e _ _ (by omega) (by omega)), h5.keepE p4.l (fun k j a => e k j (by omega) (by omega)), m, h7.keepE (fun k j a => e k j (by omega) (by omega)), h8.keepE (fun k j a => e k j (by omega) (by omega)), h9.keepE (fun k j a => e k j (by omega) (by omega)), by rw [e _ _ (by omega) (by omega)]; exact h10, by rw [e _ _ (by omega) (by omega)]; exact h11, by rw [e _ _ (by omega) (by omega)]; exact h12⟩
    · obtain ⟨h1, h2, h3, h4, h5, h6, h7, h8, h9, h10⟩ := hM
      refine RI.deeper (by decide) (m_untell (d := 0) p6 h5 h8 (fun q => absurd h0 q) (fun _ M' q m => hK M' q.fz ?_))
      have e : ∀ k j, ¬ (78 ≤ k ∧ k ≤ 82) → ¬ (k = 58 ∧ j = 55) → ri M' k j = ri M k j := fun k j a b => q.1 k j (by omega) (by omega) (by omega) (by omega)
      exact ⟨h1.keepE (fun k j a => e k j (by omega) (by omega)), by rw [e _ _ (by omega) (by omega)]; exact h2, h3.keepC p3 (e _ _ (by omega) (by omega)) (e _ _ (by omega) (by omega)) (fun j => e _ _ (by omega) (by omega)), h4.keepE p4.l (fun k j a => e k j (by omega) (by omega)), m, h6.keepE (fun k j a => e k j (by omega) (by omega)), h7.keepE (fun k j a => e k j (by omega) (by omega)), by rw [e _ _ (by omega) (by omega)]; exact h8, by rw [e _ _ (by omega) (by omega)]; exact h9, by rw [e _ _ (by omega) (by omega)]; exact h10⟩
  · refine ⟨0, _, hw, fun M K hX hK => ?_, fun M K hM hK => ?_⟩
    · obtain ⟨t, t', ht, h1, h2, h3, h4, h5, h6, h7, h8, h9, h10, h11, h12⟩ := id hX
      exact RI.deeper (by decide) (x_untell (d := 0) p6 h6 h10 (fun _ => hK M FX.rf hX) (fun q => absurd q h0))
    · obtain ⟨h1, h2, h3, h4, h5, h6, h7, h8, h9, h10⟩ := id hM
      exact RI.deeper (by decide) (m_untell (d := 0) p6 h5 h8 (fun _ => hK M FZ.rf hM) (fun q => absurd q h0))
theorem pr_later : PR μX8_later μX9_later [.int x] := by
  intro w hw
  obtain ⟨⟨F, st, un⟩, ⟨S, S1⟩, ⟨P, R⟩, B, ⟨c, W⟩, ⟨L, T⟩, Ly, ⟨tm, fc, fp⟩⟩ := w
  obtain ⟨p1, p2, p3, p4, p5, p6, p7, p8⟩ := id hw
  by_cases h0 : 0 ≤ x ∧ x ≤ 1000 ∧ tm + x ≤ 100000
  · have tok : ∃ n, n ≤ 100000 ∧ tm + x = nI n := by
      obtain ⟨n, hn, htm⟩ := p7.2
      obtain ⟨a, b, e⟩ := id h0
      obtain ⟨m, hm, rfl⟩ := le_nat a (show x ≤ nI 1000 from b) (by omega)
      rw [htm, nI_add] at e ⊢
      rw [show (100000 : Int32) = nI 100000 from rfl, nI_leI (by omega) (by omega)] at e
      exact ⟨n + m, e, rfl⟩
    refine ⟨tm + x, ((F, st, un), (S, S1), (P, R), B, (c, W), (L, T), Ly, (tm + x, fc, fp)), ⟨p1, p2, p3, p4, p5, p6, ⟨p7.1, tok⟩, p8⟩, fun M K hX hK => ?_, fun M K hM hK => ?_⟩
    · obtain ⟨t, t', ht, h1, h2, h3, h4, h5, h6, h7, h8, h9, h10, h11, h12⟩ := hX
      refine RI.deeper (by decide) (x_later (d := 0) h10 (fun q => absurd h0 q) (fun _ M' q m => hK M' q.fx ?_))
      have e : ∀ k j, ¬ (k = 0 ∧ j = 10) → ri M' k j = ri M k j := fun k j a => q.1 k j (by omega) (by omega)
      exact ⟨t, t', ht, h1.keepE (fun k j a => e k j (by omega)), by rw [e _ _ (by omega)]; exact h2, by rw [e _ _ (by omega)]; exact h3, h4.keepC p3 p1.1.1 (fun j => e _ _ (by omega)) (fun j => e _ _ (by omega)), h5.keepE p4.l (fun k j a => e k j (by omega)), h6.keepE (fun k j a => e k j (by omega)), h7.keepE (fun k j a => e k j (by omega)), h8.keepE (fun k j a => e k j (by omega)), h9.keepE (fun k j a => e k j (by omega)), m, by rw [e _ _ (by omega)]; exact h11, by rw [e _ _ (by omega)]; exact h12⟩
    · obtain ⟨h1, h2, h3, h4, h5, h6, h7, h8, h9, h10⟩ := hM
      refine RI.deeper (by decide) (m_later (d := 0) h8 (fun q => absurd h0 q) (fun _ M' q m => hK M' q.fz ?_))
      have e : ∀ k j, ¬ (k = 58 ∧ j = 56) → ri M' k j = ri M k j := fun k j a => q.1 k j (by omega) (by omega)
      exact ⟨h1.keepE (fun k j a => e k j (by omega)), by rw [e _ _ (by omega)]; exact h2, h3.keepC p3 (e _ _ (by omega)) (e _ _ (by omega)) (fun j => e _ _ (by omega)), h4.keepE p4.l (fun k j a => e k j (by omega)), h5.keepE (fun k j a => e k j (by omega)), h6.keepE (fun k j a => e k j (by omega)), h7.keepE (fun k j a => e k j (by omega)), m, by rw [e _ _ (by omega)]; exact h9, by rw [e _ _ (by omega)]; exact h10⟩
  · refine ⟨-1, _, hw, fun M K hX hK => ?_, fun M K hM hK => ?_⟩
    · obtain ⟨t, t', ht, h1, h2, h3, h4, h5, h6, h7, h8, h9, h10, h11, h12⟩ := id hX
      exact RI.deeper (by decide) (x_later (d := 0) h10 (fun _ => hK M FX.rf hX) (fun q => absurd q h0))
    · obtain ⟨h1, h2, h3, h4, h5, h6, h7, h8, h9, h10⟩ := id hM
      exact RI.deeper (by decide) (m_later (d := 0) h8 (fun _ => hK M FZ.rf hM) (fun q => absurd q h0))
/-- questions to the memory: the class keeps a table -/
theorem pr_f {μx μm : Mt} {as : List Value} (h : ∀ F st S S1 c W, CP F st S S1 → ATh S1 → WOk c W → ∃ r, (∀ (M : Mem) (t : Nat) (K : Int32 → Mem → Prop), CX M t F st S S1 → Cch M F st S1 → MX M c W → (∀ M', QF M M' → Cch M' F st S1 → K r M') → CI 113 μx (.ref 0 :: as) M K) ∧ ∀ (M : Mem) (K : Int32 → Mem → Prop), CR M F st S S1 → MM M c W → (∀ M', Q M M' → K r M') → CI 113 μm (.ref 58 :: as) M K) : PR μx μm as := by
  intro w hw
  obtain ⟨⟨F, st, un⟩, ⟨S, S1⟩, ⟨P, R⟩, B, ⟨c, W⟩, ⟨L, T⟩, Ly, ⟨tm, fc, fp⟩⟩ := w
  obtain ⟨p1, p2, p3, p4, p5, p6, p7, p8⟩ := id hw
  obtain ⟨r, hx, hm⟩ := h F st S S1 c W p1 p5 p6
  refine ⟨r, _, hw, fun M K hX hK => ?_, fun M K hM hK => hm M K hM.1 hM.2.2.2.2.1 (fun M' q => hK M' q.fz (WM.q hw hM q))⟩
  obtain ⟨t, t', ht, h1, h2, h3, h4, h5, h6, h7, h8, h9, h10, h11, h12⟩ := hX
  refine hx M t K h1 h7 h6 (fun M' q cc => hK M' q.fx ?_)
  have e : ∀ k j, ((k < 2) ∨ (2 ≤ k ∧ k ≤ 10) ∨ (15 ≤ k ∧ k ≤ 23) ∨ (27 ≤ k ∧ k ≤ 31) ∨ k = 14 ∨ (39 ≤ k ∧ k ≤ 41) ∨ (48 ≤ k ∧ k ≤ 53) ∨ k = 57) → ¬ (k = 48 ∧ j = 7) → ri M' k j = ri M k j := fun k j hk hj => q.1 k j (scr_ok k (by omega) (by omega)) (by omega) (by omega) hj
  exact ⟨t, t', ht, h1.keepE (fun k j a => e k j (by omega) (by omega)), by rw [e _ _ (by omega) (by omega)]; exact h2, by rw [e _ _ (by omega) (by omega)]; exact h3, h4.keepC p3 p1.1.1 (fun j => e _ _ (by omega) (by omega)) (fun j => e _ _ (by omega) (by omega)), h5.keepE p4.l (fun k j a => e k j (by omega) (by omega)), h6.keepE (fun k j a => e k j (by omega) (by omega)), cc, h8.keepE (fun k j a => e k j (by omega) (by omega)), h9.keepE (fun k j a => e k j (by omega) (by omega)), by rw [e _ _ (by omega) (by omega)]; exact h10, by rw [e _ _ (by omega) (by omega)]; exact h11, by rw [e _ _ (by omega) (by omega)]; exact h12⟩
theorem pr_fits : PR μX8_fits μX9_fits [.int x] := pr_f (fun F st S S1 c W hP hA hW => ⟨aFits F st S1 c W x, fun M t K hX hC hM hK => RI.deeper (by decide) (x_fits (d := 0) hX hP.2.1 hA hC hW hM hK), fun M K hR hM hK => RI.deeper (by decide) (m_fits (d := 0) hR hP hA hW hM hK)⟩)
theorem pr_sure : PR μX8_sure μX9_sure [.int x, .int y] := pr_f (fun F st S S1 c W hP hA hW => ⟨aSure F st S1 c W x y, fun M t K hX hC hM hK => RI.deeper (by decide) (x_sure (d := 0) hX hP.2.1 hA hC hW hM hK), fun M K hR hM hK => RI.deeper (by decide) (m_sure (d := 0) hR hP hA hW hM hK)⟩)
theorem pr_ask : PR μX8_ask μX9_ask [.int x, .int y] := pr_f (fun F st S S1 c W hP hA hW => ⟨aAsk F st S1 c W x y, fun M t K hX hC hM hK => RI.deeper (by decide) (x_ask (d := 0) hX hP.2.1 hA hC hW hM hK), fun M K hR hM hK => RI.deeper (by decide) (m_ask (d := 0) hR hP hA hW hM hK)⟩)
end Mem4
