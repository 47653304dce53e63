/-! the pair shire, and pairs as the law meets them -/
/-- the class runs, then the model, from the same world to the same world, with the same answer -/
def PC (μx μm : Mt) (as : List Value) : Prop := ∀ (w : Wo) (M : Mem) (K : Int32 → Mem → Prop), WP w → WX M w → (∀ r w' M', WP w' → FX M M' → WX M' w' → (∀ (M1 : Mem) (K1 : Int32 → Mem → Prop), WM M1 w → (∀ M2, FZ M1 M2 → WM M2 w' → K1 r M2) → CI 113 μm (.ref 58 :: as) M1 K1) → K r M') → CI 113 μx (.ref 0 :: as) M K
theorem PR.c {μx μm : Mt} {as : List Value} (h : PR μx μm as) : PC μx μm as := by
  intro w M K hw hX hK
  obtain ⟨r, w', hw', hx, hm⟩ := h w hw
  exact hx M K hX (fun M' q hX' => hK r w' M' hw' q hX' hm)
theorem ATh_all {S : Sh} (h : AllT S) : ATh S := fun j hj => by rw [h, Nat.testBit_two_pow_sub_one]; exact decide_eq_true hj
theorem pj_no : ∀ j, (j = 18 ∨ j = 25 ∨ j = 35 ∨ j = 36 ∨ j = 21 ∨ j = 40 ∨ j = 41 ∨ j = 45 ∨ j = 55 ∨ j = 56) → ¬ (pj j = true ∨ j = 1 ∨ j = 5) := by
  intro j h
  rcases h with rfl | rfl | rfl | rfl | rfl | rfl | rfl | rfl | rfl | rfl <;> decide
theorem pc_shire : PC μX8_shire μX9_shire [] := by
  intro w M K hw hX hK
  obtain ⟨⟨F, st, un⟩, ⟨S, S1⟩, ⟨P, R⟩, B, ⟨c, W⟩, ⟨L, T⟩, Ly, ⟨tm, fc, fp⟩⟩ := w
  obtain ⟨p1, p2, p3, p4, p5, p6, p7, p8⟩ := id hw
  obtain ⟨t, t', ht, h1, h2, h3, h4, h5, h6, h7, h8, h9, h10, h11, h12⟩ := hX
  refine x_shire (d := 0) ht h1.1 h2 h8 p7.1 (fun x M' hR e e2 cf => ?_) (fun Q M' hR hP e i3 xs => ?_)
  · obtain ⟨c1, c2, c3, c4, c5⟩ := cf
    have e : ∀ k j, k ≠ 1 ∨ j = 3 → k < t' ∨ t' + 11 < k ∨ k = 1 → ri M' k j = ri M k j := e
    refine hK (-1) ((F, st, un), (S, S1), (P, R), B, (c, W), (0, T), Ly, (tm, nI x.1, nI x.2)) M' ⟨p1, p2, p3, p4, p5, p6, ⟨⟨by omega, fun i hi => absurd hi (Nat.not_lt_zero _)⟩, p7.2⟩, p8⟩ (fun k j a _ _ => e k j (by omega) (by omega)) ⟨t, t', ht, ?_, by rw [e 1 3 (by omega) (by omega)]; exact h2, by rw [e _ _ (by omega) (by omega)]; exact h3, h4.keepC p3 p1.1.1 (fun j => e _ _ (by omega) (by omega)) (fun j => e _ _ (by omega) (by omega)), h5.keepE p4.l (fun k j a => e k j (by omega) (by omega)), h6.keepE (fun k j a => e k j (by omega) (by omega)), h7.keepE (fun k j a => e k j (by omega) (by omega)), ⟨e2, fun i hi => absurd hi (Nat.not_lt_zero _)⟩, h9.keepE (fun k j a => e k j (by omega) (by omega)), by rw [e _ _ (by omega) (by omega)]; exact h10, c1, c2⟩ (fun M1 K1 hM hK1 => ?_)
    · obtain ⟨k1, k2, k3, k4, k5, k6⟩ := h1
      exact ⟨by rw [e 0 1 (by omega) (by omega)]; exact k1, k2, ⟨k3.1, by rw [e _ _ (by omega) (by omega)]; exact k3.2.1, fun i hi => by rw [e _ _ (by omega) (by omega)]; exact k3.2.2.1 i hi, k3.2.2.2⟩, by rw [e _ _ (by omega) (by omega)]; exact k4, k5.keepK (fun k hk j => e _ _ (by omega) (by omega)), k6.keepK (fun k hk j => e _ _ (by omega) (by omega))⟩
    · obtain ⟨g1, g2, g3, g4, g5, g6, g7, g8, g9, g10⟩ := hM
      refine RI.deeper (by decide) (m_shire (d := 0) g6 p7.1 hR (fun Q q => by cases q) (fun x' q M2 qn f1 rf => ?_) (fun Q q => by cases q))
      cases q
      have n : ∀ k j, k ≠ 61 → k ≠ 62 → k ≠ 65 → k ≠ 69 → (k ≠ 58 ∨ j = 18 ∨ j = 25 ∨ j = 35 ∨ j = 36 ∨ j = 21 ∨ j = 40 ∨ j = 41 ∨ j = 45 ∨ j = 55 ∨ j = 56) → ri M2 k j = ri M1 k j := fun k j a b c d h => qn k j a b c d (fun q => by
        rcases h with h | h
        · exact h q.1
        · exact pj_no j h q.2)
      exact hK1 M2 (fun k j a b => n k j (by omega) (by omega) (by omega) (by omega) (by omega)) ⟨g1.keepE (fun k j a => n k j (by omega) (by omega) (by omega) (by omega) (by omega)), by rw [n _ _ (by omega) (by omega) (by omega) (by omega) (by omega)]; exact g2, g3.keepC p3 (n _ _ (by omega) (by omega) (by omega) (by omega) (by omega)) (n _ _ (by omega) (by omega) (by omega) (by omega) (by omega)) (fun j => n _ _ (by omega) (by omega) (by omega) (by omega) (by omega)), g4.keepE p4.l (fun k j a => n k j (by omega) (by omega) (by omega) (by omega) (by omega)), g5.keepE (fun k j a => n k j (by omega) (by omega) (by omega) (by omega) (by omega)), ⟨f1, fun i hi => absurd hi (Nat.not_lt_zero _)⟩, g7.keepE (fun k j a => n k j (by omega) (by omega) (by omega) (by omega) (by omega)), by rw [n _ _ (by omega) (by omega) (by omega) (by omega) (by omega)]; exact g8, rf.1, rf.2.1⟩
  · obtain ⟨x1, x2, x3, x4, x5, x6, x7, x8, x9, x10⟩ := xs
    obtain ⟨F1, F2, F3, F4, F5, F6⟩ := fF_ok hP
    have hgk : GK (sn (pS Q)) (pS Q) := ⟨hP.1, rfl, 0, by omega, hP.2.2.2.2.2.2.2.2.2.1⟩
    refine hK (nI (sn (pS Q))) ((fF Q, fT Q, fU Q), (pS Q, pS Q), ([], []), (fun _ => none), (0, W), (0, T), [], (tm, 0, -1)) M' ⟨⟨hP.1, hP.1, rfl, F1, F6⟩, hgk, ⟨by decide, fun T h => by rcases h with h | h <;> cases h⟩, fun b T h => (by cases h), ATh_all hP.2.1, ⟨by omega, fun i hi => absurd hi (Nat.not_lt_zero _)⟩, ⟨⟨by omega, fun i hi => absurd hi (Nat.not_lt_zero _)⟩, p7.2⟩, by decide⟩ (fun k j a b d => e k j (Or.inl a) b d) ⟨t', t, by omega, x1, i3, x2, x3, ⟨0, by omega, x7, fun b hb => ⟨Nat.zero_testBit b, fun T h => (by cases h)⟩⟩, ⟨x4, fun i hi => absurd hi (Nat.not_lt_zero _)⟩, Or.inl x5, ⟨x8, fun i hi => absurd hi (Nat.not_lt_zero _)⟩, ⟨x6, fun i hi => absurd hi (Nat.not_lt_zero _)⟩, by rw [e 0 10 (by omega) rfl (by omega)]; exact h10, x9, x10⟩ (fun M1 K1 hM hK1 => ?_)
    obtain ⟨g1, g2, g3, g4, g5, g6, g7, g8, g9, g10⟩ := hM
    refine RI.deeper (by decide) (m_shire (d := 0) g6 p7.1 hR (fun Q' q => by cases q; exact hP) (fun x q => by cases q) (fun Q' q M2 qz ms => ?_))
    cases q
    obtain ⟨m1, m2, m3, m4, m5, m6, m7, m8, m9⟩ := ms
    exact hK1 M2 (fun k j a _ => qz k j (by omega)) ⟨m1, m2, m3, m6, ⟨m4, fun i hi => absurd hi (Nat.not_lt_zero _)⟩, ⟨m7, fun i hi => absurd hi (Nat.not_lt_zero _)⟩, m5, by rw [qz 58 56 (by omega)]; exact g8, m8, m9⟩
