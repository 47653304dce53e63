/-! the pairs: text, boxes, fault, about, shire -/
section Text5
variable {x : Int32}
/-- a new text -/
theorem pr_t {μx μm : Mt} {as : List Value} (h : ∀ L T, TOk L T → (∃ r, (∀ (M : Mem) (K : Int32 → Mem → Prop), TX M L T → K r M → CI 113 μx (.ref 0 :: as) M K) ∧ ∀ (M : Mem) (K : Int32 → Mem → Prop), TM M L T → K r M → CI 113 μm (.ref 58 :: as) M K) ∨ ∃ r L' T', TOk L' T' ∧ (∀ (M : Mem) (K : Int32 → Mem → Prop), TX M L T → (∀ M', QP 0 M M' → TX M' L' T' → K r M') → CI 113 μx (.ref 0 :: as) M K) ∧ ∀ (M : Mem) (K : Int32 → Mem → Prop), TM M L T → (∀ M', QP 1 M M' → TM M' L' T' → K r M') → CI 113 μm (.ref 58 :: as) M K) : PR μx μm as := by
  intro w hw
  obtain ⟨⟨F, st, un⟩, ⟨S, S1⟩, ⟨P, R⟩, B, ⟨c, W⟩, ⟨L, T⟩, Ly, ⟨tm, fc, fp⟩⟩ := w
  obtain ⟨p1, p2, p3, p4, p5, p6, p7, p8⟩ := id hw
  rcases h L T p7.1 with ⟨r, hx, hm⟩ | ⟨r, L', T', hO, hx, hm⟩
  · refine ⟨r, _, hw, fun M K hX hK => ?_, fun M K hM hK => hm M K hM.2.2.2.2.2.1 (hK M FZ.rf hM)⟩
    obtain ⟨t, t', ht, h1, h2, h3, h4, h5, h6, h7, h8, h9⟩ := id hX
    exact hx M K h8 (hK M FX.rf hX)
  · refine ⟨r, ((F, st, un), (S, S1), (P, R), B, (c, W), (L', T'), Ly, (tm, fc, fp)), ⟨p1, p2, p3, p4, p5, p6, ⟨hO, p7.2⟩, p8⟩, fun M K hX hK => ?_, fun M K hM hK => ?_⟩
    · obtain ⟨t, t', ht, h1, h2, h3, h4, h5, h6, h7, h8, h9, h10, h11, h12⟩ := hX
      refine hx M K h8 (fun M' q m => hK M' q.fx ?_)
      have e : ∀ k j, k ≠ 14 → ¬ (k = 1 ∧ j = 2) → ri M' k j = ri M k j := fun k j a b => q.1 k j (by omega) (by omega) (by omega) (by omega)
      exact ⟨t, t', ht, h1.keepE (fun k j a => e k j (by omega) (by omega)), by rw [e _ _ (by omega) (by omega)]; exact h2, by rw [e _ _ (by omega) (by omega)]; exact h3, h4.keepC p3 p1.1.1 (fun j => e _ _ (by omega) (by omega)) (fun j => e _ _ (by omega) (by omega)), h5.keepE p4.l (fun k j a => e k j (by omega) (by omega)), h6.keepE (fun k j a => e k j (by omega) (by omega)), h7.keepE (fun k j a => e k j (by omega) (by omega)), m, h9.keepE (fun k j a => e k j (by omega) (by omega)), by rw [e _ _ (by omega) (by omega)]; exact h10, by rw [e _ _ (by omega) (by omega)]; exact h11, by rw [e _ _ (by omega) (by omega)]; exact h12⟩
    · obtain ⟨h1, h2, h3, h4, h5, h6, h7, h8, h9, h10⟩ := hM
      refine hm M K h6 (fun M' q m => hK M' q.fz ?_)
      have e : ∀ k j, k ≠ 59 → ¬ (k = 58 ∧ j = 1) → ri M' k j = ri M k j := fun k j a b => q.1 k j (by omega) (by omega) (by omega) (by omega)
      exact ⟨h1.keepE (fun k j a => e k j (by omega) (by omega)), by rw [e _ _ (by omega) (by omega)]; exact h2, h3.keepC p3 (e _ _ (by omega) (by omega)) (e _ _ (by omega) (by omega)) (fun j => e _ _ (by omega) (by omega)), h4.keepE p4.l (fun k j a => e k j (by omega) (by omega)), h5.keepE (fun k j a => e k j (by omega) (by omega)), m, h7.keepE (fun k j a => e k j (by omega) (by omega)), by rw [e _ _ (by omega) (by omega)]; exact h8, by rw [e _ _ (by omega) (by omega)]; exact h9, by rw [e _ _ (by omega) (by omega)]; exact h10⟩
theorem pr_feed {a b c e f : Int32} : PR μX8_feed μX9_feed [.int a, .int b, .int c, .int e, .int f] := pr_t (fun L T hO => by
  by_cases h0 : L + 20 ≤ 1600
  · exact Or.inr ⟨nI (L + 20), L + 20, put20 T L a b c e f, put20_ok hO h0 a b c e f, fun M K hT hK => RI.deeper (by decide) (x_feed (d := 0) hO hT (fun q => absurd h0 (by omega)) (fun _ => hK)), fun M K hT hK => RI.deeper (by decide) (m_feed (d := 0) hO hT (fun q => absurd h0 (by omega)) (fun _ => hK))⟩
  · exact Or.inl ⟨-1, fun M K hT hK => RI.deeper (by decide) (x_feed (d := 0) hO hT (fun _ => hK) (fun q => absurd q h0)), fun M K hT hK => RI.deeper (by decide) (m_feed (d := 0) hO hT (fun _ => hK) (fun q => absurd q h0))⟩)
theorem pr_end : PR μX8_end μX9_end [.int x] := pr_t (fun L T hO => by
  by_cases h0 : 0 ≤ x ∧ x ≤ nI L
  · have hok : TOk (nx x) T := by
      have := hO.1
      obtain ⟨n, hn, rfl⟩ := le_nat h0.1 h0.2 (by omega)
      rw [show nx (nI n) = n from nI_clamp (by omega)]
      exact ⟨by omega, fun i hi => hO.2 i (by omega)⟩
    exact Or.inr ⟨x, nx x, T, hok, fun M K hT hK => RI.deeper (by decide) (x_end (d := 0) hO hT (fun q => absurd h0 q) (fun _ => hK)), fun M K hT hK => RI.deeper (by decide) (m_end (d := 0) hO hT (fun q => absurd h0 q) (fun _ => hK))⟩
  · exact Or.inl ⟨-1, fun M K hT hK => RI.deeper (by decide) (x_end (d := 0) hO hT (fun _ => hK) (fun q => absurd q h0)), fun M K hT hK => RI.deeper (by decide) (m_end (d := 0) hO hT (fun _ => hK) (fun q => absurd q h0))⟩)
theorem pr_image : PR μX8_image μX9_image [.int x] := by
  intro w hw
  obtain ⟨⟨F, st, un⟩, ⟨S, S1⟩, ⟨P, R⟩, B, ⟨c, W⟩, ⟨L, T⟩, Ly, ⟨tm, fc, fp⟩⟩ := w
  obtain ⟨p1, p2, p3, p4, p5, p6, p7, p8⟩ := id hw
  by_cases h0 : 0 ≤ x ∧ x < 3
  · have bg : BG (sn S) (setB B (nx x) S) := by
      intro b T hT
      unfold setB at hT
      split at hT
      · cases hT; exact p2
      · exact p4 b T hT
    refine ⟨sy S, ((F, st, un), (S, S1), (P, R), setB B (nx x) S, (c, W), (L, T), Ly, (tm, fc, fp)), ⟨p1, p2, p3, bg, p5, p6, p7, p8⟩, fun M K hX hK => ?_, fun M K hM hK => ?_⟩
    · obtain ⟨t, t', ht, h1, h2, h3, h4, h5, h6, h7, h8, h9, h10, h11, h12⟩ := hX
      refine RI.deeper (by decide) (x_image (d := 0) h1.2.2.2.2.2 h5 p4 (fun q => absurd h0 q) (fun _ M' q m => hK M' q.fx ?_))
      have e : ∀ k j, k ≠ 41 → ¬ (k = 0 ∧ j = 6) → ri M' k j = ri M k j := fun k j a b => q.1 k j (by omega) (by omega) (by omega) (by omega)
      exact ⟨t, t', ht, h1.keepE (fun k j a => e k j (by omega) (by omega)), by rw [e _ _ (by omega) (by omega)]; exact h2, by rw [e _ _ (by omega) (by omega)]; exact h3, h4.keepC p3 p1.1.1 (fun j => e _ _ (by omega) (by omega)) (fun j => e _ _ (by omega) (by omega)), m, h6.keepE (fun k j a => e k j (by omega) (by omega)), h7.keepE (fun k j a => e k j (by omega) (by omega)), h8.keepE (fun k j a => e k j (by omega) (by omega)), h9.keepE (fun k j a => e k j (by omega) (by omega)), by rw [e _ _ (by omega) (by omega)]; exact h10, by rw [e _ _ (by omega) (by omega)]; exact h11, by rw [e _ _ (by omega) (by omega)]; exact h12⟩
    · obtain ⟨h1, h2, h3, h4, h5, h6, h7, h8, h9, h10⟩ := hM
      refine RI.deeper (by decide) (m_image (d := 0) h1.1 p1.1.1 h4 p4 (fun q => absurd h0 q) (fun _ M' q m => hK M' q.fz ?_))
      have e : ∀ k j, k ≠ 86 → k ≠ 87 → ri M' k j = ri M k j := fun k j a b => q.1 k j (by omega) (by omega) (by omega) (by omega)
      exact ⟨h1.keepE (fun k j a => e k j (by omega) (by omega)), by rw [e _ _ (by omega) (by omega)]; exact h2, h3.keepC p3 (e _ _ (by omega) (by omega)) (e _ _ (by omega) (by omega)) (fun j => e _ _ (by omega) (by omega)), m, h5.keepE (fun k j a => e k j (by omega) (by omega)), h6.keepE (fun k j a => e k j (by omega) (by omega)), h7.keepE (fun k j a => e k j (by omega) (by omega)), by rw [e _ _ (by omega) (by omega)]; exact h8, by rw [e _ _ (by omega) (by omega)]; exact h9, by rw [e _ _ (by omega) (by omega)]; exact h10⟩
  · refine ⟨-1, _, hw, fun M K hX hK => ?_, fun M K hM hK => ?_⟩
    · obtain ⟨t, t', ht, h1, h2, h3, h4, h5, h6, h7, h8, h9, h10, h11, h12⟩ := id hX
      exact RI.deeper (by decide) (x_image (d := 0) h1.2.2.2.2.2 h5 p4 (fun _ => hK M FX.rf hX) (fun q => absurd q h0))
    · obtain ⟨h1, h2, h3, h4, h5, h6, h7, h8, h9, h10⟩ := id hM
      exact RI.deeper (by decide) (m_image (d := 0) h1.1 p1.1.1 h4 p4 (fun _ => hK M FZ.rf hM) (fun q => absurd q h0))
theorem pr_fault : PR μX8_fault μX9_fault [.int x] := by
  intro w hw
  obtain ⟨⟨F, st, un⟩, ⟨S, S1⟩, ⟨P, R⟩, B, ⟨c, W⟩, ⟨L, T⟩, Ly, ⟨tm, fc, fp⟩⟩ := w
  refine ⟨if x = 0 then fc else if x = 1 then fp else -1, _, hw, fun M K hX hK => ?_, fun M K hM hK => ?_⟩
  · have hk := hK M FX.rf hX
    obtain ⟨t, t', ht, h1, h2, h3, h4, h5, h6, h7, h8, h9, h10, h11, h12⟩ := id hX
    refine sg_X8_fault_0 ?_
    rw [h11, h12]
    split at hk
    · rename_i q; rw [if_pos q]; exact hk
    · rename_i q
      rw [if_neg q]
      split at hk
      · rename_i q; rw [if_pos q]; exact hk
      · rename_i q; rw [if_neg q]; exact hk
  · have hk := hK M FZ.rf hM
    obtain ⟨h1, h2, h3, h4, h5, h6, h7, h8, h9, h10⟩ := id hM
    refine sg_X9_fault_0 ?_
    rw [h9, h10]
    split at hk
    · rename_i q; rw [if_pos q]; exact hk
    · rename_i q
      rw [if_neg q]
      split at hk
      · rename_i q; rw [if_pos q]; exact hk
      · rename_i q; rw [if_neg q]; exact hk
def aAbout : Wo → Int32 → Int32
  | ((_, st, un), (S, _), (P, R), _, (c, _), (L, _), Ly, (tm, _, _)), x => if x = 0 then nI (sn S) else if x = 1 then nI (sb S) else if x = 2 then nI (sc S).length else if x = 3 then nI (wlF S (sn S) / 2) else if x = 4 then sy S else if x = 5 then nI (sd S) else if x = 6 then nI P.length else if x = 7 then nI R.length else if x = 8 then nI c else if x = 9 then tm else if x = 10 then nI L else if x = 11 then nI un else if x = 12 then nI Ly.length else if x = 13 then nI st else -1
theorem about_no {w : Wo} (h : x.toInt < 0 ∨ 13 < x.toInt) : aAbout w x = -1 := by
  obtain ⟨⟨F, st, un⟩, ⟨S, S1⟩, ⟨P, R⟩, B, ⟨c, W⟩, ⟨L, T⟩, Ly, ⟨tm, fc, fp⟩⟩ := w
  have ne : ∀ k : Int32, 0 ≤ k.toInt → k.toInt ≤ 13 → x ≠ k := fun k a b q => by rw [q] at h; omega
  unfold aAbout
  simp only
  rw [if_neg (ne 0 (by decide) (by decide)), if_neg (ne 1 (by decide) (by decide)), if_neg (ne 2 (by decide) (by decide)), if_neg (ne 3 (by decide) (by decide)), if_neg (ne 4 (by decide) (by decide)), if_neg (ne 5 (by decide) (by decide)), if_neg (ne 6 (by decide) (by decide)), if_neg (ne 7 (by decide) (by decide)), if_neg (ne 8 (by decide) (by decide)), if_neg (ne 9 (by decide) (by decide)), if_neg (ne 10 (by decide) (by decide)), if_neg (ne 11 (by decide) (by decide)), if_neg (ne 12 (by decide) (by decide)), if_neg (ne 13 (by decide) (by decide))]
theorem pr_about : PR μX8_about μX9_about [.int x] := by
  intro w hw
  refine ⟨aAbout w x, w, hw, fun M K hX hK => ?_, fun M K hM hK => ?_⟩
  · have hk := hK M FX.rf hX
    have no : x.toInt < 0 ∨ 13 < x.toInt → aAbout w x = -1 := about_no
    obtain ⟨⟨F, st, un⟩, ⟨S, S1⟩, ⟨P, R⟩, B, ⟨c, W⟩, ⟨L, T⟩, Ly, ⟨tm, fc, fp⟩⟩ := w
    obtain ⟨t, t', ht, h1, h2, h3, h4, h5, h6, h7, h8, h9, h10, h11, h12⟩ := id hX
    have hF := h1.2.2.2.2.2
    obtain ⟨a, ha, ha3, ha0, ha1, haw⟩ := h4
    refine sg_X8_about_0 (d := 112) ⟨fun h => ?_, fun h => ?_, fun h => ?_, fun h => ?_, fun h => ?_, fun h => ?_, fun h => ?_, fun h => ?_, fun h => ?_, fun h => ?_, fun h => ?_, fun h => ⟨t, h1.1, (tell_kd h1.2.1).1, ?_⟩, fun h => ?_, fun h => ⟨t, h1.1, (tell_kd h1.2.1).1, ?_⟩, fun h => by rw [no h] at hk; exact hk⟩
    · rw [h] at hk; rw [hF.1.1]; exact hk
    · rw [h] at hk; rw [hF.1.2.1]; exact hk
    · rw [h] at hk; rw [hF.1.2.2.2.2.1]; exact hk
    · rw [h] at hk; exact c_howManyWalls (d := 111) (by decide +kernel) hF hk
    · rw [h] at hk; rw [hF.1.2.2.1]; exact hk
    · rw [h] at hk; rw [hF.1.2.2.2.1]; exact hk
    · rw [h] at hk; rw [ha0]; exact hk
    · rw [h] at hk; rw [ha1]; exact hk
    · rw [h] at hk; rw [h6.1]; exact hk
    · rw [h] at hk; rw [h10]; exact hk
    · rw [h] at hk; rw [h8.1]; exact hk
    · rw [h] at hk; rw [h3]; exact hk
    · rw [h] at hk; rw [h9.1]; exact hk
    · rw [h] at hk; rw [h1.2.2.2.1]; exact hk
  · have hk := hK M FZ.rf hM
    have no : x.toInt < 0 ∨ 13 < x.toInt → aAbout w x = -1 := about_no
    have hq : ∀ M', Q M M' → K (aAbout w x) M' := fun M' q => hK M' q.fz (WM.q hw hM q)
    obtain ⟨⟨F, st, un⟩, ⟨S, S1⟩, ⟨P, R⟩, B, ⟨c, W⟩, ⟨L, T⟩, Ly, ⟨tm, fc, fp⟩⟩ := w
    obtain ⟨h1, h2, h3, h4, h5, h6, h7, h8, h9, h10⟩ := id hM
    refine sg_X9_about_0 (d := 112) ⟨fun h => ?_, fun h => ?_, fun h => ?_, fun h => ?_, fun h => ?_, fun h => ?_, fun h => ?_, fun h => ?_, fun h => ?_, fun h => ?_, fun h => ?_, fun h => ?_, fun h => ?_, fun h => ?_, fun h => by rw [no h] at hk; exact hk⟩
    · rw [h] at hk; rw [h1.2.2.2.1]; exact hk
    · rw [h] at hk; rw [show nx 13 = 13 from rfl, h1.1.2.2.1]; exact hk
    · rw [h] at hk; rw [show nx 12 = 12 from rfl, h1.1.2.1]; exact hk
    · rw [h] at hq; exact m_walls (d := 110) h1 hw.1 hq
    · rw [h] at hk; rw [show nx 22 = 22 from rfl, h1.1.2.2.2.2.1]; exact hk
    · rw [h] at hk; rw [show nx 23 = 23 from rfl, h1.1.2.2.2.2.2]; exact hk
    · rw [h] at hk; rw [h3.1]; exact hk
    · rw [h] at hk; rw [h3.2.1]; exact hk
    · rw [h] at hk; rw [h5.1]; exact hk
    · rw [h] at hk; rw [h8]; exact hk
    · rw [h] at hk; rw [h6.1]; exact hk
    · rw [h] at hk; rw [h2]; exact hk
    · rw [h] at hk; rw [h7.1]; exact hk
    · rw [h] at hk; rw [h1.2.2.2.2]; exact hk
end Text5
