/-! shire, both sides -/
def fF (Q : Pd) : List Int32 := ((pG Q).getD ([], 0)).1
def fU (Q : Pd) : Nat := ((pG Q).getD ([], 0)).2
def fT (Q : Pd) : Nat := (pT Q).getD 0
theorem fF_ok {Q : Pd} (h : PO Q) : WfF (fF Q) ∧ (fF Q).length ≤ 270 ∧ (∀ x ∈ fF Q, -16 ≤ x.toInt ∧ ¬ (-6 < x.toInt ∧ x.toInt < -5)) ∧ (bI (pG Q).isSome = if fF Q = [] then 0 else 1) ∧ ((pG Q).isSome = false → fF Q = []) ∧ fT Q ≤ 100 := by
  have hG := h.2.2.2.2.2.2.2.2.2.2
  have hT := h.2.2.2.2.2.2.1
  have t : fT Q ≤ 100 := by
    unfold fT
    cases e : pT Q with
    | none => exact Nat.zero_le _
    | some v => exact hT v e
  unfold fF
  cases e : pG Q with
  | none => exact ⟨⟨fun q i hi => absurd hi (Nat.not_lt_zero _), fun q hq => absurd rfl hq⟩, by decide, fun x hx => (by cases hx), rfl, fun _ => rfl, t⟩
  | some g =>
    obtain ⟨F, u⟩ := g
    obtain ⟨g1, g2, g3, g4, g5⟩ := hG F u e
    exact ⟨g1, g3, g4, (if_neg g2).symm, fun q => (by cases q), t⟩
/-- what is told is all that the model knows now -/
def MS (M : Mem) (Q : Pd) : Prop := CR M (fF Q) (fT Q) (pS Q) (pS Q) ∧ ri M 58 21 = nI (fU Q) ∧ HM M [] [] ∧ ri M 58 55 = nI 0 ∧ LyM M [] ∧ BM M (fun _ => none) ∧ ri M 58 1 = 0 ∧ ri M 58 2 = 0 ∧ ri M 58 3 = -1
/-- all that the model's shire keeps -/
def QZ (M M' : Mem) : Prop := ∀ k j, k < 58 ∨ 87 < k ∨ (k = 58 ∧ j = 56) → ri M' k j = ri M k j
theorem QNa.z {M M' : Mem} (h : QNa M M') : QZ M M' := fun k j a => h k j (by omega) (by omega) (by omega) (by omega) (fun q => by
  have : j = 56 := by omega
  subst this
  exact absurd q.2 (by decide))
theorem QZ.trans {M M' M'' : Mem} (h : QZ M M') (h2 : QZ M' M'') : QZ M M'' := fun k j a => (h2 k j a).trans (h k j a)
theorem qz_w {M : Mem} {k j : Nat} {x : Int32} (h1 : 58 ≤ k) (h2 : k ≤ 87) (h3 : k = 58 → j ≠ 56) : QZ M (wi M k j x) := fun a b ha => by rw [ri_wi, if_neg (by omega)]
theorem m_shire {d L : Nat} {T : Nat → Nat} {M : Mem} {K : Int32 → Mem → Prop} {res : Rs} (hT : TM M L T) (hO : TOk L T) (hR : ∀ d', RGs d' L T (tA T L 0) P0 res) (hP : ∀ Q, res = .inr Q → PO Q) (h0 : ∀ x, res = .inl x → ∀ M', QNa M M' → ri M' 58 1 = 0 → RF M' x → K (-1) M') (hK : ∀ Q, res = .inr Q → ∀ M', QZ M M' → MS M' Q → K (nI (sn (pS Q))) M') : CI (d + 8) μX9_shire [.ref 58] M K := by
  refine sg_X9_shire_0 (m_readAll (d := d) hT hO hR (fun M1 q1 f1 me => ?_))
  cases res with
  | inl x =>
    rw [if_neg (RF.gt me)]
    exact h0 x rfl M1 q1 f1 me
  | inr Q =>
    obtain ⟨m2, m3, D1, D2, D3, D4, D5, D6, D7, D8, D9, D10⟩ := me
    have hQ := hP Q rfl
    obtain ⟨F1, F2, F3, F4, F5, F6⟩ := fF_ok hQ
    have hn := hQ.2.2.1
    rw [if_pos (show ri M1 58 2 ≤ 0 by rw [m2]; decide)]
    intro M2 g2 M3 g3 M4 g4
    have r2 : ∀ k j, ri M2 k j = if k = 58 ∧ j = 35 then ri M1 58 31 else ri M1 k j := by intro k j; rw [g2, ri_wi]
    have r3 : ∀ k j, ri M3 k j = if k = 58 ∧ j = 36 then ri M1 58 33 else ri M2 k j := by
      intro k j; rw [show ri M2 58 33 = ri M1 58 33 by rw [r2, if_neg (by omega)]] at g3; rw [g3, ri_wi]
    have r4 : ∀ k j, ri M4 k j = if k = 58 ∧ j = 21 then ri M1 58 20 else ri M3 k j := by
      intro k j; rw [show ri M3 58 20 = ri M1 58 20 by rw [r3, if_neg (by omega), r2, if_neg (by omega)]] at g4; rw [g4, ri_wi]
    have e24 : ri M4 58 24 = bI (pG Q).isSome := by rw [r4, if_neg (by omega), r3, if_neg (by omega), r2, if_neg (by omega)]; exact D8
    refine ⟨by rw [e24]; cases (pG Q).isSome; exact Or.inl rfl; exact Or.inr rfl, fun M5 g5 => ?_⟩
    have r5 : ∀ k j, ri M5 k j = if k = 58 ∧ j = 25 then bI (pG Q).isSome else ri M4 k j := by intro k j; rw [g5, ri_wi, e24]
    -- from the copying on
    have tail : ∀ M6, (∀ k j, ri M6 k j = if k = 58 ∧ j = 18 then nI (fF Q).length else ri M5 k j) → RI (d + 8) μX9_shire 66 [(0, .ref 58), (1, .int 0)] [] M6 K := by
      intro M6 r6
      have o6 : ∀ k j, ¬ (k = 58 ∧ (j = 18 ∨ j = 25 ∨ j = 21 ∨ j = 35 ∨ j = 36)) → ri M6 k j = ri M1 k j := by
        intro k j h
        rw [r6, if_neg (by omega), r5, if_neg (by omega), r4, if_neg (by omega), r3, if_neg (by omega), r2, if_neg (by omega)]
      have z6 : QZ M M6 := q1.z.trans (fun k j a => o6 k j (by omega))
      have enc : ∀ i, i < (fF Q).length → encAt (ri M6 61 i) (ri M6 62 i) ((fF Q)[i]?.getD 0) := by
        intro i hi
        cases hs : (pG Q).isSome with
        | false => rw [F5 hs] at hi; exact absurd hi (Nat.not_lt_zero _)
        | true => rw [o6 _ _ (by omega), o6 _ _ (by omega)]; exact (D10 hs).2 i hi
      have loop : ∀ (f i : Nat) (Mk : Mem), f + i = (fF Q).length → (∀ k j, k ≠ 63 → k ≠ 64 → ri Mk k j = ri M6 k j) → (∀ j, j < i → ri Mk 63 j = ri M6 61 j ∧ ri Mk 64 j = ri M6 62 j) → RI (d + 8) μX9_shire 66 [(0, .ref 58), (1, .int (nI i))] [] Mk K := by
        intro f
        induction f with
        | succ f ih =>
          intro i Mk hi e ec
          refine sg_X9_shire_66 ?_
          rw [show ri Mk 58 18 = nI (fF Q).length by rw [e 58 18 (by omega) (by omega), r6, if_pos ⟨rfl, rfl⟩], if_neg (by rw [nI_leI (by omega) (by omega)]; omega)]
          refine ⟨n_in (by omega) (by decide), n_in (by omega) (by decide), fun M7 g7 => ⟨n_in (by omega) (by decide), n_in (by omega) (by decide), fun M8 g8 => ?_⟩⟩
          rw [show nx (nI i) = i from nI_clamp (by omega)] at g7 g8
          rw [nI_1]
          have r7 : ∀ k j, ri M7 k j = if k = 63 ∧ j = i then ri Mk 61 i else ri Mk k j := by intro k j; rw [g7, ri_wi]
          have r8 : ∀ k j, ri M8 k j = if k = 64 ∧ j = i then ri Mk 62 i else ri M7 k j := by
            intro k j; rw [show ri M7 62 i = ri Mk 62 i by rw [r7, if_neg (by omega)]] at g8; rw [g8, ri_wi]
          refine ih (i + 1) M8 (by omega) (fun k j h1 h2 => by rw [r8, if_neg (by omega), r7, if_neg (by omega)]; exact e k j h1 h2) (fun j hj => ?_)
          rw [r8, r8, if_neg (show ¬ (63 = 64 ∧ j = i) by omega), r7, r7, if_neg (show ¬ (64 = 63 ∧ j = i) by omega)]
          by_cases hz : j = i
          · rw [if_pos ⟨rfl, hz⟩, if_pos ⟨rfl, hz⟩, hz]; exact ⟨e _ _ (by omega) (by omega), e _ _ (by omega) (by omega)⟩
          · rw [if_neg (fun q => hz q.2), if_neg (fun q => hz q.2)]; exact ec j (by omega)
        | zero =>
          intro i Mk hi e ec
          refine sg_X9_shire_66 ?_
          rw [show ri Mk 58 18 = nI (fF Q).length by rw [e 58 18 (by omega) (by omega), r6, if_pos ⟨rfl, rfl⟩], if_pos (by rw [nI_leI (by omega) (by omega)]; omega)]
          intro M7 g7
          rw [show nx 23 = 23 from rfl, show ri Mk 58 34 = nI (sd (pS Q)) by rw [e _ _ (by omega) (by omega), o6 _ _ (by omega), D7, hQ.2.2.2.2.2.2.2.2.1]] at g7
          have r7 : ∀ k j, ri M7 k j = if k = 69 ∧ j = 23 then nI (sd (pS Q)) else ri Mk k j := by intro k j; rw [g7, ri_wi]
          have a7 : Ar M7 69 (pS Q) := by
            have a : Ar Mk 69 (setD (pS Q) 0) := D2.keepA (fun j => by rw [e _ _ (by omega) (by omega), o6 _ _ (by omega)])
            have h12 := hQ.1.1.2.2.1
            exact ⟨fun i hi => by rw [r7, if_neg (by omega)]; exact a.1 i hi, by rw [r7, if_neg (by omega)]; exact a.2.1, by rw [r7, if_neg (by omega)]; exact a.2.2.1, fun j hj => by rw [r7, if_neg (by omega)]; exact a.2.2.2.1 j hj, by rw [r7, if_neg (by omega)]; exact a.2.2.2.2.1, by rw [r7, if_pos ⟨rfl, rfl⟩]⟩
          refine r_keepAir (fun M8 s8 c8 => ?_)
          have a8 : Ar M8 68 (pS Q) := a7.copy hQ.1.1.2.2.1 c8
          have o8 : ∀ k j, k ≠ 63 → k ≠ 64 → k ≠ 68 → k ≠ 69 → ri M8 k j = ri M6 k j := fun k j h1 h2 h3 h4 => by rw [s8.1 k h3 j, r7, if_neg (by omega), e k j h1 h2]
          have loop2 : ∀ (f i : Nat) (Mk' : Mem), f + i = 24 → (∀ k j, k ≠ 70 → ri Mk' k j = ri M8 k j) → (∀ j, j < i → ri Mk' 70 j = ri M8 69 j) → RI (d + 8) μX9_shire 121 [(0, .ref 58), (1, .int (nI i))] [] Mk' K := by
            intro f
            induction f with
            | succ f ih =>
              intro i Mk' hi e2 ec2
              refine sg_X9_shire_121 ?_
              rw [if_neg (by rw [l_24, nI_leI (by omega) (by omega)]; omega)]
              refine ⟨n_in (by omega) (by decide), n_in (by omega) (by decide), fun M9 g9 => ?_⟩
              rw [show nx (nI i) = i from nI_clamp (by omega)] at g9
              rw [nI_1]
              refine ih (i + 1) M9 (by omega) (fun k j hk => by rw [g9, ri_wi, if_neg (fun q => hk q.1)]; exact e2 k j hk) (fun j hj => ?_)
              rw [g9, ri_wi]
              by_cases hz : j = i
              · rw [if_pos ⟨rfl, hz⟩, hz, e2 _ _ (by omega)]
              · rw [if_neg (fun q => hz q.2)]; exact ec2 j (by omega)
            | zero =>
              intro i Mk' hi e2 ec2
              refine sg_X9_shire_121 ?_
              rw [if_pos (by rw [l_24, nI_leI (by omega) (by omega)]; omega)]
              intro M9 g9 M10 g10 M11 g11 M12 g12
              have r12 : ∀ k j, ri M12 k j = if k = 58 ∧ j = 45 then 0 else if k = 58 ∧ j = 55 then 0 else if k = 58 ∧ j = 41 then 0 else if k = 58 ∧ j = 40 then 0 else ri Mk' k j := by
                intro k j; rw [g12, ri_wi, g11, ri_wi, g10, ri_wi, g9, ri_wi]
              have loop3 : ∀ (f i : Nat) (Mj : Mem), f + i = 3 → (∀ k j, k ≠ 86 → ri Mj k j = ri M12 k j) → (∀ j, j < i → ri Mj 86 j = 0) → RI (d + 8) μX9_shire 167 [(0, .ref 58), (1, .int (nI i))] [] Mj K := by
                intro f
                induction f with
                | succ f ih =>
                  intro i Mj hi e3 ec3
                  refine sg_X9_shire_167 ?_
                  rw [if_neg (by rw [l_3, nI_leI (by omega) (by omega)]; omega)]
                  refine ⟨n_in (by omega) (by decide), fun M13 g13 => ?_⟩
                  rw [show nx (nI i) = i from nI_clamp (by omega)] at g13
                  rw [nI_1]
                  refine ih (i + 1) M13 (by omega) (fun k j hk => by rw [g13, ri_wi, if_neg (fun q => hk q.1)]; exact e3 k j hk) (fun j hj => ?_)
                  rw [g13, ri_wi]
                  by_cases hz : j = i
                  · rw [if_pos ⟨rfl, hz⟩]; rfl
                  · rw [if_neg (fun q => hz q.2)]; exact ec3 j (by omega)
                | zero =>
                  intro i Mj hi e3 ec3
                  refine sg_X9_shire_167 ?_
                  rw [if_pos (by rw [l_3, nI_leI (by omega) (by omega)]; omega)]
                  have oj : ∀ k j, k ≠ 86 → k ≠ 70 → ¬ (k = 58 ∧ (j = 45 ∨ j = 55 ∨ j = 41 ∨ j = 40)) → ri Mj k j = ri M8 k j := by
                    intro k j h1 h2 h3
                    rw [e3 k j h1, r12, if_neg (by omega), if_neg (by omega), if_neg (by omega), if_neg (by omega), e2 k j h2]
                  have oj6 : ∀ k j, k ≠ 86 → k ≠ 70 → k ≠ 63 → k ≠ 64 → k ≠ 68 → k ≠ 69 → ¬ (k = 58 ∧ (j = 45 ∨ j = 55 ∨ j = 41 ∨ j = 40)) → ri Mj k j = ri M6 k j := fun k j h1 h2 h3 h4 h5 h6 h7 => (oj k j h1 h2 h7).trans (o8 k j h3 h4 h5 h6)
                  have e35 : ri Mj 58 35 = nI (sn (pS Q)) := by
                    rw [oj6 _ _ (by omega) (by omega) (by omega) (by omega) (by omega) (by omega) (by omega), r6, if_neg (by omega), r5, if_neg (by omega), r4, if_neg (by omega), r3, if_neg (by omega), r2, if_pos ⟨rfl, rfl⟩, D1.1, hn]
                  rw [e35]
                  refine hK Q rfl Mj (z6.trans (fun k j a => oj6 k j (by omega) (by omega) (by omega) (by omega) (by omega) (by omega) (by omega))) ⟨⟨?_, ?_, ⟨?_, ?_, F2, fun x hx => (F3 x hx).1, ?_⟩, e35, ?_⟩, ?_, ⟨?_, ?_, fun i hi => absurd hi (Nat.not_lt_zero _), fun i hi => absurd hi (Nat.not_lt_zero _)⟩, ?_, ⟨?_, fun i hi => absurd hi (Nat.not_lt_zero _)⟩, ?_, ?_, ?_, ?_⟩
                  · exact a8.keepA (fun j => oj _ _ (by omega) (by omega) (by omega))
                  · refine Ar.copy (M := M7) (a := 69) hQ.1.1.2.2.1 a7 (fun j hj => ?_)
                    rw [e3 _ _ (by omega), r12, if_neg (by omega), if_neg (by omega), if_neg (by omega), if_neg (by omega), ec2 j (by omega), s8.1 69 (by omega)]
                  · rw [oj6 _ _ (by omega) (by omega) (by omega) (by omega) (by omega) (by omega) (by omega), r6, if_neg (by omega), r5, if_pos ⟨rfl, rfl⟩, F4]
                  · rw [oj6 _ _ (by omega) (by omega) (by omega) (by omega) (by omega) (by omega) (by omega), r6, if_pos ⟨rfl, rfl⟩]
                  · intro i hi
                    rw [oj _ _ (by omega) (by omega) (by omega), oj _ _ (by omega) (by omega) (by omega), s8.1 63 (by omega), s8.1 64 (by omega), r7, r7, if_neg (by omega), if_neg (by omega), (ec i (by omega)).1, (ec i (by omega)).2]
                    exact enc i hi
                  · rw [oj6 _ _ (by omega) (by omega) (by omega) (by omega) (by omega) (by omega) (by omega), r6, if_neg (by omega), r5, if_neg (by omega), r4, if_neg (by omega), r3, if_pos ⟨rfl, rfl⟩]; exact D5
                  · rw [oj6 _ _ (by omega) (by omega) (by omega) (by omega) (by omega) (by omega) (by omega), r6, if_neg (by omega), r5, if_neg (by omega), r4, if_pos ⟨rfl, rfl⟩]; exact D9
                  · rw [e3 _ _ (by omega), r12, if_neg (by omega), if_neg (by omega), if_neg (by omega), if_pos ⟨rfl, rfl⟩]; rfl
                  · rw [e3 _ _ (by omega), r12, if_neg (by omega), if_neg (by omega), if_pos ⟨rfl, rfl⟩]; rfl
                  · rw [e3 _ _ (by omega), r12, if_neg (by omega), if_pos ⟨rfl, rfl⟩]; rfl
                  · rw [e3 _ _ (by omega), r12, if_pos ⟨rfl, rfl⟩]; rfl
                  · intro b hb
                    exact ⟨ec3 b (by omega), fun T hT => (by cases hT)⟩
                  · rw [oj6 _ _ (by omega) (by omega) (by omega) (by omega) (by omega) (by omega) (by omega), o6 _ _ (by omega)]; exact f1
                  · rw [oj6 _ _ (by omega) (by omega) (by omega) (by omega) (by omega) (by omega) (by omega), o6 _ _ (by omega)]; exact m2
                  · rw [oj6 _ _ (by omega) (by omega) (by omega) (by omega) (by omega) (by omega) (by omega), o6 _ _ (by omega)]; exact m3
              exact loop3 3 0 M12 rfl (fun _ _ _ => rfl) (fun j h => absurd h (Nat.not_lt_zero _))
          exact loop2 24 0 M8 rfl (fun _ _ _ => rfl) (fun j h => absurd h (Nat.not_lt_zero _))
      exact loop (fF Q).length 0 M6 rfl (fun _ _ _ _ => rfl) (fun j h => absurd h (Nat.not_lt_zero _))
    have e24' : ri M5 58 24 = bI (pG Q).isSome := by rw [r5, if_neg (by omega)]; exact e24
    rw [e24']
    cases hs : (pG Q).isSome with
    | false =>
      rw [if_pos (show bI false = 0 from rfl)]
      intro M6 g6
      refine tail M6 (fun k j => ?_)
      rw [g6, ri_wi, F5 hs]; rfl
    | true =>
      rw [if_neg (show ¬ bI true = 0 by decide)]
      intro M6 g6
      refine tail M6 (fun k j => ?_)
      rw [show ri M5 58 17 = nI (fF Q).length by rw [r5, if_neg (by omega), r4, if_neg (by omega), r3, if_neg (by omega), r2, if_neg (by omega)]; exact (D10 hs).1] at g6
      rw [g6, ri_wi]
