/-! a whole text is read -/
def P0 : Pd := ([], S0, 0, none, none, none)
theorem PO_0 : PO P0 := ⟨GS_0, rfl, rfl, fun i _ hi => absurd hi (Nat.not_lt_zero _), fun l hl => (by cases hl), by decide, fun v hv => (by cases hv), fun v hv => (by cases hv), rfl, rfl, fun F u h => by cases h⟩
abbrev Rs : Type := (Nat × Nat) ⊕ Pd
def Me (M' : Mem) : Rs → Prop
  | .inl x => RF M' x
  | .inr Q => ri M' 58 2 = 0 ∧ ri M' 58 3 = -1 ∧ DM M' Q
/-- from here the model comes to this end -/
def RGs (d L : Nat) (T : Nat → Nat) (σ : Rdg) (P : Pd) (res : Rs) : Prop := ∀ (M : Mem) (K : Mem → Prop), TZ M L T → RS M L T σ → ((∃ a, σ = .inl a) → DM M P) → (∀ M', QM M M' → Me M' res → K M') → RV (d + 7) μX9_readAll 93 [(0, .ref 58), (1, .int 24)] [] M K
section Rg
variable {T : Nat → Nat} {L : Nat}
theorem r_pend {d : Nat} {M : Mem} {K : Mem → Prop} {x : Nat × Nat} (hT : TZ M L T) (hO : TOk L T) (h : RN M L T (.inr x)) (hK : ∀ M', QTm M M' → RF M' x → K M') : CV (d + 6) μX9_readLine [.ref 58] M K := by
  refine sg_X9_readLine_0 (r_isWord (w := 0) (by omega) ow_lord h ?_)
  rw [show isO T L 0 (.inr x) = false from rfl, if_pos (by decide)]
  refine sg_X9_readLine_26 (r_isWord (w := 1) (by omega) ow_flip h ?_)
  rw [show isO T L 1 (.inr x) = false from rfl, if_pos (by decide)]
  refine sg_X9_readLine_52 (r_isWord (w := 2) (by omega) ow_grows h ?_)
  rw [show isO T L 2 (.inr x) = false from rfl, if_pos (by decide)]
  refine sg_X9_readLine_76 (r_isWord (w := 3) (by omega) ow_straw h ?_)
  rw [show isO T L 3 (.inr x) = false from rfl, if_pos (by decide)]
  refine sg_X9_readLine_114 (r_isWord (w := 4) (by omega) ow_draw h ?_)
  rw [show isO T L 4 (.inr x) = false from rfl, if_pos (by decide)]
  refine r_wrong (f := 2) (by omega) h (fun M1 q1 c1 => ?_)
  exact r_158F c1 (hK M1 q1 c1)
theorem RG_fault {d : Nat} {P : Pd} {x : Nat × Nat} (hO : TOk L T) : RGs d L T (.inr x) P (.inl x) := by
  intro M K hT h _ hK
  have fin : ∀ M', QM M M' → RF M' x → RV (d + 7) μX9_readAll 93 [(0, .ref 58), (1, .int 24)] [] M' K := by
    intro M' q f
    refine sg_X9_readAll_93 ?_
    rw [if_neg f.ne]
    exact hK M' q f
  rcases h with h | ⟨y, hy, h⟩
  · refine sg_X9_readAll_93 ?_
    rw [if_pos h.1, h.2.2.1, if_neg (by decide)]
    exact r_pend hT hO h (fun M' q f => fin M' q.m f)
  · cases hy; exact fin M QM.rf h
theorem RG_end {d a : Nat} {P : Pd} (h0 : tK T L a = 0) : RGs d L T (.inl a) P (.inr P) := by
  intro M K hT h hD hK
  rcases h with h | ⟨y, hy, h⟩
  · refine sg_X9_readAll_93 ?_
    rw [if_pos h.1, h.2.1.1, h0, if_pos (by rfl)]
    exact hK M QM.rf ⟨h.1, h.2.2.2.2, hD ⟨a, rfl⟩⟩
  · cases hy
theorem RG_step {a : Nat} {P P' : Pd} {σ' : Rdg} {res : Rs} (h0 : tK T L a ≠ 0) (line : ∀ (d : Nat) (M : Mem) (K : Mem → Prop), TZ M L T → RN M L T (.inl a) → DM M P → (∀ M', QM M M' → RS M' L T σ' → ((∃ b, σ' = .inl b) → DM M' P') → K M') → CV (d + 6) μX9_readLine [.ref 58] M K) (h : ∀ d, RGs d L T σ' P' res) (d : Nat) : RGs d L T (.inl a) P res := by
  intro M K hT hs hD hK
  rcases hs with hn | ⟨y, hy, _⟩
  · refine sg_X9_readAll_93 ?_
    have hk := tKc T L a
    rw [if_pos hn.1, hn.2.1.1, if_neg (show ¬ nI (tK T L a) = 0 from fun q => h0 (nI_inj (b := 0) (by omega) (by omega) q))]
    refine line d M _ hT hn (hD ⟨a, rfl⟩) (fun M' q c D => ?_)
    exact h d M' K (hT.qm q) c D (fun M'' q2 e => hK M'' (q.trans q2) e)
  · cases hy
theorem r_lineBad {d a : Nat} {M : Mem} {K : Mem → Prop} {P : Pd} (hT : TZ M L T) (hO : TOk L T) (h : RN M L T (.inl a)) (hD : DM M P) (hP : PO P) (b0 : isO T L 0 (.inl a) = false ∨ 8 ≤ (pN P).length) (b1 : isO T L 1 (.inl a) = false ∨ 12 ≤ pL P) (b2 : isO T L 2 (.inl a) = false ∨ (pG P).isSome = true) (b3 : isO T L 3 (.inl a) = false ∨ (pT P).isSome = true) (b4 : isO T L 4 (.inl a) = false ∨ (pD P).isSome = true) (hK : ∀ M', QM M M' → RS M' L T (blm T L 2 (.inl a)) → K M') : CV (d + 6) μX9_readLine [.ref 58] M K :=
  rl_26 h hD b0 (rl_52 h hD hP.2.2.2.2.2.1 b1 (rl_76 h hD b2 (rl_114 h hD b3 (rl_bad hT hO h hD b4 (fun M' q f => hK M' q.m (Or.inr ⟨_, rfl, f⟩))))))
end Rg
def QR0 (t : Nat) (M M' : Mem) : Prop := (∀ k j, k ≠ 1 ∨ j = 2 ∨ j = 3 → k < t ∨ t + 11 < k ∨ k = 1 → ri M' k j = ri M k j) ∧ ∀ k j, k ≠ 1 → k ≠ t + 11 → rl M' k j = rl M k j
theorem QR.o {t : Nat} {M M' : Mem} (h : QR t M M') : QR0 t M M' := ⟨fun k j a b => h.1 k j (by rcases a with a | a | a; exact Or.inl a; exact Or.inr (Or.inl a); exact Or.inr (Or.inr (Or.inl a))) b, h.2⟩
theorem QR0.trans {t : Nat} {M M' M'' : Mem} (h : QR0 t M M') (h2 : QR0 t M' M'') : QR0 t M M'' := ⟨fun k j a b => (h2.1 k j a b).trans (h.1 k j a b), fun k j a b => (h2.2 k j a b).trans (h.2 k j a b)⟩
def Ce (M' : Mem) (t : Nat) : Rs → Prop
  | .inl x => CF M' x.1 x.2
  | .inr Q => ri M' 1 0 = 0 ∧ ri M' 1 1 = -1 ∧ DX M' t Q ∧ PO Q
theorem x_read {d L t : Nat} {T : Nat → Nat} {M : Mem} {K : Mem → Prop} (ht : t = 2 ∨ t = 15) (h3 : nx (ri M 1 3) = t) (hT : TX M L T) (hO : TOk L T) (hK : ∀ M' res, QR0 t M M' → Ce M' t res → (∀ d', RGs d' L T (tA T L 0) P0 res) → K M') : CV (d + 112) μX6_read [.ref 1] M K := by
  have hk := tell_kd ht
  have hL := hO.1
  refine sg_X6_read_0 ⟨t, h3, hk.1, ?_⟩
  refine sg_X7_empty_0 hk.1 ?_
  refine RV.deeper (d := d + 110) (Nat.le_refl _) (c_empty (d := d + 108) hk.2.2 (fun M1 s1 F1 => ?_))
  refine sg_X1_empty_0 hk.2.1 ?_
  intro M2 g2 M3 g3 M4 g4 M5 g5 M6 g6 M7 g7 M8 g8 M9 g9 M10 g10 M11 g11
  have r8 : ∀ k j, ri M8 k j = if k = t ∧ (j = 3 ∨ j = 4 ∨ j = 5 ∨ j = 6 ∨ j = 7) then 0 else if k = t + 7 ∧ (j = 3 ∨ j = 4) then 0 else ri M1 k j := by
    intro k j
    rw [g8, ri_wi, g7, ri_wi, g6, ri_wi, g5, ri_wi, g4, ri_wi, g3, ri_wi, g2, ri_wi]
    by_cases hk1 : k = t
    · subst hk1
      simp only [true_and, show ¬ k = k + 7 from by omega, false_and, if_false]
      split; · rw [if_pos (by omega)]
      split; · rw [if_pos (by omega)]
      split; · rw [if_pos (by omega)]
      split; · rw [if_pos (by omega)]
      split; · rw [if_pos (by omega)]
      rw [if_neg (by omega)]
    · simp only [hk1, false_and, if_false]
      split; · rw [if_pos (by omega)]
      split; · rw [if_pos (by omega)]
      rw [if_neg (by omega)]
  have l8 : ∀ k j, rl M8 k j = rl M k j := fun k j => by rw [g8, rl_wi, g7, rl_wi, g6, rl_wi, g5, rl_wi, g4, rl_wi, g3, rl_wi, g2, rl_wi, s1.2]
  have r11 : ∀ k j, ri M11 k j = if k = 1 ∧ j = 5 then 0 else if k = 1 ∧ j = 1 then -1 else if k = 1 ∧ j = 0 then 0 else ri M8 k j := by intro k j; rw [g11, ri_wi, g10, ri_wi, g9, ri_wi]
  have l11 : ∀ k j, rl M11 k j = rl M k j := fun k j => by rw [g11, rl_wi, g10, rl_wi, g9, rl_wi, l8]
  have qz : QR0 t M M11 := ⟨fun k j a b => by
    rw [r11, if_neg (by omega), if_neg (by omega), if_neg (by omega), r8, if_neg (by omega), if_neg (by omega), s1.1 k (by omega) j], fun k j _ _ => l11 k j⟩
  have t11 : TX M11 L T := ⟨by rw [qz.1 1 2 (by omega) (by omega)]; exact hT.1, fun i hi => by rw [qz.1 14 i (by omega) (by omega)]; exact hT.2 i hi⟩
  have i11 : nx (ri M11 1 3) = t := by rw [qz.1 1 3 (by omega) (by omega)]; exact h3
  have D11 : DX M11 t P0 := by
    have e : ∀ k j, k ≠ 1 → ri M11 k j = ri M8 k j := fun k j hk => by rw [r11, if_neg (by omega), if_neg (by omega), if_neg (by omega)]
    refine ⟨fun k hk => absurd hk (Nat.not_lt_zero _), F1.keepK (fun k hk j => by rw [e _ _ (by omega), r8, if_neg (by omega), if_neg (by omega)]), ?_, ?_, ?_, ?_, ?_, ?_, ?_, fun i hi => absurd hi (Nat.not_lt_zero _)⟩
    · rw [e _ _ (by omega), r8, if_pos ⟨rfl, by omega⟩]; rfl
    · rw [e _ _ (by omega), r8, if_pos ⟨rfl, by omega⟩]; rfl
    · rw [e _ _ (by omega), r8, if_pos ⟨rfl, by omega⟩]; rfl
    · rw [e _ _ (by omega), r8, if_pos ⟨rfl, by omega⟩]; rfl
    · rw [e _ _ (by omega), r8, if_pos ⟨rfl, by omega⟩]; rfl
    · rw [e _ _ (by omega), r8, if_neg (by omega), if_pos ⟨rfl, by omega⟩]; rfl
    · rw [e _ _ (by omega), r8, if_neg (by omega), if_pos ⟨rfl, by omega⟩]; rfl
  refine x_advance (d := d + 104) (a := 0) t11 hO (by rw [r11, if_neg (by omega), if_neg (by omega), if_pos ⟨rfl, rfl⟩]) (by rw [r11, if_pos ⟨rfl, rfl⟩]; rfl) (by omega) (fun M12 q12 c12 => ?_)
  have cs12 : CS M12 L T (tA T L 0) := by
    unfold tA
    by_cases h3' : tK T L 0 = 3
    · rw [if_pos h3'] at c12 ⊢; exact c12
    · rw [if_neg h3'] at c12 ⊢; exact ⟨c12, by omega, h3'⟩
  have loop : ∀ (f i : Nat) (σ : Rdg) (P : Pd) (Mk : Mem), f + i = 1602 → QR t M11 Mk → CS Mk L T σ → ((∃ a, σ = .inl a) → DX Mk t P ∧ PO P) → (∀ a, σ = .inl a → i ≤ a) → (∀ res, (∀ d', RGs d' L T σ P res) → ∀ d', RGs d' L T (tA T L 0) P0 res) → RV (d + 112) μX6_read 28 [(0, .ref 1), (1, .int (nI i))] [] Mk K := by
    intro f
    induction f with
    | zero =>
      intro i σ P Mk hf qk csk gk hi hR
      refine sg_X6_read_28 ?_
      rw [if_pos (by rw [show (1600 : Int32) = nI 1600 from rfl, nI_ltI (by omega) (by omega)]; omega)]
      cases σ with
      | inl a => have := hi a rfl; have := csk.2.1; omega
      | inr x => exact hK Mk (.inl x) (qz.trans qk.o) csk (hR (.inl x) (fun d' => RG_fault hO))
    | succ f ih =>
      intro i σ P Mk hf qk csk gk hi hR
      refine sg_X6_read_28 ?_
      cases σ with
      | inr x =>
        have fin := hK Mk (.inl x) (qz.trans qk.o) csk (hR (.inl x) (fun d' => RG_fault hO))
        by_cases h16 : 1600 < i
        · rw [if_pos (by rw [show (1600 : Int32) = nI 1600 from rfl, nI_ltI (by omega) (by omega)]; exact h16)]; exact fin
        · rw [if_neg (by rw [show (1600 : Int32) = nI 1600 from rfl, nI_ltI (by omega) (by omega)]; exact h16), if_neg (CS.f1 csk)]; exact fin
      | inl a =>
        have hia := hi a rfl
        have hal := csk.2.1
        have tk := t11.qr ht qk
        have ik := qk.into ht i11
        obtain ⟨Dk, Pk⟩ := gk ⟨a, rfl⟩
        have hSl := tS_le (T := T) hal
        rw [if_neg (by rw [show (1600 : Int32) = nI 1600 from rfl, nI_ltI (by omega) (by omega)]; omega), if_pos (CS.f0 csk), tk.1, csk.1.2.1]
        by_cases h0 : tK T L a = 0
        · have hend : L ≤ tS T L a := by
            rcases Nat.lt_or_ge (tS T L a) L with z | z
            · exfalso
              have hk1 := tK_cases T L a
              unfold tK at h0
              rw [if_neg (by omega)] at h0
              split at h0
              · split at h0 <;> cases h0
              · split at h0
                · split at h0 <;> cases h0
                · split at h0
                  · rename_i q; have := sgB_lt q; omega
                  · cases h0
            · exact z
          rw [if_pos (by rw [nI_leI (by omega) (by omega)]; exact hend)]
          refine hK Mk (.inr P) (qz.trans qk.o) ⟨CS.f0 csk, ?_, Dk, Pk⟩ (hR (.inr P) (fun d' => RG_end h0))
          rw [qk.1 1 1 (Or.inr (Or.inr (Or.inr ⟨by omega, CS.f0 csk⟩))) (by omega), r11, if_neg (by omega), if_pos ⟨rfl, rfl⟩]
        · have hend : ¬ L ≤ tS T L a := fun z => h0 (by unfold tK; rw [if_pos z])
          rw [if_neg (by rw [nI_leI (by omega) (by omega)]; exact hend), nI_1]
          -- a line is behind us
          have next : ∀ (σ' : Rdg) (P' : Pd) (M' : Mem), QR t Mk M' → CS M' L T σ' → ((∃ b, σ' = .inl b) → DX M' t P') → ((∃ b, σ' = .inl b) → PO P') → Mo (nxt T L (.inl a)) σ' → (∀ (d : Nat) (M : Mem) (K : Mem → Prop), TZ M L T → RN M L T (.inl a) → DM M P → (∀ M', QM M M' → RS M' L T σ' → ((∃ b, σ' = .inl b) → DM M' P') → K M') → CV (d + 6) μX9_readLine [.ref 58] M K) → RV (d + 112) μX6_read 28 [(0, .ref 1), (1, .int (nI (i + 1)))] [] M' K := by
            intro σ' P' M' q' c' D' p' mo line
            refine ih (i + 1) σ' P' M' (by omega) (qk.trans q') c' (fun hb => ⟨D' hb, p' hb⟩) (fun b hb => ?_) (fun res hres => hR res (fun d' => RG_step h0 line hres d'))
            have := Mo_lt h0 mo hb; omega
          have bad : ∀ (M' : Mem), QR t Mk M' → CS M' L T (blm T L 2 (.inl a)) → (isO T L 0 (.inl a) = false ∨ 8 ≤ (pN P).length) → (isO T L 1 (.inl a) = false ∨ 12 ≤ pL P) → (isO T L 2 (.inl a) = false ∨ (pG P).isSome = true) → (isO T L 3 (.inl a) = false ∨ (pT P).isSome = true) → (isO T L 4 (.inl a) = false ∨ (pD P).isSome = true) → RV (d + 112) μX6_read 28 [(0, .ref 1), (1, .int (nI (i + 1)))] [] M' K := by
            intro M' q' c' b0 b1 b2 b3 b4
            refine next (blm T L 2 (.inl a)) P M' q' c' (fun ⟨b, z⟩ => by cases z) (fun ⟨b, z⟩ => by cases z) Mo_r (fun d M K hT hn hD hK => ?_)
            exact r_lineBad hT hO hn hD Pk b0 b1 b2 b3 b4 (fun M' q c => hK M' q c (fun ⟨b, z⟩ => by cases z))
          have nO : ∀ w v, w < 14 → v < 14 → w ≠ v → isO T L w (.inl a) = true → isO T L v (.inl a) = false := fun w v hw hv hne h => isO_ne hw hv hne h
          refine x_isWord (w := 0) (by omega) csk ?_
          cases h_0 : isO T L 0 (.inl a) with
          | true =>
            rw [if_neg (by decide)]
            refine x_readLord (d := d + 101) ht ik tk hO csk Dk Pk (fun M' q' c' D' => ?_)
            by_cases hl : (pN P).length < 8
            · exact next (loS T L P (.inl a)) (loP T L P (.inl a)) M' q' c' D' (fun ⟨b, hb⟩ => PO_lo Pk hb) Mo_lo (fun d M K hT hn hD hK => r_lineLord hT hO hn hD Pk h_0 hl hK)
            · have e : loS T L P (.inl a) = blm T L 2 (.inl a) := by unfold loS; rw [if_neg hl]
              rw [e] at c'
              exact bad M' q' c' (Or.inr (by omega)) (Or.inl (nO 0 1 (by omega) (by omega) (by omega) h_0)) (Or.inl (nO 0 2 (by omega) (by omega) (by omega) h_0)) (Or.inl (nO 0 3 (by omega) (by omega) (by omega) h_0)) (Or.inl (nO 0 4 (by omega) (by omega) (by omega) h_0))
          | false =>
            rw [if_pos (by decide)]
            refine x_isWord (w := 1) (by omega) csk ?_
            cases h_1 : isO T L 1 (.inl a) with
            | true =>
              rw [if_neg (by decide)]
              refine x_readFlip (d := d + 102) ht ik tk hO csk Dk Pk (fun M' q' c' D' => ?_)
              by_cases hl : pL P < 12
              · exact next (flS T L P (.inl a)) (flP T L P (.inl a)) M' q' c' (fun hb => (D' hb).1) (fun hb => PO_fl Pk hl (D' hb).2.1 (D' hb).2.2.1 (D' hb).2.2.2) Mo_fl (fun d M K hT hn hD hK => r_lineFlip hT hO hn hD Pk h_1 hl hK)
              · have e : flS T L P (.inl a) = blm T L 2 (.inl a) := by unfold flS; rw [if_neg hl]
                rw [e] at c'
                exact bad M' q' c' (Or.inl h_0) (Or.inr (by omega)) (Or.inl (nO 1 2 (by omega) (by omega) (by omega) h_1)) (Or.inl (nO 1 3 (by omega) (by omega) (by omega) h_1)) (Or.inl (nO 1 4 (by omega) (by omega) (by omega) h_1))
            | false =>
              rw [if_pos (by decide)]
              refine x_isWord (w := 2) (by omega) csk ?_
              cases h_2 : isO T L 2 (.inl a) with
              | true =>
                rw [if_neg (by decide)]
                refine x_readGrows (d := d + 1) ht ik tk hO csk Dk (fun hg M' q' c' => ?_) (fun hg σ1 u1 c1 M' q' c' S1 g1 D' => ?_)
                · exact bad M' q' c' (Or.inl h_0) (Or.inl h_1) (Or.inr hg) (Or.inl (nO 2 3 (by omega) (by omega) (by omega) h_2)) (Or.inl (nO 2 4 (by omega) (by omega) (by omega) h_2))
                · refine next (tsS T L 59 σ1) (grP P c1 u1) M' q' c' D' (fun ⟨b, hb⟩ => ?_) ?_ (fun d M K hT hn hD hK => r_lineGrows hT hO hn hD Pk h_2 hg S1 (fun hb => ⟨(g1 hb).2.1, (g1 hb).2.2.2.1⟩) hK)
                  · obtain ⟨b1, hb1⟩ := tsS_in hb
                    obtain ⟨g11, g12, g13, g14, g15, g16, g17⟩ := g1 ⟨b1, hb1⟩
                    exact PO_gr Pk g13 g14 g15 g16 g17
                  · intro b hb
                    obtain ⟨b1, hb1⟩ := tsS_in hb
                    exact ((g1 ⟨b1, hb1⟩).1.trans Mo_ts) b hb
              | false =>
                rw [if_pos (by decide)]
                refine x_isWord (w := 3) (by omega) csk ?_
                cases h_3 : isO T L 3 (.inl a) with
                | true =>
                  rw [if_neg (by decide)]
                  refine x_readStraw (d := d + 102) ht ik tk hO csk Dk (fun M' q' c' D' => ?_)
                  cases hs : (pT P).isSome with
                  | false => exact next (stS T L P (.inl a)) (stP T L P (.inl a)) M' q' c' D' (fun _ => PO_st Pk) Mo_st (fun d M K hT hn hD hK => r_lineStraw (d := d + 2) hT hO hn hD Pk h_3 hs hK)
                  | true =>
                    have e : stS T L P (.inl a) = blm T L 2 (.inl a) := by unfold stS; rw [if_pos hs]
                    rw [e] at c'
                    exact bad M' q' c' (Or.inl h_0) (Or.inl h_1) (Or.inl h_2) (Or.inr hs) (Or.inl (nO 3 4 (by omega) (by omega) (by omega) h_3))
                | false =>
                  rw [if_pos (by decide)]
                  refine x_isWord (w := 4) (by omega) csk ?_
                  cases h_4 : isO T L 4 (.inl a) with
                  | true =>
                    rw [if_neg (by decide)]
                    refine x_readDraw (d := d + 102) ht ik tk hO csk Dk (fun M' q' c' D' => ?_)
                    cases hs : (pD P).isSome with
                    | false => exact next (drS T L P (.inl a)) (drP T L P (.inl a)) M' q' c' D' (fun _ => PO_dr Pk) Mo_dr (fun d M K hT hn hD hK => r_lineDraw (d := d + 2) hT hO hn hD Pk h_4 hs hK)
                    | true =>
                      have e : drS T L P (.inl a) = blm T L 2 (.inl a) := by unfold drS; rw [if_pos hs]
                      rw [e] at c'
                      exact bad M' q' c' (Or.inl h_0) (Or.inl h_1) (Or.inl h_2) (Or.inl h_3) (Or.inr hs)
                  | false =>
                    rw [if_pos (by decide)]
                    exact x_blm (f := 2) (by omega) csk (fun M' q' c' => bad M' q'.r c' (Or.inl h_0) (Or.inl h_1) (Or.inl h_2) (Or.inl h_3) (Or.inl h_4))
  exact loop 1602 0 (tA T L 0) P0 M12 (by omega) q12.r cs12 (fun _ => ⟨D11.qa ht q12, PO_0⟩) (fun a _ => Nat.zero_le _) (fun res h => h)
