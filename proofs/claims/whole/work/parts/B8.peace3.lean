/-! peace: the model goes through all answers in their order -/
theorem tkn_none {T : Nat → Option Nat} {p : Nat} (h : T p = none) : tkn T p = false := by unfold tkn; rw [h]
theorem tkn_some {T : Nat → Option Nat} {p u : Nat} (h : T p = some u) : tkn T p = decide (u < p) := by unfold tkn; rw [h]
theorem rwT_some {p q u : Nat} {T : Nat → Option Nat} (h : T q = some u) : rwT p T q = nI u := by unfold rwT; rw [h]
theorem rwT_none {p q : Nat} {T : Nat → Option Nat} (h : T q = none) : rwT p T q = if p ≤ q then -2 else -1 := by unfold rwT; rw [h]
theorem rwT_succ {p q : Nat} {T : Nat → Option Nat} (h : q ≠ p) : rwT (p + 1) T q = rwT p T q := by
  unfold rwT
  cases T q with
  | some u => rfl
  | none =>
    show (if p + 1 ≤ q then (-2 : Int32) else -1) = if p ≤ q then -2 else -1
    by_cases hq : p ≤ q
    · rw [if_pos (by omega), if_pos hq]
    · rw [if_neg (by omega), if_neg hq]
theorem setT_p {T : Nat → Option Nat} {p q : Nat} : setT T p q p = some q := by unfold setT; rw [if_pos rfl]
theorem setT_q {T : Nat → Option Nat} {p q : Nat} (h : q ≠ p) : setT T p q q = some p := by unfold setT; rw [if_neg h, if_pos rfl]
theorem setT_o {T : Nat → Option Nat} {p q i : Nat} (h : i ≠ p) (h2 : i ≠ q) : setT T p q i = T i := by unfold setT; rw [if_neg h, if_neg h2]
theorem cgT_s (T : Nat → Option Nat) (q : Nat) : cgT T (q + 1) = cgT T q + match T q with
    | some u => if q < u then 1 else 0
    | none => 0 := rfl
theorem Iv_up {n p w : Nat} {T : Nat → Option Nat} (h : IvT n T p w) (hT : ∀ u, T p = some u → u < p) : IvT n T (p + 1) w := by
  refine ⟨h.1, fun q u hq hu => ?_, ?_⟩
  · have := h.2.1 q u (by omega) hu; omega
  · rw [cgT_s, h.2.2]
    cases hc : T p with
    | none => rfl
    | some u => show _ = _ + (if p < u then 1 else 0); rw [if_neg (by have := hT u hc; omega)]; rfl
theorem Iv_set {n p w q : Nat} {T : Nat → Option Nat} (h : IvT n T p w) (hp : p < n) (hq : p < q) (hqn : q < n) : IvT n (setT T p q) (p + 1) (w + 1) := by
  refine ⟨fun i u hu => ?_, fun i u hi hu => ?_, ?_⟩
  · by_cases h1 : i = p
    · rw [h1, setT_p] at hu; cases hu; omega
    · by_cases h2 : i = q
      · rw [h2, setT_q (by omega)] at hu; cases hu; omega
      · rw [setT_o h1 h2] at hu; exact h.1 i u hu
  · by_cases h2 : i = q
    · rw [h2, setT_q (by omega)] at hu; cases hu; omega
    · rw [setT_o (by omega) h2] at hu; have := h.2.1 i u (by omega) hu; omega
  · rw [cgT_s, setT_p, cgT_same p (T' := T) (fun i hi => setT_o (by omega) (by omega)), ← h.2.2]
    show _ = _ + (if p < q then 1 else 0)
    rw [if_pos hq]
theorem EM.cr {M M' : Mem} {F : List Int32} {st : Nat} {S S1 : Sh} (h : EM M M') (hR : CR M F st S S1) : CR M' F st S S1 := hR.keepL h.l
theorem m_walk {d : Nat} {S : Sh} {F : List Int32} {st : Nat} {S1 : Sh} {K : Int32 → Mem → Prop} {M0 : Mem} (hR : CR M0 F st S S1) (hS : SOk S) (hN : Nx M0 S) : ∀ (r p : Nat) (T : Nat → Option Nat) (w : Nat) (b : Bst) (M : Mem), r + p = sn S → IvT (sn S) T p w → EM M0 M → RowM M (sn S) p T → LiM M (sn S) b → (∀ M', EM M0 M' → RowM M' (sn S) p T → LiM M' (sn S) (pfF S r T w b) → RI (d + 3) μX9_peace 34 [(0, .ref 58), (1, .int (pfF S r T w b).1), (2, .int (ahV T p))] [] M' K) → RI (d + 3) μX9_peace 34 [(0, .ref 58), (1, .int b.1), (2, .int (nI p))] [] M K := by
  have h8 := hS.1
  have e35 : ∀ M, EM M0 M → ri M 58 35 = nI (sn S) := fun M e => by rw [e.1 58 35 (by omega) (by omega)]; exact hR.2.2.2.1
  have eN : ∀ M, EM M0 M → Nx M S := fun M e p hp => by rw [e.1 75 p (by omega) (by omega)]; exact hN p hp
  intro r
  induction r with
  | zero =>
    intro p T w b M hp hI e0 hr hl hK
    have hp : p = sn S := by omega
    subst hp
    have hw : w ≤ sn S := by rw [hI.2.2]; exact cgT_le T _
    have hK : ∀ M', EM M0 M' → RowM M' (sn S) (sn S) T → LiM M' (sn S) (if nI w ≤ b.1 then b else (nI w, fun q => oI (T q))) → RI (d + 3) μX9_peace 34 [(0, .ref 58), (1, .int (if nI w ≤ b.1 then b else (nI w, fun q => oI (T q))).1), (2, .int (ahV T (sn S)))] [] M' K := hK
    refine sg_X9_peace_34 ?_
    rw [e35 M e0, if_neg (i_nlt.mpr (nI_nn (by omega))), if_pos rfl]
    have hT : ∀ q u, T q = some u → u < 8 := fun q u h => by have := hI.1 q u h; omega
    have loop : ∀ (k i : Nat), k + i = sn S → RI (d + 3) μX9_peace 51 [(0, .ref 58), (1, .int b.1), (2, .int (nI (sn S))), (3, .int (nI (cgT T i))), (4, .int (nI i))] [] M K := by
      intro k
      induction k with
      | zero =>
        intro i hi
        have hi : i = sn S := by omega
        subst hi
        refine sg_X9_peace_51 ?_
        rw [e35 M e0, if_pos (by rw [nI_leI (by omega) (by omega)]; omega), ← hI.2.2]
        by_cases hc : nI w ≤ b.1
        · rw [if_pos hc]
          rw [if_pos hc] at hK
          exact m_ahead (T := T) h8 hT (fun q hq => by rw [hr q hq, rwT_lt hq]) (hK M e0 hr hl)
        · rw [if_neg hc]
          rw [if_neg hc] at hK
          have copy : ∀ (k i : Nat) (M1 : Mem), k + i = sn S → EM M0 M1 → RowM M1 (sn S) (sn S) T → (∀ q, q < i → ri M1 73 q = oI (T q)) → RI (d + 3) μX9_peace 99 [(0, .ref 58), (1, .int (nI w)), (2, .int (nI (sn S))), (3, .int (nI w)), (4, .int (nI i))] [] M1 K := by
            intro k
            induction k with
            | zero =>
              intro i M1 hi e1 r1 l1
              have hi : i = sn S := by omega
              subst hi
              refine sg_X9_peace_99 ?_
              rw [e35 M1 e1, if_pos (by rw [nI_leI (by omega) (by omega)]; omega)]
              exact m_ahead (T := T) h8 hT (fun q hq => by rw [r1 q hq, rwT_lt hq]) (hK M1 e1 r1 (fun q hq => l1 q hq))
            | succ k ihk =>
              intro i M1 hi e1 r1 l1
              refine sg_X9_peace_99 ?_
              rw [e35 M1 e1, if_neg (by rw [nI_leI (by omega) (by omega)]; omega), nI_1, show nx (nI i) = i from nI_clamp (by omega)]
              refine ⟨n_in (by omega) (by decide), n_in (by omega) (by decide), fun M2 g2 => ?_⟩
              have r2 : ∀ k j, ri M2 k j = if k = 73 ∧ j = i then ri M1 74 i else ri M1 k j := by intro k j; rw [g2, ri_wi]
              refine ihk (i + 1) M2 (by omega) (e1.trans (by rw [g2]; exact em_w73)) (fun q hq => by rw [r2, if_neg (by omega)]; exact r1 q hq) (fun q hq => ?_)
              rw [r2]
              by_cases hqi : q = i
              · rw [if_pos ⟨rfl, hqi⟩, hqi, r1 i (by omega), rwT_lt (by omega)]
              · rw [if_neg (fun z => hqi z.2)]; exact l1 q (by omega)
          exact copy (sn S) 0 M (by omega) e0 hr (fun q hq => absurd hq (Nat.not_lt_zero _))
      | succ k ihk =>
        intro i hi
        have hnx := ihk (i + 1) (by omega)
        rw [cgT_s] at hnx
        have hci := cgT_le T i
        refine sg_X9_peace_51 ?_
        rw [e35 M e0, if_neg (by rw [nI_leI (by omega) (by omega)]; omega), show nI i + 1 = nI (i + 1) by rw [nI_1], show nx (nI i) = i from nI_clamp (by omega), hr i (by omega), rwT_lt (by omega)]
        refine ⟨n_in (by omega) (by decide), ?_⟩
        cases hTi : T i with
        | none =>
          rw [hTi] at hnx
          rw [if_pos (by show (-1 : Int32) ≤ nI i; exact Int32.le_trans (by decide) (nI_nn (by omega)))]
          refine r_truth (b := false) ?_
          show RI (d + 3) μX9_peace 51 [(0, .ref 58), (1, .int b.1), (2, .int (nI (sn S))), (3, .int (nI (cgT T i) + 0)), (4, .int (nI (i + 1)))] [] M K
          rw [Int32.add_zero]
          exact hnx
        | some u =>
          have hu := hI.1 i u hTi
          rw [hTi] at hnx
          have hnx : RI (d + 3) μX9_peace 51 [(0, .ref 58), (1, .int b.1), (2, .int (nI (sn S))), (3, .int (nI (cgT T i + if i < u then 1 else 0))), (4, .int (nI (i + 1)))] [] M K := hnx
          by_cases hc : i < u
          · rw [if_neg (by show ¬ nI u ≤ nI i; rw [nI_leI (by omega) (by omega)]; omega)]
            refine r_truth (b := true) ?_
            show RI (d + 3) μX9_peace 51 [(0, .ref 58), (1, .int b.1), (2, .int (nI (sn S))), (3, .int (nI (cgT T i) + 1)), (4, .int (nI (i + 1)))] [] M K
            rw [if_pos hc] at hnx
            rw [nI_1]; exact hnx
          · rw [if_pos (by show nI u ≤ nI i; rw [nI_leI (by omega) (by omega)]; omega)]
            refine r_truth (b := false) ?_
            show RI (d + 3) μX9_peace 51 [(0, .ref 58), (1, .int b.1), (2, .int (nI (sn S))), (3, .int (nI (cgT T i) + 0)), (4, .int (nI (i + 1)))] [] M K
            rw [if_neg hc] at hnx
            rw [Int32.add_zero]; exact hnx
    exact loop (sn S) 0 (by omega)
  | succ r ih =>
    intro p T w b M hp hI e0 hr hl hK
    have ep : sn S - (r + 1) = p := by omega
    have hpn : p < sn S := by omega
    have hT : ∀ q u, T q = some u → u < 8 := fun q u h => by have := hI.1 q u h; omega
    have ne35 : ∀ q, q < sn S → ¬ nI q = nI (sn S) := fun q hq z => by have := nI_inj (by omega) (by omega) z; omega
    have xp : nx (nI p) = p := nI_clamp (by omega)
    refine sg_X9_peace_34 ?_
    rw [e35 M e0, if_neg (i_nlt.mpr (nI_nn (by omega))), if_neg (ne35 p hpn), nI_1, xp]
    cases hTp : T p with
    | some u =>
      have ef : pfF S (r + 1) T w b = pfF S r T w b := by
        conv => lhs; unfold pfF
        rw [ep, hTp]
      rw [ef] at hK
      have hup := hI.2.1 p u (Nat.le_refl _) hTp
      have htk : tkn T p = true := by rw [tkn_some hTp]; exact decide_eq_true hup
      refine m_isTaken (T := T) (by omega) (fun u h => hT p u h) (Or.inl (by rw [hr p hpn, rwT_some hTp, hTp]; rfl)) ?_
      rw [htk, if_neg (by decide)]
      refine ih (p + 1) T w b M (by omega) (Iv_up hI (fun v hv => by rw [hTp] at hv; cases hv; exact hup)) e0 (fun q hq => ?_) hl (fun M1 e1 r1 l1 => ?_)
      · by_cases hqp : q = p
        · rw [hqp, hr p hpn, rwT_some hTp, rwT_some hTp]
        · rw [rwT_succ hqp]; exact hr q hq
      · have ha : ahV T (p + 1) = ahV T p := by show (if tkn T p = true then ahV T p else nI p) = _; rw [htk, if_pos rfl]
        rw [ha]
        refine hK M1 e1 (fun q hq => ?_) l1
        by_cases hqp : q = p
        · rw [hqp, r1 p hpn, rwT_some hTp, rwT_some hTp]
        · rw [r1 q hq, rwT_succ hqp]
    | none =>
      have ef : pfF S (r + 1) T w b = pfF S r T w (pfL (sn S) (fun q => (nbm (sc S) p).testBit q) T (fun q b => pfF S r (setT T p q) (w + 1) b) r b) := by
        conv => lhs; unfold pfF
        rw [ep, hTp]
      rw [ef] at hK
      have htk : tkn T p = false := tkn_none hTp
      have hrow : ri M 74 p = -2 := by rw [hr p hpn, rwT_none hTp, if_pos (Nat.le_refl _)]
      have ch : ∀ (k q : Nat) (x3 : Int32) (b1 : Bst) (M1 : Mem), k + q = sn S → p < q → ((x3 = -2 ∧ q = p + 1) ∨ ∃ q0, x3 = nI q0 ∧ q = q0 + 1) → EM M0 M1 → (∀ i, i < sn S → i ≠ p → ri M1 74 i = rwT p T i) → LiM M1 (sn S) b1 → pfL (sn S) (fun q => (nbm (sc S) p).testBit q) T (fun q b => pfF S r (setT T p q) (w + 1) b) k b1 = pfL (sn S) (fun q => (nbm (sc S) p).testBit q) T (fun q b => pfF S r (setT T p q) (w + 1) b) r b → RI (d + 3) μX9_peace 170 [(0, .ref 58), (1, .int b1.1), (2, .int (nI p)), (3, .int x3)] [] M1 K := by
        intro k
        induction k using Nat.strongRecOn with
        | ind k ihk =>
          intro q x3 b1 M1 hkq hpq hx e1 r1 l1 he
          have nc : ∀ (K' : Int32 → Mem → Prop), K' (oI (nxT (sn S) (fun q => (nbm (sc S) p).testBit q) T k)) M1 → CI (d + 2) μX9_nextChoice [.ref 58, .int (nI p), .int x3] M1 K' := by
            intro K' hK'
            refine sg_X9_nextChoice_0 ?_
            rcases hx with ⟨h1, h2⟩ | ⟨q0, h1, h2⟩
            · rw [h1, if_neg (by decide), if_pos rfl, nI_1, ← h2]
              exact m_next hS (e35 M1 e1) (eN M1 e1) hpn hT (fun i hi hin => r1 i hin (by omega)) k q hkq hpq hK'
            · have hq0 : (0 : Int32) ≤ nI q0 := nI_nn (by omega)
              rw [h1, if_neg (fun z => by rw [z] at hq0; exact absurd hq0 (by decide)), if_neg (fun z => by rw [z] at hq0; exact absurd hq0 (by decide)), nI_1, ← h2]
              exact m_next hS (e35 M1 e1) (eN M1 e1) hpn hT (fun i hi hin => r1 i hin (by omega)) k q hkq hpq hK'
          refine sg_X9_peace_170 (nc _ ?_)
          rw [xp]
          cases hn : nxT (sn S) (fun q => (nbm (sc S) p).testBit q) T k with
          | none =>
            rw [nxT_none k b1 hn] at he
            refine ⟨n_in (by omega) (by decide), fun M3 g3 => ⟨n_in (by omega) (by decide), ?_⟩⟩
            have r3 : ∀ k j, ri M3 k j = if k = 74 ∧ j = p then -1 else ri M1 k j := by intro k j; rw [g3, ri_wi]; rfl
            have e3 : EM M0 M3 := e1.trans (by rw [g3]; exact em_w74)
            have h74 : ri M3 74 p = -1 := by rw [r3, if_pos ⟨rfl, rfl⟩]
            rw [h74, if_pos (by decide)]
            refine sg_X9_peace_203 ?_
            rw [xp, h74, if_neg (by decide), nI_1]
            refine ⟨n_in (by omega) (by decide), ?_⟩
            refine ih (p + 1) T w b1 M3 (by omega) (Iv_up hI (fun v hv => by rw [hTp] at hv; cases hv)) e3 (fun i hi => ?_) (fun i hi => by rw [r3, if_neg (by omega)]; exact l1 i hi) (fun M4 e4 r4 l4 => ?_)
            · by_cases hip : i = p
              · rw [hip, h74, rwT_none hTp, if_neg (by omega)]
              · rw [rwT_succ hip, r3, if_neg (fun z => hip z.2)]; exact r1 i hi hip
            · have ha : ahV T (p + 1) = nI p := by show (if tkn T p = true then ahV T p else nI p) = _; rw [htk, if_neg (by decide)]
              rw [ha]
              have h4 : ri M4 74 p = -1 := by rw [r4 p hpn, rwT_none hTp, if_neg (by omega)]
              refine sg_X9_peace_34 ?_
              rw [e35 M4 e4, if_neg (i_nlt.mpr (nI_nn (by omega))), if_neg (ne35 p hpn), xp]
              refine m_isTaken (T := T) (by omega) (fun u h => hT p u h) (Or.inl (by rw [h4, hTp]; rfl)) ?_
              rw [htk, if_pos (by decide), h4, if_pos (by decide)]
              refine ⟨n_in (by omega) (by decide), ?_⟩
              refine sg_X9_peace_170 (sg_X9_nextChoice_0 ?_)
              rw [if_pos rfl, xp]
              refine ⟨n_in (by omega) (by decide), fun M5 g5 => ⟨n_in (by omega) (by decide), ?_⟩⟩
              have r5 : ∀ k j, ri M5 k j = if k = 74 ∧ j = p then -2 else ri M4 k j := by intro k j; rw [g5, ri_wi]
              have h5 : ri M5 74 p = -2 := by rw [r5, if_pos ⟨rfl, rfl⟩]
              rw [h5, if_pos (by decide)]
              refine sg_X9_peace_203 ?_
              rw [xp, h5, if_pos rfl]
              refine ⟨n_in (by omega) (by decide), ?_⟩
              rw [← he] at hK
              refine m_ahead (T := T) (by omega) hT (fun i hi => ?_) (hK M5 (e4.trans (by rw [g5]; exact em_w74)) (fun i hi => ?_) (fun i hi => by rw [r5, if_neg (by omega)]; exact l4 i hi))
              · rw [r5, if_neg (by omega), r4 i (by omega), rwT_lt (by omega)]
              · by_cases hip : i = p
                · rw [hip, h5, rwT_none hTp, if_pos (Nat.le_refl _)]
                · rw [r5, if_neg (fun z => hip z.2), r4 i hi, rwT_succ hip]
          | some q1 =>
            obtain ⟨a1, a2, a3, a4, a5⟩ := nxT_some (g := fun q b => pfF S r (setT T p q) (w + 1) b) k b1 (by omega) hn
            rw [a5] at he
            have xq : nx (nI q1) = q1 := nI_clamp (by omega)
            refine ⟨n_in (by omega) (by decide), fun M3 g3 => ⟨n_in (by omega) (by decide), ?_⟩⟩
            have r3 : ∀ k j, ri M3 k j = if k = 74 ∧ j = p then nI q1 else ri M1 k j := by intro k j; rw [g3, ri_wi]; rfl
            have e3 : EM M0 M3 := e1.trans (by rw [g3]; exact em_w74)
            have h74 : ri M3 74 p = nI q1 := by rw [r3, if_pos ⟨rfl, rfl⟩]
            rw [h74, if_neg (i_nlt.mpr (nI_nn (by omega))), xq]
            refine ⟨n_in (by omega) (by decide), n_in (by omega) (by decide), fun M4 g4 => ?_⟩
            have r4 : ∀ k j, ri M4 k j = if k = 74 ∧ j = q1 then nI p else ri M3 k j := by intro k j; rw [g4, ri_wi]
            have e4 : EM M0 M4 := e3.trans (by rw [g4]; exact em_w74)
            have h4 : ri M4 74 p = nI q1 := by rw [r4, if_neg (by omega)]; exact h74
            have m2 : ∀ x : Nat, x < 8 → ¬ nI x = (-2 : Int32) := fun x hx z => by have := nI_nn (v := x) (by omega); rw [z] at this; exact absurd this (by decide)
            refine sg_X9_peace_203 ?_
            rw [xp, h4, if_neg (m2 q1 (by omega)), nI_1]
            refine ⟨n_in (by omega) (by decide), ?_⟩
            refine ih (p + 1) (setT T p q1) (w + 1) b1 M4 (by omega) (Iv_set hI hpn (by omega) a2) e4 (fun i hi => ?_) (fun i hi => by rw [r4, if_neg (by omega), r3, if_neg (by omega)]; exact l1 i hi) (fun M5 e5 r5 l5 => ?_)
            · by_cases hip : i = p
              · rw [hip, h4, rwT_some setT_p]
              · by_cases hiq : i = q1
                · rw [hiq, r4, if_pos ⟨rfl, rfl⟩, rwT_some (setT_q (by omega))]
                · rw [rwT_succ hip, r4, if_neg (fun z => hiq z.2), r3, if_neg (fun z => hip z.2), r1 i hi hip]
                  unfold rwT
                  rw [setT_o hip hiq]
            · have htk2 : tkn (setT T p q1) p = false := by rw [tkn_some setT_p]; exact decide_eq_false (by omega)
              have ha : ahV (setT T p q1) (p + 1) = nI p := by show (if tkn (setT T p q1) p = true then ahV (setT T p q1) p else nI p) = _; rw [htk2, if_neg (by decide)]
              rw [ha]
              have h5 : ri M5 74 p = nI q1 := by rw [r5 p hpn, rwT_some setT_p]
              refine sg_X9_peace_34 ?_
              rw [e35 M5 e5, if_neg (i_nlt.mpr (nI_nn (by omega))), if_neg (ne35 p hpn), xp]
              refine m_isTaken (T := setT T p q1) (by omega) (fun u h => by rw [setT_p] at h; cases h; omega) (Or.inl (by rw [h5, setT_p]; rfl)) ?_
              rw [htk2, if_pos (by decide), h5, if_neg (i_nlt.mpr (nI_nn (by omega))), xq]
              refine ⟨n_in (by omega) (by decide), n_in (by omega) (by decide), fun M6 g6 => ?_⟩
              have r6 : ∀ k j, ri M6 k j = if k = 74 ∧ j = q1 then -2 else ri M5 k j := by intro k j; rw [g6, ri_wi]
              refine ihk (sn S - (q1 + 1)) (by omega) (q1 + 1) (nI q1) _ M6 (by omega) (by omega) (Or.inr ⟨q1, rfl, rfl⟩) (e5.trans (by rw [g6]; exact em_w74)) (fun i hi hip => ?_) (fun i hi => by rw [r6, if_neg (by omega)]; exact l5 i hi) he
              rw [r6]
              by_cases hiq : i = q1
              · rw [if_pos ⟨rfl, hiq⟩, hiq, rwT_none a4, if_pos (by omega)]
              · rw [if_neg (fun z => hiq z.2), r5 i hi, rwT_succ hip]
                unfold rwT
                rw [setT_o hip hiq]
      refine m_isTaken (T := T) (by omega) (fun u h => hT p u h) (Or.inr ⟨hTp, by rw [hrow]; decide⟩) ?_
      rw [htk, if_pos (by decide), hrow, if_pos (by decide)]
      refine ⟨n_in (by omega) (by decide), ?_⟩
      exact ch r (p + 1) (-2) b M (by omega) (by omega) (Or.inl ⟨rfl, rfl⟩) e0 (fun i hi _ => hr i hi) hl rfl
theorem m_peace {d : Nat} {M : Mem} {K : Int32 → Mem → Prop} {F : List Int32} {st : Nat} {S S1 : Sh} (hR : CR M F st S S1) (hS : SOk S) (hK : ∀ M', QL 1 M M' → LyM M' (pcL S) → K (pcB S).1 M') : CI (d + 3) μX9_peace [.ref 58] M K := by
  have h8 := hS.1
  refine sg_X9_peace_0 ?_
  refine r_fillS hR hS (fun M1 q1 a1 c1 => ?_)
  refine r_layNexts hS c1 a1 (fun M2 q2 a2 c2 n2 => ?_)
  have init : ∀ (r j : Nat) (M3 : Mem), r + j = 8 → EM M2 M3 → (∀ i, i < j → ri M3 74 i = -2) → RI (d + 3) μX9_peace 10 [(0, .ref 58), (1, .int (nI j))] [] M3 K := by
    intro r
    induction r with
    | zero =>
      intro j M3 hj e3 hn
      have hj : j = 8 := by omega
      subst hj
      refine sg_X9_peace_10 ?_
      rw [if_pos (by decide)]
      refine m_walk (b := (-1, fun q => ri M3 73 q)) c2 hS n2 (sn S) 0 (fun _ => none) 0 M3 rfl ⟨fun q u h => (by cases h), fun q u _ h => (by cases h), rfl⟩ e3 (fun q hq => hn q (by omega)) (fun q hq => rfl) (fun M4 e4 r4 l4 => ?_)
      rw [pf_same S (sn S) (fun _ => none) 0 (by omega) _ (fun _ => 0)] at l4 ⊢
      refine sg_X9_peace_34 ?_
      rw [if_pos (by decide)]
      intro M5 g5
      rw [show ri M4 58 35 = nI (sn S) by rw [e4.1 58 35 (by omega) (by omega)]; exact c2.2.2.2.1] at g5
      have r5 : ∀ k j, ri M5 k j = if k = 58 ∧ j = 45 then nI (sn S) else ri M4 k j := by intro k j; rw [g5, ri_wi]
      have ll : (pcL S).length = sn S := by unfold pcL; simp
      refine hK M5 (((q1.trans q2).l.trans e4.l).trans (by rw [g5]; exact QL.w58)) ⟨by rw [ll, r5, if_pos ⟨rfl, rfl⟩], fun i hi => ?_⟩
      rw [ll] at hi
      rw [r5, if_neg (by omega), l4 i hi, pcL_at hi]; rfl
    | succ r ih =>
      intro j M3 hj e3 hn
      refine sg_X9_peace_10 ?_
      rw [if_neg (by rw [show (8 : Int32) = nI 8 from rfl, nI_leI (by omega) (by omega)]; omega), nI_1, show nx (nI j) = j from nI_clamp (by omega)]
      refine ⟨n_in (by omega) (by decide), fun M4 g4 => ?_⟩
      refine ih (j + 1) M4 (by omega) (e3.trans (by rw [g4]; exact em_w74)) (fun i hi => ?_)
      rw [g4, ri_wi]
      by_cases hij : i = j
      · rw [if_pos ⟨rfl, hij⟩]
      · rw [if_neg (fun q => hij q.2)]; exact hn i (by omega)
  exact init 8 0 M2 rfl EM.rf (fun i hi => absurd hi (Nat.not_lt_zero _))
