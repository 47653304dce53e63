/-! peace: the most walls of which none share a lord: the numbers, the class -/
abbrev Bst : Type := Int32 × (Nat → Int32)
def setT (T : Nat → Option Nat) (p q : Nat) : Nat → Option Nat := fun i => if i = p then some q else if i = q then some p else T i
def pfL (n : Nat) (nb : Nat → Bool) (T : Nat → Option Nat) (g : Nat → Bst → Bst) : Nat → Bst → Bst
  | 0, b => b
  | k + 1, b => pfL n nb T g k (if nb (n - (k + 1)) = true ∧ T (n - (k + 1)) = none then g (n - (k + 1)) b else b)
def pfF (S : Sh) : Nat → (Nat → Option Nat) → Nat → Bst → Bst
  | 0, T, w, b => if nI w ≤ b.1 then b else (nI w, fun q => oI (T q))
  | r + 1, T, w, b => match T (sn S - (r + 1)) with
    | some _ => pfF S r T w b
    | none => pfF S r T w (pfL (sn S) (fun q => (nbm (sc S) (sn S - (r + 1))).testBit q) T (fun q b => pfF S r (setT T (sn S - (r + 1)) q) (w + 1) b) r b)
theorem pfL_at {n : Nat} {nb : Nat → Bool} {T : Nat → Option Nat} {g : Nat → Bst → Bst} {k q : Nat} {b : Bst} (e : k + 1 + q = n) : pfL n nb T g (k + 1) b = pfL n nb T g k (if nb q = true ∧ T q = none then g q b else b) := by
  show pfL n nb T g k (if nb (n - (k + 1)) = true ∧ T (n - (k + 1)) = none then g (n - (k + 1)) b else b) = _
  rw [show n - (k + 1) = q by omega]
theorem pf_nn (S : Sh) : ∀ (r : Nat) (T : Nat → Option Nat) (w : Nat) (b : Bst), w < 2 ^ 31 → (0 : Int32) ≤ (pfF S r T w b).1
  | 0, T, w, b, hw => by
    show (0 : Int32) ≤ (if nI w ≤ b.1 then b else (nI w, fun q => oI (T q))).1
    split
    · rename_i h; exact Int32.le_trans (nI_nn hw) h
    · exact nI_nn hw
  | r + 1, T, w, b, hw => by
    unfold pfF
    split
    · exact pf_nn S r T w b hw
    · exact pf_nn S r T w _ hw
/-- what was written before the first answer matters to nobody -/
def Rb (b b' : Bst) : Prop := b.1 = b'.1 ∧ (b.1 = -1 ∨ b.2 = b'.2)
theorem pfL_R {n : Nat} {nb : Nat → Bool} {T : Nat → Option Nat} {g : Nat → Bst → Bst} (hg : ∀ q b b', Rb b b' → Rb (g q b) (g q b')) : ∀ (k : Nat) (b b' : Bst), Rb b b' → Rb (pfL n nb T g k b) (pfL n nb T g k b')
  | 0, _, _, h => h
  | k + 1, b, b', h => by
    show Rb (pfL n nb T g k (if nb (n - (k + 1)) = true ∧ T (n - (k + 1)) = none then g (n - (k + 1)) b else b)) (pfL n nb T g k (if nb (n - (k + 1)) = true ∧ T (n - (k + 1)) = none then g (n - (k + 1)) b' else b'))
    apply pfL_R hg k
    split
    · exact hg _ b b' h
    · exact h
theorem pf_R (S : Sh) : ∀ (r : Nat) (T : Nat → Option Nat) (w : Nat) (b b' : Bst), Rb b b' → Rb (pfF S r T w b) (pfF S r T w b')
  | 0, T, w, b, b', h => by
    show Rb (if nI w ≤ b.1 then b else (nI w, fun q => oI (T q))) (if nI w ≤ b'.1 then b' else (nI w, fun q => oI (T q)))
    rw [← h.1]
    split
    · exact h
    · exact ⟨rfl, Or.inr rfl⟩
  | r + 1, T, w, b, b', h => by
    unfold pfF
    split
    · exact pf_R S r T w b b' h
    · exact pf_R S r T w _ _ (pfL_R (fun q b b' hb => pf_R S r (setT T (sn S - (r + 1)) q) (w + 1) b b' hb) r b b' h)
theorem pf_same (S : Sh) (r : Nat) (T : Nat → Option Nat) (w : Nat) (hw : w < 2 ^ 31) (A A' : Nat → Int32) : pfF S r T w (-1, A) = pfF S r T w (-1, A') := by
  have h := pf_R S r T w (-1, A) (-1, A') ⟨rfl, Or.inl rfl⟩
  have nn := pf_nn S r T w (-1, A) hw
  rcases h.2 with q | q
  · rw [q] at nn; exact absurd nn (by decide)
  · exact Prod.ext h.1 q
def E4 (M M' : Mem) : Prop := (∀ k j, k ≠ 42 → k ≠ 43 → k ≠ 44 → ri M' k j = ri M k j) ∧ ∀ k j, rl M' k j = rl M k j
theorem E4.rf {M : Mem} : E4 M M := ⟨fun _ _ _ _ _ => rfl, fun _ _ => rfl⟩
theorem E4.trans {M M' M'' : Mem} (h : E4 M M') (h2 : E4 M' M'') : E4 M M'' := ⟨fun k j a b c => (h2.1 k j a b c).trans (h.1 k j a b c), fun k j => (h2.2 k j).trans (h.2 k j)⟩
theorem E4.fr {M M' : Mem} {S : Sh} (h : Fr M 27 S) (q : E4 M M') : Fr M' 27 S := h.keepK (fun k hk j => q.1 _ _ (by omega) (by omega) (by omega))
theorem E4.q {M M' : Mem} (h : E4 M M') : Q M M' := ⟨fun k j a _ => h.1 k j (scr_ne a rfl) (scr_ne a rfl) (scr_ne a rfl), h.2⟩
theorem e4_w42 {M : Mem} {j : Nat} {x : Int32} : E4 M (wi M 42 j x) := ⟨fun k j a _ _ => by rw [ri_wi, if_neg (fun q => a q.1)], fun _ _ => rfl⟩
theorem e4_w43 {M : Mem} {j : Nat} {x : Int32} : E4 M (wi M 43 j x) := ⟨fun k j _ a _ => by rw [ri_wi, if_neg (fun q => a q.1)], fun _ _ => rfl⟩
theorem e4_w44 {M : Mem} {j : Nat} {x : Int32} : E4 M (wi M 44 j x) := ⟨fun k j _ _ a => by rw [ri_wi, if_neg (fun q => a q.1)], fun _ _ => rfl⟩
def TrX (M : Mem) (T : Nat → Option Nat) : Prop := ∀ q, q < 8 → ri M 44 q = oI (T q)
def BsX (M : Mem) (n : Nat) (b : Bst) : Prop := ri M 42 2 = b.1 ∧ ∀ q, q < n → ri M 43 q = b.2 q
theorem oI_ne {u : Nat} (h : u < 2 ^ 31) : ¬ oI (some u) = -1 := by
  show ¬ nI u = -1
  intro q
  have : (0 : Int32) ≤ -1 := by rw [← q]; exact nI_nn h
  exact absurd this (by decide)
theorem x_pair {d : Nat} {S : Sh} : ∀ (r p : Nat) (T : Nat → Option Nat) (w : Nat) (b : Bst) (M : Mem) (K : Mem → Prop), r + p = sn S → w + r < 100 → Fr M 27 S → TrX M T → (∀ q u, T q = some u → u < 8) → BsX M (sn S) b → (∀ M', E4 M M' → TrX M' T → BsX M' (sn S) (pfF S r T w b) → K M') → CV (d + r + 2) μX5_pairFrom [.ref 42, .ref 27, .int (nI p), .int (nI w)] M K := by
  intro r
  induction r with
  | zero =>
    intro p T w b M K hp hw hF hT hTu hB hK
    have h8 := hF.2.2.1
    have hp : p = sn S := by omega
    subst hp
    have hK : ∀ M', E4 M M' → TrX M' T → BsX M' (sn S) (if nI w ≤ b.1 then b else (nI w, fun q => oI (T q))) → K M' := hK
    refine sg_X5_pairFrom_0 (by decide +kernel) ?_
    rw [hF.1.1, if_pos (by rw [nI_leI (by omega) (by omega)]; omega), hB.1]
    by_cases hc : nI w ≤ b.1
    · rw [if_pos hc]; rw [if_pos hc] at hK; exact hK M E4.rf hT hB
    · rw [if_neg hc]
      rw [if_neg hc] at hK
      intro M1 g1
      have r1 : ∀ k j, ri M1 k j = if k = 42 ∧ j = 2 then nI w else ri M k j := by intro k j; rw [g1, ri_wi]
      have loop : ∀ (k i : Nat) (M2 : Mem), k + i = 8 → E4 M M2 → TrX M2 T → ri M2 42 2 = nI w → (∀ q, q < i → ri M2 43 q = oI (T q)) → RV (d + 0 + 2) μX5_pairFrom 30 [(0, .ref 42), (1, .ref 27), (2, .int (nI (sn S))), (3, .int (nI w)), (4, .int (nI i))] [] M2 K := by
        intro k
        induction k with
        | zero =>
          intro i M2 hi e2 t2 h42 h43
          have hi : i = 8 := by omega
          subst hi
          refine sg_X5_pairFrom_30 (by decide +kernel) ?_
          rw [if_pos (by decide)]
          exact hK M2 e2 t2 ⟨h42, fun q hq => h43 q (by omega)⟩
        | succ k ihk =>
          intro i M2 hi e2 t2 h42 h43
          refine sg_X5_pairFrom_30 (by decide +kernel) ?_
          rw [if_neg (by rw [show (8 : Int32) = nI 8 from rfl, nI_leI (by omega) (by omega)]; omega), nI_1, show nx (nI i) = i from nI_clamp (by omega)]
          refine ⟨n_in (by omega) (by decide), n_in (by omega) (by decide), fun M3 g3 => ?_⟩
          have r3 : ∀ k j, ri M3 k j = if k = 43 ∧ j = i then ri M2 44 i else ri M2 k j := by intro k j; rw [g3, ri_wi]
          refine ihk (i + 1) M3 (by omega) (e2.trans (by rw [g3]; exact e4_w43)) (fun q hq => by rw [r3, if_neg (by omega)]; exact t2 q hq) (by rw [r3, if_neg (by omega)]; exact h42) (fun q hq => ?_)
          rw [r3]
          by_cases hqi : q = i
          · rw [if_pos ⟨rfl, hqi⟩, hqi]; exact t2 i (by omega)
          · rw [if_neg (fun z => hqi z.2)]; exact h43 q (by omega)
      exact loop 8 0 M1 rfl (by rw [g1]; exact e4_w42) (fun q hq => by rw [r1, if_neg (by omega)]; exact hT q hq) (by rw [r1, if_pos ⟨rfl, rfl⟩]) (fun q hq => absurd hq (Nat.not_lt_zero _))
  | succ r ih =>
    intro p T w b M K hp hw hF hT hTu hB hK
    have hS := hF.2.2
    have h8 := hS.1
    have ep : sn S - (r + 1) = p := by omega
    refine sg_X5_pairFrom_0 (by decide +kernel) ?_
    rw [hF.1.1, if_neg (by rw [nI_leI (by omega) (by omega)]; omega), if_pos (by rw [show (8 : Int32) = nI 8 from rfl, nI_ltI (by omega) (by omega)]; omega), show nx (nI p) = p from nI_clamp (by omega), hT p (by omega), nI_1]
    refine ⟨n_in (by omega) (by decide), ?_⟩
    cases hTp : T p with
    | some u =>
      have ef : pfF S (r + 1) T w b = pfF S r T w b := by
        conv => lhs; unfold pfF
        rw [ep, hTp]
      rw [ef] at hK
      rw [if_neg (oI_ne (by have := hTu p u hTp; omega))]
      exact ih (p + 1) T w b M K (by omega) (by omega) hF hT hTu hB hK
    | none =>
      have ef : pfF S (r + 1) T w b = pfF S r T w (pfL (sn S) (fun q => (nbm (sc S) p).testBit q) T (fun q b => pfF S r (setT T p q) (w + 1) b) r b) := by
        conv => lhs; unfold pfF
        rw [ep, hTp]
      rw [ef] at hK
      rw [if_pos (by rfl)]
      have loop : ∀ (k q : Nat) (b1 : Bst) (M1 : Mem), k + q = sn S → p < q → E4 M M1 → TrX M1 T → BsX M1 (sn S) b1 → pfL (sn S) (fun q => (nbm (sc S) p).testBit q) T (fun q b => pfF S r (setT T p q) (w + 1) b) k b1 = pfL (sn S) (fun q => (nbm (sc S) p).testBit q) T (fun q b => pfF S r (setT T p q) (w + 1) b) r b → RV (d + (r + 1) + 2) μX5_pairFrom 83 [(0, .ref 42), (1, .ref 27), (2, .int (nI p)), (3, .int (nI w)), (4, .int (nI q))] [] M1 K := by
        intro k
        induction k with
        | zero =>
          intro q b1 M1 hq hpq e1 t1 bs1 he
          have hq : q = sn S := by omega
          subst hq
          refine sg_X5_pairFrom_83 (by decide +kernel) ?_
          rw [(E4.fr hF e1).1.1, if_pos (by rw [nI_leI (by omega) (by omega)]; omega), nI_1]
          have he : b1 = pfL (sn S) (fun q => (nbm (sc S) p).testBit q) T (fun q b => pfF S r (setT T p q) (w + 1) b) r b := he
          refine ih (p + 1) T w b1 M1 _ (by omega) (by omega) (E4.fr hF e1) t1 hTu bs1 (fun M2 e2 t2 bs2 => ?_)
          rw [he] at bs2
          exact hK M2 (e1.trans e2) t2 bs2
        | succ k ihk =>
          intro q b1 M1 hq hpq e1 t1 bs1 he
          have f1 := E4.fr hF e1
          rw [pfL_at (show k + 1 + q = sn S by omega)] at he
          refine sg_X5_pairFrom_83 (by decide +kernel) ?_
          rw [f1.1.1, if_neg (by rw [nI_leI (by omega) (by omega)]; omega), show nx (nI q) = q from nI_clamp (by omega), show nx (nI p) = p from nI_clamp (by omega), t1 q (by omega)]
          rw [show nI q + 1 = nI (q + 1) by rw [nI_1], show nI p + 1 = nI (p + 1) by rw [nI_1], show nI w + 1 = nI (w + 1) by rw [nI_1]]
          refine ⟨n_in (by omega) (by decide), ?_⟩
          have skip : ¬ ((nbm (sc S) p).testBit q = true ∧ T q = none) → RV (d + (r + 1) + 2) μX5_pairFrom 83 [(0, .ref 42), (1, .ref 27), (2, .int (nI p)), (3, .int (nI w)), (4, .int (nI (q + 1)))] [] M1 K := by
            intro hn
            rw [if_neg hn] at he
            exact ihk (q + 1) b1 M1 (by omega) (by omega) e1 t1 bs1 he
          cases hTq : T q with
          | some u =>
            rw [if_neg (oI_ne (by have := hTu q u hTq; omega))]
            exact skip (fun z => by rw [hTq] at z; cases z.2)
          | none =>
            rw [if_pos (by rfl)]
            refine c_meets (by decide +kernel) f1 ?_
            rw [mtI_nat hS (by omega) (by omega)]
            cases hb : (nbm (sc S) p).testBit q with
            | false => rw [if_pos (by decide)]; exact skip (fun z => by rw [hb] at z; cases z.1)
            | true =>
              rw [if_neg (by decide)]
              rw [if_pos ⟨hb, hTq⟩] at he
              refine ⟨n_in (by omega) (by decide), fun M4 g4 => ⟨n_in (by omega) (by decide), fun M5 g5 => ?_⟩⟩
              have r4 : ∀ k j, ri M4 k j = if k = 44 ∧ j = p then nI q else ri M1 k j := by intro k j; rw [g4, ri_wi]
              have r5 : ∀ k j, ri M5 k j = if k = 44 ∧ j = q then nI p else ri M4 k j := by intro k j; rw [g5, ri_wi]
              have e5 : E4 M M5 := (e1.trans (show E4 M1 M4 by rw [g4]; exact e4_w44)).trans (by rw [g5]; exact e4_w44)
              refine ih (p + 1) (setT T p q) (w + 1) b1 M5 _ (by omega) (by omega) (E4.fr hF e5) (fun i hi => ?_) (fun i u hiu => ?_) ⟨by rw [r5, if_neg (by omega), r4, if_neg (by omega)]; exact bs1.1, fun i hi => by rw [r5, if_neg (by omega), r4, if_neg (by omega)]; exact bs1.2 i hi⟩ (fun M6 e6 t6 bs6 => ?_)
              · rw [r5, r4]
                unfold setT
                by_cases hip : i = p
                · rw [if_neg (by omega), if_pos ⟨rfl, hip⟩, if_pos hip]; rfl
                · by_cases hiq : i = q
                  · rw [if_pos ⟨rfl, hiq⟩, if_neg hip, if_pos hiq]; rfl
                  · rw [if_neg (fun z => hiq z.2), if_neg (fun z => hip z.2), if_neg hip, if_neg hiq]; exact t1 i hi
              · unfold setT at hiu
                by_cases hip : i = p
                · rw [if_pos hip] at hiu; cases hiu; omega
                · rw [if_neg hip] at hiu
                  by_cases hiq : i = q
                  · rw [if_pos hiq] at hiu; cases hiu; omega
                  · rw [if_neg hiq] at hiu; exact hTu i u hiu
              · refine ⟨n_in (by omega) (by decide), fun M7 g7 => ⟨n_in (by omega) (by decide), fun M8 g8 => ?_⟩⟩
                have r7 : ∀ k j, ri M7 k j = if k = 44 ∧ j = p then -1 else ri M6 k j := by intro k j; rw [g7, ri_wi]
                have r8 : ∀ k j, ri M8 k j = if k = 44 ∧ j = q then -1 else ri M7 k j := by intro k j; rw [g8, ri_wi]
                refine ihk (q + 1) _ M8 (by omega) (by omega) (((e5.trans e6).trans (show E4 M6 M7 by rw [g7]; exact e4_w44)).trans (by rw [g8]; exact e4_w44)) (fun i hi => ?_) ⟨by rw [r8, if_neg (by omega), r7, if_neg (by omega)]; exact bs6.1, fun i hi => by rw [r8, if_neg (by omega), r7, if_neg (by omega)]; exact bs6.2 i hi⟩ he
                rw [r8, r7]
                by_cases hiq : i = q
                · rw [if_pos ⟨rfl, hiq⟩, hiq, hTq]; rfl
                · rw [if_neg (fun z => hiq z.2)]
                  by_cases hip : i = p
                  · rw [if_pos ⟨rfl, hip⟩, hip, hTp]; rfl
                  · rw [if_neg (fun z => hip z.2), t6 i hi]
                    unfold setT
                    rw [if_neg hip, if_neg hiq]
      exact loop r (p + 1) b M (by omega) (by omega) E4.rf hT hB rfl
def pcB (S : Sh) : Bst := pfF S (sn S) (fun _ => none) 0 (-1, fun _ => 0)
def pcL (S : Sh) : List Int32 := (List.range (sn S)).map (pcB S).2
theorem pcL_at {S : Sh} {i : Nat} (hi : i < sn S) : (pcL S)[i]?.getD 0 = (pcB S).2 i := by
  unfold pcL
  rw [List.getElem?_map, List.getElem?_range hi]; rfl
theorem x_peace {d : Nat} {M : Mem} {K : Int32 → Mem → Prop} {S : Sh} (hF : Fr M 27 S) (hK : ∀ M', QL 0 M M' → LyX M' (pcL S) → K (pcB S).1 M') : CI (d + 12) μX8_peace [.ref 0] M K := by
  have hS := hF.2.2
  have h8 := hS.1
  refine sg_X8_peace_0 ?_
  refine sg_X5_mostPairs_0 (by decide +kernel) ?_
  have init : ∀ (r j : Nat) (M1 : Mem), r + j = 8 → E4 M M1 → (∀ i, i < j → ri M1 44 i = -1) → RI (d + 11) μX5_mostPairs 2 [(0, .ref 42), (1, .ref 27), (2, .int (nI j))] [] M1 (fun r2 M1 => (CV (d + 11) μX8_layDown [.ref 0, .int (ri M1 27 0)] M1 (fun M3 => K r2 M3))) := by
    intro r
    induction r with
    | zero =>
      intro j M1 hj e1 hn
      have hj : j = 8 := by omega
      subst hj
      refine sg_X5_mostPairs_2 (by decide +kernel) ?_
      rw [if_pos (by decide)]
      intro M2 g2
      have r2 : ∀ k j, ri M2 k j = if k = 42 ∧ j = 2 then -1 else ri M1 k j := by intro k j; rw [g2, ri_wi]
      have e2 : E4 M M2 := e1.trans (by rw [g2]; exact e4_w42)
      have hx := x_pair (d := d + 8 - sn S) (S := S) (sn S) 0 (fun _ => none) 0 (-1, fun q => ri M2 43 q) M2 (fun M2 => (CV (d + 11) μX8_layDown [.ref 0, .int (ri M2 27 0)] M2 (fun M3 => K (ri M2 42 2) M3))) (by omega) (by omega) (E4.fr hF e2) (fun q hq => by rw [r2, if_neg (by omega)]; exact hn q hq) (fun q u h => by cases h) ⟨by rw [r2, if_pos ⟨rfl, rfl⟩], fun q _ => rfl⟩ (fun M3 e3 t3 bs3 => ?_)
      · rw [show d + 8 - sn S + sn S + 2 = d + 10 by omega] at hx
        exact hx
      · rw [pf_same S (sn S) (fun _ => none) 0 (by omega) _ (fun _ => 0)] at bs3
        rw [(E4.fr hF (e2.trans e3)).1.1, bs3.1]
        refine x_layDown (L := pcL S) (by unfold pcL; simp) h8 (fun i hi => by rw [bs3.2 i hi, pcL_at hi]; rfl) (fun M4 q4 l4 => ?_)
        exact hK M4 ((e2.trans e3).q.l.trans q4) l4
    | succ r ih =>
      intro j M1 hj e1 hn
      refine sg_X5_mostPairs_2 (by decide +kernel) ?_
      rw [if_neg (by rw [show (8 : Int32) = nI 8 from rfl, nI_leI (by omega) (by omega)]; omega), nI_1, show nx (nI j) = j from nI_clamp (by omega)]
      refine ⟨n_in (by omega) (by decide), fun M2 g2 => ?_⟩
      refine ih (j + 1) M2 (by omega) (e1.trans (by rw [g2]; exact e4_w44)) (fun i hi => ?_)
      rw [g2, ri_wi]
      by_cases hij : i = j
      · rw [if_pos ⟨rfl, hij⟩]
      · rw [if_neg (fun q => hij q.2)]; exact hn i (by omega)
  exact init 8 0 M rfl E4.rf (fun i hi => absurd hi (Nat.not_lt_zero _))
