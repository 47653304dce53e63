/-! where a reading stands: at a token, or at a fault (its kind and place); the class's small steps -/
abbrev Rdg : Type := Nat ⊕ (Nat × Nat)
def tA (T : Nat → Nat) (L a : Nat) : Rdg := if tK T L a = 3 then .inr (1, tS T L a) else .inl a
def nxt (T : Nat → Nat) (L : Nat) : Rdg → Rdg
  | .inl a => tA T L (tE T L a)
  | .inr x => .inr x
def blP (T : Nat → Nat) (L f : Nat) : Rdg → Nat × Nat
  | .inl a => (f, tS T L a)
  | .inr x => x
def blm (T : Nat → Nat) (L f : Nat) (σ : Rdg) : Rdg := .inr (blP T L f σ)
def isK (T : Nat → Nat) (L k : Nat) : Rdg → Bool
  | .inl a => decide (tK T L a = k)
  | .inr _ => false
def sW (T : Nat → Nat) (L : Nat) : Rdg → List Nat
  | .inl a => tW T L a
  | .inr _ => []
def sN (T : Nat → Nat) (L : Nat) : Rdg → Nat
  | .inl a => tN T L a
  | .inr _ => 0
def isO (T : Nat → Nat) (L w : Nat) (σ : Rdg) : Bool := isK T L 1 σ && decide (sW T L σ = own w)
def isN (T : Nat → Nat) (L : Nat) (σ : Rdg) : Bool := isK T L 1 σ && decide (owF (sW T L σ) 14 = -1)
def twS (T : Nat → Nat) (L w : Nat) (σ : Rdg) : Rdg := if isO T L w σ = true then nxt T L σ else blm T L 2 σ
def tsS (T : Nat → Nat) (L c : Nat) (σ : Rdg) : Rdg := if isK T L c σ = true then nxt T L σ else blm T L 2 σ
def tnS (T : Nat → Nat) (L most : Nat) (σ : Rdg) : Rdg := if isK T L 2 σ = true then (if sN T L σ ≤ most then nxt T L σ else blm T L 4 σ) else blm T L 2 σ
def tnV (T : Nat → Nat) (L most : Nat) (σ : Rdg) : Nat := if isK T L 2 σ = true ∧ sN T L σ ≤ most then sN T L σ else 0
def fdN (NL : List (List Nat)) (l : List Nat) : Nat → Option Nat
  | 0 => none
  | k + 1 => if NL.getD (NL.length - (k + 1)) [] = l then some (NL.length - (k + 1)) else fdN NL l k
def fnd (NL : List (List Nat)) (l : List Nat) : Option Nat := fdN NL l NL.length
def lhV (T : Nat → Nat) (L : Nat) (NL : List (List Nat)) (σ : Rdg) : Option Nat := if isN T L σ = true then fnd NL (sW T L σ) else none
def lhS (T : Nat → Nat) (L : Nat) (NL : List (List Nat)) (σ : Rdg) : Rdg := if isN T L σ = true then (if fnd NL (sW T L σ) = none then blm T L 5 σ else σ) else blm T L 2 σ
theorem fdN_some {NL : List (List Nat)} {l : List Nat} {i : Nat} : ∀ {k : Nat}, k ≤ NL.length → fdN NL l k = some i → i < NL.length ∧ NL.getD i [] = l
  | 0, _, h => by cases h
  | k + 1, hk, h => by
    unfold fdN at h
    split at h
    · rename_i q; cases h; exact ⟨by omega, q⟩
    · exact fdN_some (k := k) (by omega) h
theorem fdN_none {NL : List (List Nat)} {l : List Nat} : ∀ {k : Nat}, k ≤ NL.length → fdN NL l k = none → ∀ i, NL.length - k ≤ i → i < NL.length → NL.getD i [] ≠ l
  | 0, _, _, i, h1, h2 => by omega
  | k + 1, hk, h, i, h1, h2 => by
    unfold fdN at h
    split at h
    · cases h
    · rename_i q
      by_cases hi : i = NL.length - (k + 1)
      · rw [hi]; exact q
      · exact fdN_none (k := k) (by omega) h i (by omega) h2
theorem fnd_some {NL : List (List Nat)} {l : List Nat} {i : Nat} (h : fnd NL l = some i) : i < NL.length ∧ NL.getD i [] = l := fdN_some (Nat.le_refl _) h
theorem fnd_none {NL : List (List Nat)} {l : List Nat} (h : fnd NL l = none) : ∀ i, i < NL.length → NL.getD i [] ≠ l := fun i hi => fdN_none (Nat.le_refl _) h i (by omega) hi
def CS (M : Mem) (L : Nat) (T : Nat → Nat) : Rdg → Prop
  | .inl a => CT M L T a ∧ a ≤ L ∧ tK T L a ≠ 3
  | .inr x => CF M x.1 x.2
theorem CS.keep {M M' : Mem} {L : Nat} {T : Nat → Nat} {σ : Rdg} (h : CS M L T σ) (e : ∀ j, ri M' 1 j = ri M 1 j) (el : ∀ j, rl M' 1 j = rl M 1 j) : CS M' L T σ := by
  cases σ with
  | inl a =>
    obtain ⟨⟨h1, h2, h3, h4, h5, h6, h7⟩, h8⟩ := h
    refine ⟨⟨by rw [e]; exact h1, by rw [e]; exact h2, by rw [e]; exact h3, by rw [e]; exact h4, fun q => ⟨by rw [el]; exact (h5 q).1, by rw [e]; exact (h5 q).2⟩, fun q => by rw [e]; exact h6 q, fun q => by rw [e]; exact h7 q⟩, h8⟩
  | inr x =>
    obtain ⟨h1, h2, h3, h4⟩ := h
    exact ⟨by rw [e]; exact h1, by rw [e]; exact h2, by rw [e]; exact h3, h4⟩
/-- no fault yet, or one -/
theorem CS.f0 {M : Mem} {L : Nat} {T : Nat → Nat} {a : Nat} (h : CS M L T (.inl a)) : ri M 1 0 = 0 := h.1.1
theorem CS.f1 {M : Mem} {L : Nat} {T : Nat → Nat} {x : Nat × Nat} (h : CS M L T (.inr x)) : ¬ ri M 1 0 = 0 := by
  have h : CF M x.1 x.2 := h
  rw [h.1]; intro q
  have := nI_inj (a := x.1) (b := 0) (by have := h.2.2.2; omega) (by omega) q
  have := h.2.2.2; omega
theorem x_adv {d L : Nat} {T : Nat → Nat} {M : Mem} {K : Mem → Prop} {σ : Rdg} (hT : TX M L T) (hO : TOk L T) (h : CS M L T σ) (hK : ∀ M', QA M M' → CS M' L T (nxt T L σ) → K M') : CV (d + 7) μX6_advance [.ref 1] M K := by
  cases σ with
  | inl a =>
    have hE := tE_le (T := T) h.2.1
    refine x_advance hT hO h.1.1 h.1.2.2.1 hE (fun M' q c => hK M' q ?_)
    show CS M' L T (tA T L (tE T L a))
    unfold tA
    by_cases h3 : tK T L (tE T L a) = 3
    · rw [if_pos h3] at c ⊢; exact c
    · rw [if_neg h3] at c ⊢; exact ⟨c, hE, h3⟩
  | inr x =>
    refine sg_X6_advance_0 ?_
    rw [if_neg (CS.f1 h)]
    exact hK M QA.rf h
theorem x_blm {d L f : Nat} {T : Nat → Nat} {M : Mem} {K : Mem → Prop} {σ : Rdg} (hf : 0 < f ∧ f < 10) (h : CS M L T σ) (hK : ∀ M', QA M M' → CS M' L T (blm T L f σ) → K M') : CV d μX6_blame [.ref 1, .int (nI f)] M K := by
  cases σ with
  | inl a => exact x_blame hf h.1.1 h.1.2.1 (fun M' q c => hK M' q c)
  | inr x => exact x_blameF (f := x.1) (p := x.2) h (fun M' q c => hK M' q c)
theorem tK_cases (T : Nat → Nat) (L a : Nat) : tK T L a ≤ 3 ∨ (37 ≤ tK T L a ∧ tK T L a ≤ 62 ∧ sgB (tK T L a) = true) := by
  unfold tK
  split
  · omega
  · split
    · split <;> omega
    · split
      · split <;> omega
      · split
        · rename_i q; have := sgB_lt q; exact Or.inr ⟨this.1, this.2, q⟩
        · omega
theorem kC_1 {k : Nat} (h : k ≤ 3 ∨ 37 ≤ k ∧ k ≤ 62) : kC k = 1 ↔ k = 1 := by
  unfold kC
  by_cases h2 : k ≤ 2
  · rw [if_pos h2]; exact ⟨fun q => nI_inj (b := 1) (by omega) (by omega) q, fun q => by rw [q]; rfl⟩
  · rw [if_neg h2]; exact ⟨fun q => absurd q (by decide), fun q => by omega⟩
theorem kC_2 {k : Nat} (h : k ≤ 3 ∨ 37 ≤ k ∧ k ≤ 62) : kC k = 2 ↔ k = 2 := by
  unfold kC
  by_cases h2 : k ≤ 2
  · rw [if_pos h2]; exact ⟨fun q => nI_inj (b := 2) (by omega) (by omega) q, fun q => by rw [q]; rfl⟩
  · rw [if_neg h2]; exact ⟨fun q => absurd q (by decide), fun q => by omega⟩
theorem kC_3 {k : Nat} (h : k ≤ 3 ∨ 37 ≤ k ∧ k ≤ 62) : kC k = 3 ↔ 2 < k := by
  unfold kC
  by_cases h2 : k ≤ 2
  · rw [if_pos h2]; exact ⟨fun q => by have := nI_inj (b := 3) (by omega) (by omega) q; omega, fun q => by omega⟩
  · rw [if_neg h2]; exact ⟨fun _ => by omega, fun _ => rfl⟩
theorem tKc (T : Nat → Nat) (L a : Nat) : tK T L a ≤ 3 ∨ 37 ≤ tK T L a ∧ tK T L a ≤ 62 := by
  rcases tK_cases T L a with h | h
  · exact Or.inl h
  · exact Or.inr ⟨h.1, h.2.1⟩
theorem CS.k1 {M : Mem} {L : Nat} {T : Nat → Nat} {σ : Rdg} (h : CS M L T σ) : (ri M 1 6 = 1 ↔ isK T L 1 σ = true) ∧ (ri M 1 6 = 2 ↔ isK T L 2 σ = true) ∧ (isK T L 1 σ = true → rl M 1 11 = lN (v32 (sW T L σ)) ∧ ri M 1 10 = owF (sW T L σ) 14 ∧ WO (sW T L σ)) ∧ (isK T L 2 σ = true → ri M 1 8 = nI (sN T L σ)) := by
  cases σ with
  | inl a =>
    obtain ⟨⟨h1, h2, h3, h4, h5, h6, h7⟩, h8, h9⟩ := h
    rw [h4]
    refine ⟨?_, ?_, ?_, ?_⟩
    · show _ ↔ decide (tK T L a = 1) = true
      rw [kC_1 (tKc T L a), decide_eq_true_iff]
    · show _ ↔ decide (tK T L a = 2) = true
      rw [kC_2 (tKc T L a), decide_eq_true_iff]
    · intro q
      have q := of_decide_eq_true (show decide (tK T L a = 1) = true from q)
      exact ⟨(h5 q).1, (h5 q).2, tW_ok q⟩
    · intro q; exact h6 (of_decide_eq_true (show decide (tK T L a = 2) = true from q))
  | inr x =>
    have h : CF M x.1 x.2 := h
    rw [h.2.2.1]
    exact ⟨⟨fun q => absurd q (by decide), fun q => (by cases q)⟩, ⟨fun q => absurd q (by decide), fun q => (by cases q)⟩, fun q => (by cases q), fun q => (by cases q)⟩
theorem owF_eq {l : List Nat} {w : Nat} (hw : w < 14) : owF l 14 = nI w ↔ l = own w := by
  rcases owF_cases l with ⟨v, hv, e, h⟩ | ⟨hn, h⟩
  · rw [h]
    constructor
    · intro q; have := nI_inj (by omega) (by omega) q; rw [← this]; exact e
    · intro q; rw [own_inj v hv w hw (by rw [← e]; exact q)]
  · rw [h]
    constructor
    · intro q; have := nI_nn (v := w) (by omega); rw [← q] at this; exact absurd this (by decide)
    · intro q; exact absurd q (hn w hw)
theorem x_isWord {d L w : Nat} {T : Nat → Nat} {M : Mem} {K : Int32 → Mem → Prop} {σ : Rdg} (hw : w < 14) (h : CS M L T σ) (hK : K (bI (isO T L w σ)) M) : CI d μX6_isWord [.ref 1, .int (nI w)] M K := by
  refine sg_X6_isWord_0 ?_
  have hk := h.k1
  unfold isO at hK
  by_cases h1 : isK T L 1 σ = true
  · rw [if_pos (hk.1.mpr h1), (hk.2.2.1 h1).2.1]
    rw [h1, Bool.true_and] at hK
    by_cases hc : sW T L σ = own w
    · rw [if_pos ((owF_eq hw).mpr hc)]; rw [decide_eq_true hc] at hK; exact hK
    · rw [if_neg (fun q => hc ((owF_eq hw).mp q))]; rw [decide_eq_false hc] at hK; exact hK
  · rw [if_neg (fun q => h1 (hk.1.mp q))]
    rw [Bool.eq_false_iff.mpr h1, Bool.false_and] at hK; exact hK
theorem x_isSign {d L c : Nat} {T : Nat → Nat} {M : Mem} {K : Int32 → Mem → Prop} {σ : Rdg} (hc : 37 ≤ c ∧ c < 128) (h : CS M L T σ) (hK : K (bI (isK T L c σ)) M) : CI d μX6_isSign [.ref 1, .int (nI c)] M K := by
  refine sg_X6_isSign_0 ?_
  cases σ with
  | inl a =>
    obtain ⟨⟨h1, h2, h3, h4, h5, h6, h7⟩, h8, h9⟩ := h
    have hk := tKc T L a
    have hK : K (bI (decide (tK T L a = c))) M := hK
    rw [h4]
    by_cases h3 : 2 < tK T L a
    · rw [if_pos ((kC_3 hk).mpr h3), h7 (by omega)]
      by_cases he : tK T L a = c
      · rw [if_pos (by rw [he])]; rw [decide_eq_true he] at hK; exact hK
      · rw [if_neg (fun q => he (nI_inj (by omega) (by omega) q))]; rw [decide_eq_false he] at hK; exact hK
    · rw [if_neg (fun q => h3 ((kC_3 hk).mp q))]
      rw [decide_eq_false (by omega)] at hK; exact hK
  | inr x =>
    have h : CF M x.1 x.2 := h
    rw [h.2.2.1, if_neg (by decide)]; exact hK
theorem x_takeWord {d L w : Nat} {T : Nat → Nat} {M : Mem} {K : Mem → Prop} {σ : Rdg} (hw : w < 14) (hT : TX M L T) (hO : TOk L T) (h : CS M L T σ) (hK : ∀ M', QA M M' → CS M' L T (twS T L w σ) → K M') : CV (d + 8) μX6_takeWord [.ref 1, .int (nI w)] M K := by
  refine sg_X6_takeWord_0 (x_isWord hw h ?_)
  unfold twS at hK
  cases hc : isO T L w σ with
  | true => rw [if_neg (by decide)]; rw [hc, if_pos rfl] at hK; exact x_adv hT hO h hK
  | false => rw [if_pos (by decide)]; rw [hc, if_neg (by decide)] at hK; exact x_blm (f := 2) (by omega) h hK
theorem x_takeSign {d L c : Nat} {T : Nat → Nat} {M : Mem} {K : Mem → Prop} {σ : Rdg} (hcc : 37 ≤ c ∧ c < 128) (hT : TX M L T) (hO : TOk L T) (h : CS M L T σ) (hK : ∀ M', QA M M' → CS M' L T (tsS T L c σ) → K M') : CV (d + 8) μX6_takeSign [.ref 1, .int (nI c)] M K := by
  refine sg_X6_takeSign_0 (x_isSign hcc h ?_)
  unfold tsS at hK
  cases hc : isK T L c σ with
  | true => rw [if_neg (by decide)]; rw [hc, if_pos rfl] at hK; exact x_adv hT hO h hK
  | false => rw [if_pos (by decide)]; rw [hc, if_neg (by decide)] at hK; exact x_blm (f := 2) (by omega) h hK
theorem tN_lt {T : Nat → Nat} {L a : Nat} (h : tK T L a = 2) : tN T L a < 10000 := by
  have h4 : en dB T L (tS T L a) - tS T L a ≤ 4 := by
    unfold tK at h
    split at h
    · cases h
    · split at h
      · split at h <;> cases h
      · split at h
        · split at h
          · cases h
          · rename_i q; rcases Nat.lt_or_ge 4 (en dB T L (tS T L a) - tS T L a) with z | z
            · exact absurd (Or.inl z) q
            · exact z
        · split at h
          · rename_i q; have := sgB_lt q; omega
          · cases h
  unfold tN v10
  have h1 := vR_lt (B := 10) (g := fun c => c - 48) (by decide) (wd T (tS T L a) (en dB T L (tS T L a) - tS T L a)) (fun c hc => by
    obtain ⟨i, hi, e⟩ := wd_mem hc
    have := of_decide_eq_true (en_in (p := dB) (T := T) (L := L) (a := tS T L a) (i := tS T L a + i) (by omega) (by omega))
    rw [← e] at this
    show c - 48 < 10; omega)
  rw [wd_len] at h1
  have h2 : 10 ^ (en dB T L (tS T L a) - tS T L a) ≤ 10 ^ 4 := Nat.pow_le_pow_right (by decide) h4
  have h3 : (10 : Nat) ^ 4 = 10000 := by decide
  omega
theorem sN_lt {T : Nat → Nat} {L : Nat} {σ : Rdg} (h : isK T L 2 σ = true) : sN T L σ < 10000 := by
  cases σ with
  | inl a => exact tN_lt (of_decide_eq_true (show decide (tK T L a = 2) = true from h))
  | inr x => cases h
theorem x_takeNum {d L most : Nat} {T : Nat → Nat} {M : Mem} {K : Int32 → Mem → Prop} {σ : Rdg} (hm : most < 10000) (hT : TX M L T) (hO : TOk L T) (h : CS M L T σ) (hK : ∀ M', QA M M' → CS M' L T (tnS T L most σ) → K (nI (tnV T L most σ)) M') : CI (d + 8) μX6_takeNumber [.ref 1, .int (nI most)] M K := by
  refine sg_X6_takeNumber_0 ?_
  have hk := h.k1
  unfold tnS tnV at hK
  by_cases h2 : isK T L 2 σ = true
  · have hl := sN_lt h2
    rw [if_pos (hk.2.1.mpr h2), hk.2.2.2 h2]
    rw [if_pos h2] at hK
    by_cases hc : sN T L σ ≤ most
    · rw [if_pos (by rw [nI_leI (by omega) (by omega)]; exact hc)]
      rw [if_pos hc, if_pos ⟨h2, hc⟩] at hK
      exact x_adv hT hO h hK
    · rw [if_neg (by rw [nI_leI (by omega) (by omega)]; exact hc)]
      rw [if_neg hc, if_neg (fun q => hc q.2)] at hK
      exact x_blm (f := 4) (by omega) h hK
  · rw [if_neg (fun q => h2 (hk.2.1.mp q))]
    rw [if_neg h2, if_neg (fun q => h2 q.1)] at hK
    exact x_blm (f := 2) (by omega) h hK
/-- the names that the class has read -/
def NX (M : Mem) (t : Nat) (NL : List (List Nat)) : Prop := ri M (t + 1) 0 = nI NL.length ∧ NL.length ≤ 8 ∧ (∀ k, k < NL.length → rl M (t + 11) k = lN (v32 (NL.getD k []))) ∧ ∀ l ∈ NL, WO l
theorem NX.wo {M : Mem} {t : Nat} {NL : List (List Nat)} (h : NX M t NL) {k : Nat} (hk : k < NL.length) : WO (NL.getD k []) := by
  rw [show NL.getD k [] = NL[k] by simp [List.getD, hk]]
  exact h.2.2.2 _ (List.getElem_mem hk)
theorem x_lordNamed {d t : Nat} {M : Mem} {K : Int32 → Mem → Prop} {NL : List (List Nat)} {l : List Nat} (ht : kd t = (0, 7)) (hN : NX M t NL) (hl : WO l) (hK : K (oI (fnd NL l)) M) : CI d μX7_lordNamed [.ref t, .long (lN (v32 l))] M K := by
  have h8 := hN.2.1
  refine sg_X7_lordNamed_0 ht ?_
  have loop : ∀ (k q : Nat), k + q = NL.length → K (oI (fdN NL l k)) M → RI d μX7_lordNamed 2 [(0, .ref t), (1, .long (lN (v32 l))), (3, .int (nI q))] [] M K := by
    intro k
    induction k with
    | zero =>
      intro q hq h
      refine sg_X7_lordNamed_2 ht ?_
      rw [hN.1, if_pos (by rw [nI_leI (by omega) (by omega)]; omega)]
      exact h
    | succ k ih =>
      intro q hq h
      unfold fdN at h
      rw [show NL.length - (k + 1) = q by omega] at h
      refine sg_X7_lordNamed_2 ht ?_
      rw [hN.1, if_neg (by rw [nI_leI (by omega) (by omega)]; omega), show nx (nI q) = q from nI_clamp (by omega), hN.2.2.1 q (by omega), nI_1]
      refine ⟨n_in (by omega) (by decide), ?_⟩
      have e := n32_eq (hN.wo (k := q) (by omega)) hl
      by_cases hc : NL.getD q [] = l
      · rw [if_pos ((lg_cmp_eq _ _).mpr (e.mpr hc))]; rw [if_pos hc] at h; exact h
      · rw [if_neg (fun z => hc (e.mp ((lg_cmp_eq _ _).mp z)))]; rw [if_neg hc] at h; exact ih (q + 1) (by omega) h
  exact loop NL.length 0 rfl hK
theorem oI_m1 {o : Option Nat} (h : ∀ i, o = some i → i < 100) : oI o = -1 ↔ o = none := by
  cases o with
  | none => exact ⟨fun _ => rfl, fun _ => rfl⟩
  | some i => exact ⟨fun q => absurd q (oI_ne (by have := h i rfl; omega)), fun q => by cases q⟩
theorem x_lordHere {d L t : Nat} {T : Nat → Nat} {M : Mem} {K : Int32 → Mem → Prop} {NL : List (List Nat)} {σ : Rdg} (ht : kd t = (0, 7)) (h3 : nx (ri M 1 3) = t) (hN : NX M t NL) (h : CS M L T σ) (hK : ∀ M', QA M M' → CS M' L T (lhS T L NL σ) → K (oI (lhV T L NL σ)) M') : CI (d + 1) μX6_lordHere [.ref 1] M K := by
  refine sg_X6_lordHere_0 ?_
  have hk := h.k1
  unfold lhS lhV isN at hK
  by_cases h1 : isK T L 1 σ = true
  · obtain ⟨e11, e10, hw⟩ := hk.2.2.1 h1
    rw [if_pos (hk.1.mpr h1), e10, e11]
    rw [h1, Bool.true_and] at hK
    by_cases ho : owF (sW T L σ) 14 = -1
    · rw [if_pos ho]
      rw [decide_eq_true ho, if_pos rfl, if_pos rfl] at hK
      refine ⟨t, h3, ht, x_lordNamed ht hN hw ?_⟩
      have hm := oI_m1 (o := fnd NL (sW T L σ)) (fun i hi => by have := (fnd_some hi).1; have := hN.2.1; omega)
      by_cases hf : fnd NL (sW T L σ) = none
      · rw [if_pos (hm.mpr hf)]
        rw [if_pos hf] at hK
        exact x_blm (f := 5) (by omega) h hK
      · rw [if_neg (fun q => hf (hm.mp q))]
        rw [if_neg hf] at hK
        exact hK M QA.rf h
    · rw [if_neg ho]
      rw [decide_eq_false ho, if_neg (by decide), if_neg (by decide)] at hK
      exact x_blm (f := 2) (by omega) h hK
  · rw [if_neg (fun q => h1 (hk.1.mp q))]
    rw [Bool.eq_false_iff.mpr h1, Bool.false_and, if_neg (by decide), if_neg (by decide)] at hK
    exact x_blm (f := 2) (by omega) h hK
