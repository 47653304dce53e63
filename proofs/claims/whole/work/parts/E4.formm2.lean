/-! the model's stack of signs: what it asks -/
theorem dp_le (s : List Nat) : dp s ≤ s.length := List.countP_le_length
theorem r_mayNot {d u : Nat} {M : Mem} {K : Int32 → Mem → Prop} {s : List Nat} {c : List Int32} (h : FM M s u c) (hK : K (bI (decide (topt s < 4))) M) : CI (d + 1) μX9_mayNot [.ref 58] M K := by
  refine sg_X9_mayNot_0 ?_
  cases s with
  | nil => rw [h.1, if_pos (by rfl)]; exact hK
  | cons x s =>
    have hx := okO_lt (h.2.2.2.2.2.2.2.1 x List.mem_cons_self)
    have hlen : s.length + 1 ≤ 101 := h.2.2.2.2.2.2.2.2.1
    rw [show ri M 58 19 = nI (s.length + 1) from h.1, if_neg (show ¬ nI (s.length + 1) = 0 from fun q => by have := nI_inj (b := 0) (by omega) (by omega) q; omega), nI_pred, show nx (nI s.length) = s.length from nI_clamp (by omega), h.top]
    refine ⟨n_in (by omega) (by decide), ?_⟩
    have hK : K (bI (decide ((if x = 20 then 0 else tg x) < 4))) M := hK
    by_cases h20 : x = 20
    · rw [if_pos (by rw [h20]; rfl)]; rw [if_pos h20] at hK; exact hK
    · rw [if_neg (show ¬ nI x = 20 from fun q => h20 (nI_inj (b := 20) (by omega) (by omega) q))]
      rw [if_neg h20] at hK
      refine ⟨n_in (by omega) (by decide), r_tight (by omega) ?_⟩
      have htg : tg x ≤ 6 := by unfold tg; repeat' split
                                all_goals omega
      by_cases h4 : tg x < 4
      · rw [if_neg (by rw [show (4 : Int32) = nI 4 from rfl, nI_leI (by omega) (by omega)]; omega)]; rw [decide_eq_true h4] at hK; exact hK
      · rw [if_pos (by rw [show (4 : Int32) = nI 4 from rfl, nI_leI (by omega) (by omega)]; omega)]; rw [decide_eq_false h4] at hK; exact hK
theorem r_hasRel {d u : Nat} {M : Mem} {K : Int32 → Mem → Prop} {s0 : List Nat} {c : List Int32} (h : FM M s0 u c) (hK : K (bI (hrel s0)) M) : CI (d + 1) μX9_hasRelation [.ref 58] M K := by
  refine sg_X9_hasRelation_0 ?_
  have hlen : s0.length ≤ 101 := h.2.2.2.2.2.2.2.2.1
  rw [h.1]
  have loop : ∀ (s p : List Nat), p ++ s = s0 → K (bI (hrel s)) M → RI (d + 1) μX9_hasRelation 7 [(0, .ref 58), (1, .int (nI s.length - 1))] [] M K := by
    intro s
    induction s with
    | nil =>
      intro p hp hk
      refine sg_X9_hasRelation_7 ?_
      rw [if_pos (by decide)]
      refine sg_X9_hasRelation_41 ?_
      rw [if_pos (by decide)]; exact hk
    | cons x s ih =>
      intro p hp hk
      have hx := okO_lt (h.2.2.2.2.2.2.2.1 x (by rw [← hp]; simp))
      have hl2 : p.length + (s.length + 1) = s0.length := by rw [← hp, List.length_append]; rfl
      have ex : ri M 65 s.length = nI x := by
        rw [h.2.1 s.length (by omega), ← hp, List.reverse_append, List.getElem?_append_left (by simp), List.reverse_cons, List.getElem?_append_right (by simp)]
        simp
      have hk : K (bI (if x = 20 then false else if 4 < tg x then hrel s else decide (tg x = 4))) M := hk
      have htg : tg x ≤ 6 := by unfold tg; repeat' split
                                all_goals omega
      show RI (d + 1) μX9_hasRelation 7 [(0, .ref 58), (1, .int (nI (s.length + 1) - 1))] [] M K
      rw [nI_pred]
      have at41 : K (bI (if x = 20 then false else decide (tg x = 4))) M → RI (d + 1) μX9_hasRelation 41 [(0, .ref 58), (1, .int (nI s.length))] [] M K := by
        intro hk
        refine sg_X9_hasRelation_41 ?_
        rw [if_neg (i_nlt.mpr (nI_nn (by omega))), show nx (nI s.length) = s.length from nI_clamp (by omega), ex]
        refine ⟨n_in (by omega) (by decide), ?_⟩
        by_cases h20 : x = 20
        · rw [if_pos (by rw [h20]; rfl)]; rw [if_pos h20] at hk; exact hk
        · rw [if_neg (show ¬ nI x = 20 from fun q => h20 (nI_inj (b := 20) (by omega) (by omega) q))]
          rw [if_neg h20] at hk
          refine ⟨n_in (by omega) (by decide), r_tight (by omega) ?_⟩
          by_cases h4 : tg x = 4
          · rw [if_pos (by rw [h4]; rfl)]; rw [decide_eq_true h4] at hk; exact hk
          · rw [if_neg (show ¬ nI (tg x) = 4 from fun q => h4 (nI_inj (b := 4) (by omega) (by omega) q))]; rw [decide_eq_false h4] at hk; exact hk
      refine sg_X9_hasRelation_7 ?_
      rw [if_neg (i_nlt.mpr (nI_nn (by omega))), show nx (nI s.length) = s.length from nI_clamp (by omega), ex]
      refine ⟨n_in (by omega) (by decide), ?_⟩
      by_cases h20 : x = 20
      · rw [if_pos (by rw [h20]; rfl)]; rw [if_pos h20] at hk; exact at41 (by rw [if_pos h20]; exact hk)
      · rw [if_neg (show ¬ nI x = 20 from fun q => h20 (nI_inj (b := 20) (by omega) (by omega) q))]
        rw [if_neg h20] at hk
        refine ⟨n_in (by omega) (by decide), r_tight (by omega) ?_⟩
        by_cases h4 : 4 < tg x
        · rw [if_neg (by rw [show (4 : Int32) = nI 4 from rfl, nI_leI (by omega) (by omega)]; omega), nI_m1]
          rw [if_pos h4] at hk
          exact ih (p ++ [x]) (by rw [← hp]; simp) hk
        · rw [if_pos (by rw [show (4 : Int32) = nI 4 from rfl, nI_leI (by omega) (by omega)]; omega)]
          rw [if_neg h4] at hk
          exact at41 (by rw [if_neg h20]; exact hk)
  exact loop s0 [] rfl hK
theorem r_hasBracket {d u : Nat} {M : Mem} {K : Int32 → Mem → Prop} {s : List Nat} {c : List Int32} (h : FM M s u c) (hK : K (bI (decide (20 ∈ s))) M) : CI d μX9_hasBracket [.ref 58] M K := by
  have hlen : s.length ≤ 101 := h.2.2.2.2.2.2.2.2.1
  refine sg_X9_hasBracket_0 ?_
  have loop : ∀ (k i : Nat) (b : Bool), k + i = s.length → (b = true ↔ ∃ j, j < i ∧ s.reverse[j]?.getD 0 = 20) → RI d μX9_hasBracket 4 [(0, .ref 58), (1, .int (bI b)), (2, .int (nI i))] [] M K := by
    intro k
    induction k with
    | zero =>
      intro i b hi hb
      have hi : i = s.length := by omega
      subst hi
      refine sg_X9_hasBracket_4 ?_
      rw [h.1, if_pos (by rw [nI_leI (by omega) (by omega)]; omega)]
      refine ⟨by cases b <;> simp [bI], ?_⟩
      have : b = decide (20 ∈ s) := by
        cases hm : decide (20 ∈ s) with
        | true =>
          have hm := of_decide_eq_true hm
          obtain ⟨j, hj⟩ := List.mem_iff_getElem?.mp (List.mem_reverse.mpr hm)
          have hl := (List.getElem?_eq_some_iff.mp hj).1
          rw [List.length_reverse] at hl
          exact hb.mpr ⟨j, hl, by rw [hj]; rfl⟩
        | false =>
          cases b with
          | false => rfl
          | true =>
            obtain ⟨j, hj, e⟩ := hb.mp rfl
            have hm := of_decide_eq_false hm
            exfalso; apply hm
            have hl : j < s.reverse.length := by rw [List.length_reverse]; exact hj
            rw [List.getElem?_eq_getElem hl] at e
            have e : s.reverse[j] = 20 := e
            rw [← e]; exact List.mem_reverse.mp (List.getElem_mem hl)
      rw [this]; exact hK
    | succ k ih =>
      intro i b hi hb
      refine sg_X9_hasBracket_4 ?_
      rw [h.1, if_neg (by rw [nI_leI (by omega) (by omega)]; omega), show nx (nI i) = i from nI_clamp (by omega), h.2.1 i (by omega), nI_1]
      have hlr : i < s.reverse.length := by rw [List.length_reverse]; omega
      have hv : s.reverse[i]?.getD 0 < 200 := by
        rw [List.getElem?_eq_getElem hlr]
        exact okO_lt (h.2.2.2.2.2.2.2.1 _ (List.mem_reverse.mp (List.getElem_mem hlr)))
      cases b with
      | true =>
        rw [if_neg (by decide)]
        refine ih (i + 1) true (by omega) ⟨fun _ => ?_, fun _ => rfl⟩
        obtain ⟨j, hj, e⟩ := hb.mp rfl
        exact ⟨j, by omega, e⟩
      | false =>
        rw [if_pos (by decide)]
        refine ⟨n_in (by omega) (by decide), ?_⟩
        by_cases h20 : s.reverse[i]?.getD 0 = 20
        · rw [if_pos (by rw [h20]; rfl)]
          exact ih (i + 1) true (by omega) ⟨fun _ => ⟨i, by omega, h20⟩, fun _ => rfl⟩
        · rw [if_neg (show ¬ nI (s.reverse[i]?.getD 0) = 20 from fun q => h20 (nI_inj (b := 20) (by omega) (by omega) q))]
          refine ih (i + 1) false (by omega) ⟨fun z => (by cases z), fun ⟨j, hj, e⟩ => ?_⟩
          by_cases hji : j = i
          · rw [hji] at e; exact absurd e h20
          · exact hb.mpr ⟨j, by omega, e⟩
  exact loop s.length 0 false rfl ⟨fun z => (by cases z), fun ⟨j, hj, _⟩ => absurd hj (Nat.not_lt_zero _)⟩
theorem r_isFull {d u : Nat} {M : Mem} {K : Int32 → Mem → Prop} {s : List Nat} {c : List Int32} (h : FM M s u c) (hK : K (bI (decide (u = 30))) M) : CI d μX9_isFull [.ref 58] M K := by
  have hu := h.2.2.2.2.2.2.2.2.2.2
  refine sg_X9_isFull_0 ?_
  rw [h.2.2.2.2.1, if_neg (show ¬ nI u = 60 from fun q => by have := nI_inj (b := 60) (by omega) (by omega) q; omega), h.2.2.2.2.2.1]
  by_cases h30 : u = 30
  · rw [if_pos (by rw [h30]; rfl)]; rw [decide_eq_true h30] at hK; exact hK
  · rw [if_neg (show ¬ nI u = 30 from fun q => h30 (nI_inj (b := 30) (by omega) (by omega) q))]; rw [decide_eq_false h30] at hK; exact hK
section FormM
variable {T : Nat → Nat} {L : Nat}
theorem r_sign {d : Nat} {M : Mem} {K : Int32 → Mem → Prop} {σ : Rdg} (h : RN M L T σ) (hK : K (nI (sgn T L σ)) M) : CI (d + 1) μX9_sign [.ref 58] M K := by
  refine sg_X9_sign_0 (r_isWord (w := 8) (by omega) ow_and h ?_)
  unfold sgn at hK
  have one : ∀ (k : Nat) (B : Prop), k ≠ 3 → k < 1000 → (isK T L k σ = true → K (nI k) M) → (¬ isK T L k σ = true → B) → (if ri M 58 6 = nI k then K (ri M 58 6) M else B) := by
    intro k B h3 hk h1 h2
    have e := h.k (k := k) h3 hk
    by_cases hc : isK T L k σ = true
    · rw [if_pos (e.mpr hc), e.mpr hc]; exact h1 hc
    · rw [if_neg (fun q => hc (e.mp q))]; exact h2 hc
  by_cases h8 : isO T L 8 σ = true
  · rw [h8, if_neg (by decide)]; rw [if_pos h8] at hK; exact hK
  · rw [Bool.eq_false_iff.mpr h8, if_pos (by decide)]
    rw [if_neg h8] at hK
    refine r_isWord (w := 7) (by omega) ow_or h ?_
    by_cases h7 : isO T L 7 σ = true
    · rw [h7, if_neg (by decide)]; rw [if_pos h7] at hK; exact hK
    · rw [Bool.eq_false_iff.mpr h7, if_pos (by decide)]
      rw [if_neg h7] at hK
      refine one 60 _ (by omega) (by omega) (fun q => by rw [if_pos q] at hK; exact hK) (fun n1 => ?_)
      rw [if_neg n1] at hK
      refine one 62 _ (by omega) (by omega) (fun q => by rw [if_pos q] at hK; exact hK) (fun n2 => ?_)
      rw [if_neg n2] at hK
      refine one 61 _ (by omega) (by omega) (fun q => by rw [if_pos q] at hK; exact hK) (fun n3 => ?_)
      rw [if_neg n3] at hK
      refine one 43 _ (by omega) (by omega) (fun q => by rw [if_pos q] at hK; exact hK) (fun n4 => ?_)
      rw [if_neg n4] at hK
      refine one 45 _ (by omega) (by omega) (fun q => by rw [if_pos q] at hK; exact hK) (fun n5 => ?_)
      rw [if_neg n5] at hK
      refine one 42 _ (by omega) (by omega) (fun q => by rw [if_pos q] at hK; exact hK) (fun n6 => ?_)
      rw [if_neg n6] at hK
      refine one 47 _ (by omega) (by omega) (fun q => by rw [if_pos q] at hK; exact hK) (fun n7 => ?_)
      rw [if_neg n7] at hK
      refine one 37 _ (by omega) (by omega) (fun q => by rw [if_pos q] at hK; exact hK) (fun n8 => ?_)
      rw [if_neg n8] at hK
      exact hK
/-- what is asked, as the model numbers it -/
def akI (T : Nat → Nat) (L : Nat) (σ : Rdg) : Int32 := if isO T L 10 σ = true then 0 else if isO T L 5 σ = true then 1 else if isO T L 11 σ = true then 2 else if isO T L 12 σ = true then 3 else if isO T L 13 σ = true then 4 else -1
theorem r_asked {d : Nat} {M : Mem} {K : Int32 → Mem → Prop} {σ : Rdg} (h : RN M L T σ) (hK : K (akI T L σ) M) : CI d μX9_asked [.ref 58] M K := by
  refine sg_X9_asked_0 ?_
  unfold akI at hK
  have hk : ri M 58 6 = 1 ↔ isK T L 1 σ = true := h.k (k := 1) (by omega) (by omega)
  by_cases h1 : isK T L 1 σ = true
  · obtain ⟨e9, hwo⟩ := h.w h1
    rw [if_pos (hk.mpr h1), e9]
    have one : ∀ (w : Nat) (c : Int64) (A B : Prop), w < 14 → c = lN (v256 (own w)) → (isO T L w σ = true → A) → (¬ isO T L w σ = true → B) → (if lg_cmp (lN (v256 (sW T L σ))) c = 0 then A else B) := by
      intro w c A B hw hc hA hB
      have e := n256_eq hwo (own_ok hw)
      rw [hc]
      by_cases hq : sW T L σ = own w
      · rw [if_pos ((lg_cmp_eq _ _).mpr (e.mpr hq))]; exact hA (by unfold isO; rw [h1, Bool.true_and]; exact decide_eq_true hq)
      · rw [if_neg (fun z => hq (e.mp ((lg_cmp_eq _ _).mp z)))]
        exact hB (fun z => hq (by unfold isO at z; rw [h1, Bool.true_and] at z; exact of_decide_eq_true z))
    refine one 10 _ _ _ (by omega) ow_sides (fun q => by rw [if_pos q] at hK; exact hK) (fun n1 => ?_)
    rw [if_neg n1] at hK
    refine one 5 _ _ _ (by omega) ow_size (fun q => by rw [if_pos q] at hK; exact hK) (fun n2 => ?_)
    rw [if_neg n2] at hK
    refine one 11 _ _ _ (by omega) ow_near (fun q => by rw [if_pos q] at hK; exact hK) (fun n3 => ?_)
    rw [if_neg n3] at hK
    refine one 12 _ _ _ (by omega) ow_lords (fun q => by rw [if_pos q] at hK; exact hK) (fun n4 => ?_)
    rw [if_neg n4] at hK
    refine one 13 _ _ _ (by omega) ow_season (fun q => by rw [if_pos q] at hK; exact hK) (fun n5 => ?_)
    rw [if_neg n5] at hK
    exact hK
  · rw [if_neg (fun q => h1 (hk.mp q))]
    have no : ∀ v, isO T L v σ = false := fun v => by unfold isO; rw [Bool.eq_false_iff.mpr h1]; rfl
    rw [no, no, no, no, no] at hK
    exact hK
theorem lf_ak {σ : Rdg} : (isK T L 2 σ = true ∧ lf T L σ = some (nI (sN T L σ))) ∨ (isK T L 2 σ = false ∧ lf T L σ = none ∧ akI T L σ = -1) ∨ (isK T L 2 σ = false ∧ ∃ j x, j < 5 ∧ akI T L σ = nI j ∧ lf T L σ = some x ∧ encAt 1 (nI j) x) := by
  unfold lf akI
  by_cases h2 : isK T L 2 σ = true
  · left; rw [if_pos h2]; exact ⟨h2, rfl⟩
  · rw [if_neg h2]
    right
    have hf := Bool.eq_false_iff.mpr h2
    by_cases n1 : isO T L 10 σ = true
    · rw [if_pos n1, if_pos n1]; exact Or.inr ⟨hf, 0, -1, by omega, rfl, rfl, Or.inr (Or.inr (Or.inr ⟨by decide, by decide, rfl, 0, by omega, rfl, by decide⟩))⟩
    rw [if_neg n1, if_neg n1]
    by_cases n2 : isO T L 5 σ = true
    · rw [if_pos n2, if_pos n2]; exact Or.inr ⟨hf, 1, -2, by omega, rfl, rfl, Or.inr (Or.inr (Or.inr ⟨by decide, by decide, rfl, 1, by omega, rfl, by decide⟩))⟩
    rw [if_neg n2, if_neg n2]
    by_cases n3 : isO T L 11 σ = true
    · rw [if_pos n3, if_pos n3]; exact Or.inr ⟨hf, 2, -3, by omega, rfl, rfl, Or.inr (Or.inr (Or.inr ⟨by decide, by decide, rfl, 2, by omega, rfl, by decide⟩))⟩
    rw [if_neg n3, if_neg n3]
    by_cases n4 : isO T L 12 σ = true
    · rw [if_pos n4, if_pos n4]; exact Or.inr ⟨hf, 3, -4, by omega, rfl, rfl, Or.inr (Or.inr (Or.inr ⟨by decide, by decide, rfl, 3, by omega, rfl, by decide⟩))⟩
    rw [if_neg n4, if_neg n4]
    by_cases n5 : isO T L 13 σ = true
    · rw [if_pos n5, if_pos n5]; exact Or.inr ⟨hf, 4, -5, by omega, rfl, rfl, Or.inr (Or.inr (Or.inr ⟨by decide, by decide, rfl, 4, by omega, rfl, by decide⟩))⟩
    rw [if_neg n5, if_neg n5]
    exact Or.inl ⟨hf, rfl, rfl⟩
end FormM
