/-! takeCorner, isCorner, third -/
/-- a corner goes (the first such one) -/
def tk (m : Nat) : List Nat → List Nat
  | [] => []
  | x :: t => if x = m then t else x :: tk m t
theorem tk_at {m : Nat} : ∀ (C : List Nat) (k : Nat), k < C.length → C[k]?.getD 0 = m → (∀ u, u < k → C[u]?.getD 0 ≠ m) → tk m C = C.take k ++ C.drop (k + 1) := by
  intro C
  induction C with
  | nil => intro k hk; exact absurd hk (Nat.not_lt_zero _)
  | cons x t ih =>
    intro k hk h1 h2
    cases k with
    | zero => simp at h1; simp [tk, h1]
    | succ k =>
      have hx := h2 0 (by omega)
      simp at hx
      have := ih k (by simpa using hk) (by simpa using h1) (fun u hu => by have := h2 (u + 1) (by omega); simpa using this)
      simp [tk, hx, this]
theorem tk_len {m : Nat} : ∀ {C : List Nat}, m ∈ C → (tk m C).length + 1 = C.length := by
  intro C
  induction C with
  | nil => intro h; cases h
  | cons x t ih =>
    intro h
    unfold tk
    by_cases c : x = m
    · rw [if_pos c]; rfl
    · rw [if_neg c, List.length_cons, List.length_cons, ih ((List.mem_cons.mp h).resolve_left (fun z => c z.symm))]
theorem tk_mem {m x : Nat} : ∀ {C : List Nat}, x ∈ tk m C → x ∈ C := by
  intro C
  induction C with
  | nil => intro h; exact h
  | cons y t ih =>
    intro h
    unfold tk at h
    split at h
    · exact List.mem_cons_of_mem _ h
    · rcases List.mem_cons.mp h with h | h
      · rw [h]; exact List.mem_cons_self
      · exact List.mem_cons_of_mem _ (ih h)
theorem first_at {m : Nat} : ∀ {C : List Nat}, m ∈ C → ∃ k, k < C.length ∧ C[k]?.getD 0 = m ∧ ∀ u, u < k → C[u]?.getD 0 ≠ m := by
  intro C
  induction C with
  | nil => intro h; cases h
  | cons x t ih =>
    intro h
    by_cases c : x = m
    · exact ⟨0, by simp, by simp [c], fun u hu => absurd hu (Nat.not_lt_zero _)⟩
    · obtain ⟨k, h1, h2, h3⟩ := ih ((List.mem_cons.mp h).resolve_left (fun z => c z.symm))
      refine ⟨k + 1, by simpa using h1, by simpa using h2, fun u hu => ?_⟩
      cases u with
      | zero => simpa using c
      | succ u => have := h3 u (by omega); simpa using this
theorem tk_srt {m : Nat} {C : List Nat} (hm : m ∈ C) (h : srt C) : srt (tk m C) := by
  obtain ⟨k, h1, h2, h3⟩ := first_at hm
  have e := tk_at C k h1 h2 h3
  have g : ∀ u, (tk m C)[u]?.getD 0 = if u < k then C[u]?.getD 0 else C[u + 1]?.getD 0 := by
    intro u
    rw [e, List.getElem?_append, List.length_take, Nat.min_eq_left (by omega)]
    by_cases c : u < k
    · rw [if_pos c, if_pos c, List.getElem?_take, if_pos c]
    · rw [if_neg c, if_neg c, List.getElem?_drop, show k + 1 + (u - k) = u + 1 by omega]
  intro i j hij hj
  have hl := tk_len hm
  rw [g, g]
  split <;> split
  · exact h i j hij (by omega)
  · exact h i (j + 1) (by omega) (by omega)
  · omega
  · exact h (i + 1) (j + 1) (by omega) (by omega)
theorem r_takeCorner {d : Nat} {M0 : Mem} {K : Mem → Prop} {S : Sh} {m : Nat} (hS : SOk S) (hm : m ∈ sc S) (hA : Ar M0 69 S) (hK : ∀ M', Sa M0 M' → Ar M' 69 (setC S (tk m (sc S))) → K M') : CV d μX9_takeCorner [.ref 58, .int (nI (cdm m))] M0 K := by
  have h12 := hS.2.2.1
  have hT : ∀ u, u < (sc S).length → T3 ((sc S)[u]?.getD 0) := fun u hu => by
    rw [List.getElem?_eq_getElem hu]; exact hS.2.2.2.1 _ (List.getElem_mem _)
  have hTm := hS.2.2.2.1 m hm
  have hcm := cdm_lt m hTm.1
  obtain ⟨k, hk1, hk2, hk3⟩ := first_at hm
  have hl := tk_len hm
  have e := tk_at (sc S) k hk1 hk2 hk3
  have g : ∀ u, (tk m (sc S))[u]?.getD 0 = if u < k then (sc S)[u]?.getD 0 else (sc S)[u + 1]?.getD 0 := by
    intro u
    rw [e, List.getElem?_append, List.length_take, Nat.min_eq_left (by omega)]
    by_cases c : u < k
    · rw [if_pos c, if_pos c, List.getElem?_take, if_pos c]
    · rw [if_neg c, if_neg c, List.getElem?_drop, show k + 1 + (u - k) = u + 1 by omega]
  -- the rest is moved down
  have shift : ∀ (f j : Nat) (M : Mem), f + j + 1 = (sc S).length → k ≤ j → Sa M0 M → (∀ i, 13 ≤ i → ri M 69 i = ri M0 69 i) → ri M 69 12 = nI ((sc S).length - 1) → (∀ u, u < j → ri M 69 u = nI (cdm ((tk m (sc S))[u]?.getD 0))) → (∀ u, j ≤ u → u < (sc S).length → ri M 69 u = nI (cdm ((sc S)[u]?.getD 0)) ∨ u = j) → (∀ u, j < u → u < (sc S).length → ri M 69 u = nI (cdm ((sc S)[u]?.getD 0))) →
      RV d μX9_takeCorner 31 [(0, .ref 58), (1, .int (nI (cdm m))), (2, .int (nI k)), (3, .int (nI j))] [] M K := by
    intro f
    induction f with
    | zero =>
      intro j M hj hkj hSa h13 hn hlow _ hhi
      refine sg_X9_takeCorner_31 ?_
      rw [x_12, hn, if_pos (by rw [nI_leI (by omega) (by omega)]; omega)]
      refine ⟨n_in (by omega) (by decide), ?_⟩
      intro M1 hm1
      rw [show nx (nI ((sc S).length - 1)) = (sc S).length - 1 from nI_clamp (by omega)] at hm1
      have r : ∀ i, ri M1 69 i = if i = (sc S).length - 1 then 0 else ri M 69 i := by intro i; rw [hm1, ri_wi]; simp
      refine hK M1 (hSa.trans (by rw [hm1]; exact Sa.wi)) (Ar.frame hA (fun i hi => ?_) ?_ (fun u hu => ?_))
      · rw [r, if_neg (by omega)]; exact h13 i hi
      · rw [r, if_neg (by omega), hn]; congr 1; omega
      · rw [r, if_neg (by omega)]; exact hlow u (by omega)
    | succ f ih =>
      intro j M hj hkj hSa h13 hn hlow _ hhi
      refine sg_X9_takeCorner_31 ?_
      rw [x_12, hn, if_neg (by rw [nI_leI (by omega) (by omega)]; omega), nI_1]
      refine ⟨n_in (by omega) (by decide), n_in (by omega) (by decide), ?_⟩
      intro M2 hm2
      rw [show nx (nI j) = j from nI_clamp (by omega), show nx (nI (j + 1)) = j + 1 from nI_clamp (by omega), hhi (j + 1) (by omega) (by omega)] at hm2
      have r : ∀ i, ri M2 69 i = if i = j then nI (cdm ((sc S)[j + 1]?.getD 0)) else ri M 69 i := by intro i; rw [hm2, ri_wi]; simp
      refine ih (j + 1) M2 (by omega) (by omega) (hSa.trans (by rw [hm2]; exact Sa.wi)) (fun i hi => by rw [r, if_neg (by omega)]; exact h13 i hi) (by rw [r, if_neg (by omega)]; exact hn) (fun u hu => ?_) (fun u h1 h2 => ?_) (fun u h1 h2 => ?_)
      · rw [r]
        by_cases hz : u = j
        · rw [if_pos hz, hz, g, if_neg (by omega)]
        · rw [if_neg hz]; exact hlow u (by omega)
      · left; rw [r, if_neg (by omega)]; exact hhi u (by omega) h2
      · rw [r, if_neg (by omega)]; exact hhi u (by omega) h2
  -- it is sought
  have seek : ∀ (f i : Nat), f + i = k → RV d μX9_takeCorner 2 [(0, .ref 58), (1, .int (nI (cdm m))), (2, .int (nI i))] [] M0 K := by
    intro f
    induction f with
    | zero =>
      intro i hi
      have hi : i = k := by omega
      subst hi
      refine sg_X9_takeCorner_2 ⟨n_in (by omega) (by decide), ?_⟩
      rw [show nx (nI i) = i from nI_clamp (by omega), hA.1 i hk1, hk2, if_pos rfl]
      intro M1 hm1
      rw [x_12, hA.2.1] at hm1
      have ep : nI (sc S).length - 1 = nI ((sc S).length - 1) := by
        obtain ⟨z, hz⟩ : ∃ z, (sc S).length = z + 1 := ⟨(sc S).length - 1, by omega⟩
        rw [hz]; exact nI_pred z
      rw [ep] at hm1
      have r : ∀ u, ri M1 69 u = if u = 12 then nI ((sc S).length - 1) else ri M0 69 u := by intro u; rw [hm1, ri_wi]; simp
      refine shift ((sc S).length - 1 - i) i M1 (by omega) (Nat.le_refl _) (by rw [hm1]; exact Sa.wi) (fun u hu => by rw [r, if_neg (by omega)]) (by rw [r, if_pos rfl]) (fun u hu => ?_) (fun u h1 h2 => Or.inl ?_) (fun u h1 h2 => ?_)
      · rw [r, if_neg (by omega), g, if_pos hu]; exact hA.1 u (by omega)
      · rw [r, if_neg (by omega)]; exact hA.1 u h2
      · rw [r, if_neg (by omega)]; exact hA.1 u h2
    | succ f ih =>
      intro i hi
      refine sg_X9_takeCorner_2 ⟨n_in (by omega) (by decide), ?_⟩
      rw [show nx (nI i) = i from nI_clamp (by omega), hA.1 i (by omega)]
      have hne := hk3 i (by omega)
      have hci := cdm_lt _ (hT i (by omega)).1
      rw [if_neg (by rw [nI_eq (by omega) (by omega)]; exact fun z => hne (cdm_eq (hT i (by omega)) hTm z)), nI_1]
      exact ih (i + 1) (by omega)
  exact sg_X9_takeCorner_0 (seek k 0 rfl)
theorem r_isCorner {d : Nat} {M : Mem} {K : Int32 → Mem → Prop} {S : Sh} {m : Nat} (hm : T3 m) (hS : SOk S) (hA : Ar M 69 S) (h : K (bI (decide (m ∈ sc S))) M) : CI d μX9_isCorner [.ref 58, .int (nI (cdm m))] M K := by
  have h12 := hS.2.2.1
  have hT : ∀ u, u < (sc S).length → T3 ((sc S)[u]?.getD 0) := fun u hu => by
    rw [List.getElem?_eq_getElem hu]; exact hS.2.2.2.1 _ (List.getElem_mem _)
  have hcm := cdm_lt m hm.1
  refine sg_X9_isCorner_0 ?_
  have loop : ∀ (f i : Nat), f + i = (sc S).length → RI d μX9_isCorner 4 [(0, .ref 58), (1, .int (nI (cdm m))), (2, .int (bI (decide (m ∈ (sc S).take i)))), (3, .int (nI i))] [] M K := by
    intro f
    induction f with
    | zero =>
      intro i hi
      have hi : i = (sc S).length := by omega
      subst hi
      refine sg_X9_isCorner_4 ?_
      rw [x_12, hA.2.1, if_pos (by rw [nI_leI (by omega) (by omega)]; omega), List.take_length]
      exact ⟨by cases decide (m ∈ sc S) <;> decide, h⟩
    | succ f ih =>
      intro i hi
      have hlt : i < (sc S).length := by omega
      refine sg_X9_isCorner_4 ?_
      rw [x_12, hA.2.1, if_neg (by rw [nI_leI (by omega) (by omega)]; omega), nI_1]
      have hrec := ih (i + 1) (by omega)
      have e4 : (sc S).take (i + 1) = (sc S).take i ++ [(sc S)[i]?.getD 0] := by
        rw [List.take_add_one, List.getElem?_eq_getElem hlt]; rfl
      rw [e4] at hrec
      by_cases hin : m ∈ (sc S).take i
      · rw [show decide (m ∈ (sc S).take i) = true by simp [hin], if_neg (by decide)]
        rw [show decide (m ∈ (sc S).take i ++ [(sc S)[i]?.getD 0]) = true by simp [hin]] at hrec
        exact hrec
      · rw [show decide (m ∈ (sc S).take i) = false by simp [hin], if_pos (by decide)]
        refine ⟨n_in (by omega) (by decide), ?_⟩
        rw [show nx (nI i) = i from nI_clamp (by omega), hA.1 i hlt]
        have hci := cdm_lt _ (hT i hlt).1
        by_cases hc : (sc S)[i]?.getD 0 = m
        · rw [if_pos (by rw [hc])]
          rw [show decide (m ∈ (sc S).take i ++ [(sc S)[i]?.getD 0]) = true by simp [hc]] at hrec
          exact hrec
        · rw [if_neg (by rw [nI_eq (by omega) (by omega)]; exact fun z => hc (cdm_eq (hT i hlt) hm z))]
          have hno : ¬ m ∈ (sc S).take i ++ [(sc S)[i]?.getD 0] := by
            intro z
            rcases List.mem_append.mp z with z | z
            · exact hin z
            · exact hc (List.mem_singleton.mp z).symm
          rw [show decide (m ∈ (sc S).take i ++ [(sc S)[i]?.getD 0]) = false from decide_eq_false hno] at hrec
          exact hrec
  exact loop (sc S).length 0 rfl
