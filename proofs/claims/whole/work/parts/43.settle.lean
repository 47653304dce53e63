/-! the corners are put in order (settle) -/
/-- what is outside a Froth object and its rows stays -/
def Sm (M M' : Mem) (o : Nat) : Prop := (∀ k, (k < o ∨ o + 5 < k) → ∀ j, ri M' k j = ri M k j) ∧ ∀ k j, rl M' k j = rl M k j
theorem Sm.rf {M : Mem} {o : Nat} : Sm M M o := ⟨fun _ _ _ => rfl, fun _ _ => rfl⟩
theorem Sm.trans {M M' M'' : Mem} {o : Nat} (h : Sm M M' o) (h2 : Sm M' M'' o) : Sm M M'' o := ⟨fun k hk j => (h2.1 k hk j).trans (h.1 k hk j), fun k j => (h2.2 k j).trans (h.2 k j)⟩
theorem Sm.wi {M : Mem} {o k j : Nat} {x : Int32} (h1 : o ≤ k) (h2 : k ≤ o + 5) : Sm M (wi M k j x) o := ⟨fun a ha b => by rw [ri_wi, if_neg (fun q => by omega)], fun _ _ => rfl⟩
def setC (S : Sh) (C : List Nat) : Sh := (sn S, sb S, sy S, sd S, C, sz S)
theorem sc_setC (S : Sh) (C : List Nat) : sc (setC S C) = C := rfl
/-- one corner is put among others that are in order -/
def ins (m : Nat) : List Nat → List Nat
  | [] => [m]
  | x :: t => if cdm m < cdm x then m :: x :: t else x :: ins m t
def sortC : List Nat → List Nat := fun C => C.foldl (fun acc m => ins m acc) []
def srt (C : List Nat) : Prop := ∀ i j, i < j → j < C.length → cdm (C[i]?.getD 0) ≤ cdm (C[j]?.getD 0)
theorem ins_len (m : Nat) : ∀ C : List Nat, (ins m C).length = C.length + 1 := by
  intro C
  induction C with
  | nil => rfl
  | cons x t ih => unfold ins; split <;> simp [ih]
theorem ins_mem {m x : Nat} : ∀ {C : List Nat}, x ∈ ins m C ↔ x = m ∨ x ∈ C := by
  intro C
  induction C with
  | nil => simp [ins]
  | cons y t ih =>
    unfold ins
    split
    · simp
    · simp only [List.mem_cons, ih]
      constructor
      · rintro (h | h | h) <;> simp [h]
      · rintro (h | h | h) <;> simp [h]
theorem ins_at {m : Nat} : ∀ (P : List Nat) (t : Nat), t ≤ P.length → (∀ u, u < t → ¬ cdm m < cdm (P[u]?.getD 0)) → (∀ u, t ≤ u → u < P.length → cdm m < cdm (P[u]?.getD 0)) → ins m P = P.take t ++ m :: P.drop t := by
  intro P
  induction P with
  | nil => intro t ht _ _; simp at ht; subst ht; rfl
  | cons x l ih =>
    intro t ht h1 h2
    cases t with
    | zero =>
      have := h2 0 (Nat.le_refl _) (by simp)
      simp at this
      simp [ins, this]
    | succ t =>
      have := h1 0 (by omega)
      simp at this
      have h3 := ih t (by simpa using ht) (fun u hu => by have := h1 (u + 1) (by omega); simpa using this) (fun u hu hl => by have := h2 (u + 1) (by omega) (by simpa using hl); simpa using this)
      simp only [ins, if_neg (Nat.not_lt.mpr this), h3, List.take_succ_cons, List.drop_succ_cons, List.cons_append]
theorem ins_get {m : Nat} {P : List Nat} {t : Nat} (e : ins m P = P.take t ++ m :: P.drop t) (ht : t ≤ P.length) (u : Nat) : (ins m P)[u]?.getD 0 = if u < t then P[u]?.getD 0 else if u = t then m else P[u - 1]?.getD 0 := by
  rw [e, List.getElem?_append, List.length_take, Nat.min_eq_left ht]
  by_cases h : u < t
  · rw [if_pos h, if_pos h, List.getElem?_take, if_pos h]
  · rw [if_neg h, if_neg h]
    by_cases h2 : u = t
    · subst h2; simp
    · rw [if_neg h2]
      obtain ⟨w, rfl⟩ : ∃ w, u = t + 1 + w := ⟨u - t - 1, by omega⟩
      rw [show t + 1 + w - t = w + 1 by omega, List.getElem?_cons_succ, List.getElem?_drop, show t + 1 + w - 1 = t + w by omega]
theorem ins_srt {m : Nat} : ∀ {C : List Nat}, srt C → srt (ins m C) := by
  intro C hC
  -- the place where m comes in
  obtain ⟨t, ht, h1, h2⟩ : ∃ t, t ≤ C.length ∧ (∀ u, u < t → ¬ cdm m < cdm (C[u]?.getD 0)) ∧ ∀ u, t ≤ u → u < C.length → cdm m < cdm (C[u]?.getD 0) := by
    have key : ∀ n, n ≤ C.length → (∀ u, n ≤ u → u < C.length → cdm m < cdm (C[u]?.getD 0)) → ∃ t, t ≤ C.length ∧ (∀ u, u < t → ¬ cdm m < cdm (C[u]?.getD 0)) ∧ ∀ u, t ≤ u → u < C.length → cdm m < cdm (C[u]?.getD 0) := by
      intro n
      induction n with
      | zero => intro _ h; exact ⟨0, by omega, fun u hu => absurd hu (Nat.not_lt_zero u), h⟩
      | succ n ih =>
        intro hn h
        by_cases hq : cdm m < cdm (C[n]?.getD 0)
        · exact ih (by omega) (fun u hu hl => by
            rcases Nat.eq_or_lt_of_le hu with q | q
            · subst q; exact hq
            · exact h u q hl)
        · refine ⟨n + 1, hn, fun u hu => ?_, h⟩
          rcases Nat.eq_or_lt_of_le (Nat.le_of_lt_succ hu) with q | q
          · subst q; exact hq
          · have := hC u n q (by omega)
            omega
    exact key C.length (Nat.le_refl _) (fun u h1 h2 => by omega)
  have e := ins_at C t ht h1 h2
  intro i j hij hj
  rw [ins_len] at hj
  rw [ins_get e ht i, ins_get e ht j]
  by_cases a1 : i < t
  · rw [if_pos a1]
    by_cases a2 : j < t
    · rw [if_pos a2]; exact hC i j hij (by omega)
    · rw [if_neg a2]
      by_cases a3 : j = t
      · rw [if_pos a3]; have := h1 i a1; omega
      · rw [if_neg a3]
        rcases Nat.eq_or_lt_of_le (show i ≤ j - 1 by omega) with q | q
        · rw [← q]; exact Nat.le_refl _
        · exact hC i (j - 1) q (by omega)
  · rw [if_neg a1, if_neg (by omega : ¬ j < t), if_neg (by omega : ¬ j = t)]
    by_cases a3 : i = t
    · rw [if_pos a3]; have := h2 (j - 1) (by omega) (by omega); omega
    · rw [if_neg a3]
      rcases Nat.eq_or_lt_of_le (show i - 1 ≤ j - 1 by omega) with q | q
      · rw [q]; exact Nat.le_refl _
      · exact hC (i - 1) (j - 1) (by omega) (by omega)
theorem fold_srt : ∀ (C acc : List Nat), srt acc → srt (C.foldl (fun acc m => ins m acc) acc) := by
  intro C
  induction C with
  | nil => intro acc h; exact h
  | cons m l ih => intro acc h; exact ih _ (ins_srt h)
theorem sortC_srt (C : List Nat) : srt (sortC C) := fold_srt C [] (fun i j _ h => absurd h (Nat.not_lt_zero _))
theorem fold_len : ∀ (C acc : List Nat), (C.foldl (fun acc m => ins m acc) acc).length = acc.length + C.length := by
  intro C
  induction C with
  | nil => intro acc; rfl
  | cons m l ih => intro acc; rw [List.foldl_cons, ih, ins_len, List.length_cons]; omega
theorem sortC_len (C : List Nat) : (sortC C).length = C.length := by unfold sortC; rw [fold_len]; simp
theorem fold_mem {x : Nat} : ∀ (C acc : List Nat), x ∈ C.foldl (fun acc m => ins m acc) acc ↔ x ∈ acc ∨ x ∈ C := by
  intro C
  induction C with
  | nil => intro acc; simp
  | cons m l ih =>
    intro acc
    rw [List.foldl_cons, ih, ins_mem]
    simp only [List.mem_cons]
    constructor
    · rintro ((h | h) | h) <;> simp [h]
    · rintro (h | h | h) <;> simp [h]
theorem sortC_mem {x : Nat} (C : List Nat) : x ∈ sortC C ↔ x ∈ C := by unfold sortC; rw [fold_mem]; simp
theorem sortC_snoc (C : List Nat) (m : Nat) : sortC (C ++ [m]) = ins m (sortC C) := by unfold sortC; rw [List.foldl_append]; rfl
