/-! the order of corners doesn't hang on how they came -/
theorem ins_comm {x y : Nat} (hxy : cdm x = cdm y → x = y) : ∀ (L : List Nat), ins x (ins y L) = ins y (ins x L) := by
  intro L
  induction L with
  | nil =>
    show (if cdm x < cdm y then [x, y] else y :: ins x []) = (if cdm y < cdm x then [y, x] else x :: ins y [])
    rcases Nat.lt_trichotomy (cdm x) (cdm y) with h | h | h
    · rw [if_pos h, if_neg (by omega)]; rfl
    · rw [hxy h]
    · rw [if_neg (by omega), if_pos h]; rfl
  | cons z t ih =>
    have e : ∀ m (z : Nat) (t : List Nat), ins m (z :: t) = if cdm m < cdm z then m :: z :: t else z :: ins m t := fun _ _ _ => rfl
    by_cases h1 : cdm x < cdm z
    · by_cases h2 : cdm y < cdm z
      · rw [e y, if_pos h2, e x z, if_pos h1, e x y, e y x]
        rcases Nat.lt_trichotomy (cdm x) (cdm y) with h | h | h
        · rw [if_pos h, if_neg (by omega), e y z, if_pos h2]
        · rw [hxy h]
        · rw [if_neg (by omega), if_pos h, e x z, if_pos h1]
      · rw [e y, if_neg h2, e x z, if_pos h1, e x z, if_pos h1, e y x, if_neg (by omega), e y z, if_neg h2]
    · by_cases h2 : cdm y < cdm z
      · rw [e y, if_pos h2, e x y, if_neg (by omega), e x z, if_neg h1, e y z, if_pos h2]
      · rw [e y, if_neg h2, e x z, if_neg h1, e x z, if_neg h1, e y z, if_neg h2, ih]
theorem fold_perm {X Y : List Nat} (h : X.Perm Y) : (∀ m ∈ X, T3 m) → ∀ acc : List Nat, X.foldl (fun acc m => ins m acc) acc = Y.foldl (fun acc m => ins m acc) acc := by
  induction h with
  | nil => intro _ acc; rfl
  | cons x _ ih => intro hT acc; exact ih (fun m hm => hT m (List.mem_cons_of_mem _ hm)) _
  | swap x y l =>
    intro hT acc
    show (l.foldl _ (ins x (ins y acc))) = l.foldl _ (ins y (ins x acc))
    rw [ins_comm (fun z => cdm_eq (hT x (by simp)) (hT y (by simp)) z)]
  | trans h1 _ ih1 ih2 => intro hT acc; rw [ih1 hT acc, ih2 (fun m hm => hT m (h1.mem_iff.mpr hm)) acc]
theorem sortC_perm {X Y : List Nat} (h : X.Perm Y) (hT : ∀ m ∈ X, T3 m) : sortC X = sortC Y := fold_perm h hT []
theorem ins_perm (m : Nat) : ∀ (L : List Nat), (ins m L).Perm (m :: L) := by
  intro L
  induction L with
  | nil => exact List.Perm.refl _
  | cons x t ih =>
    show (if cdm m < cdm x then m :: x :: t else x :: ins m t).Perm _
    split
    · exact List.Perm.refl _
    · exact (List.Perm.cons x ih).trans (List.Perm.swap m x t)
theorem tk_perm {m : Nat} : ∀ {L : List Nat}, m ∈ L → (m :: tk m L).Perm L := by
  intro L
  induction L with
  | nil => intro h; cases h
  | cons x t ih =>
    intro h
    by_cases c : x = m
    · have : tk m (x :: t) = t := by show (if x = m then t else _) = _; rw [if_pos c]
      rw [this, c]
    · rw [tk_skip c]
      exact (List.Perm.swap x m (tk m t)).trans (List.Perm.cons x (ih ((List.mem_cons.mp h).resolve_left (fun z => c z.symm))))
