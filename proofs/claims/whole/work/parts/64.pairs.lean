/-! pairs of lords and the corners at their wall -/
def pf (b : Nat) (C : List Nat) : List Nat := C.filter (fun m => decide (m &&& b = b))
theorem pf_len (b : Nat) (C : List Nat) : (pf b C).length = cnm b C := by unfold pf cnm; exact List.countP_eq_length_filter.symm
theorem tk_skip {m x : Nat} (h : x ≠ m) (t : List Nat) : tk m (x :: t) = x :: tk m t := by
  show (if x = m then t else x :: tk m t) = _
  rw [if_neg h]
theorem fold_tk_cons {x : Nat} : ∀ (F t : List Nat), (∀ m ∈ F, m ≠ x) → F.foldl (fun acc m => tk m acc) (x :: t) = x :: F.foldl (fun acc m => tk m acc) t := by
  intro F
  induction F with
  | nil => intro t _; rfl
  | cons m l ih =>
    intro t h
    rw [List.foldl_cons, List.foldl_cons, tk_skip (fun z => h m List.mem_cons_self z.symm)]
    exact ih _ (fun y hy => h y (List.mem_cons_of_mem _ hy))
/-- to drop all corners of a pair is to take them one by one -/
theorem drp_fold (b : Nat) : ∀ (C : List Nat), drp b C = (pf b C).foldl (fun acc m => tk m acc) C := by
  intro C
  induction C with
  | nil => rfl
  | cons x t ih =>
    by_cases h : x &&& b = b
    · have e1 : drp b (x :: t) = drp b t := by unfold drp; simp [List.filter_cons, h]
      have e2 : pf b (x :: t) = x :: pf b t := by unfold pf; simp [List.filter_cons, h]
      rw [e1, e2, List.foldl_cons]
      show _ = (pf b t).foldl _ (if x = x then t else _)
      rw [if_pos rfl]
      exact ih
    · have e1 : drp b (x :: t) = x :: drp b t := by unfold drp; simp [List.filter_cons, h]
      have e2 : pf b (x :: t) = pf b t := by unfold pf; simp [List.filter_cons, h]
      rw [e1, e2, ih, fold_tk_cons]
      intro m hm z
      have := (List.mem_filter.mp hm).2
      rw [z] at this
      exact h (by simpa using this)
theorem enm_pf (b : Nat) : ∀ (C : List Nat), enm b C = enm b (pf b C) := by
  intro C
  induction C with
  | nil => rfl
  | cons x t ih =>
    by_cases h : x &&& b = b
    · have e2 : pf b (x :: t) = x :: pf b t := by unfold pf; simp [List.filter_cons, h]
      rw [e2]; unfold enm; rw [if_pos h, if_pos h, ih]
    · have e2 : pf b (x :: t) = pf b t := by unfold pf; simp [List.filter_cons, h]
      rw [e2]
      show (if x &&& b = b then clr x b ||| enm b t else enm b t) = _
      rw [if_neg h, ih]
theorem thS_pf (w b : Nat) (C : List Nat) : thS w b C = thS w b (pf b C) := by
  have key : ∀ (C : List Nat) (cur : Option Nat), C.foldl (thSt w b) cur = (pf b C).foldl (thSt w b) cur := by
    intro C
    induction C with
    | nil => intro cur; rfl
    | cons x t ih =>
      intro cur
      by_cases h : x &&& b = b
      · have e2 : pf b (x :: t) = x :: pf b t := by unfold pf; simp [List.filter_cons, h]
        rw [e2, List.foldl_cons, List.foldl_cons, ih]
      · have e2 : pf b (x :: t) = pf b t := by unfold pf; simp [List.filter_cons, h]
        have e3 : thSt w b cur x = cur := by unfold thSt; rw [if_neg h]
        rw [e2, List.foldl_cons, e3, ih]
  exact key C none
/-- every two lords have no wall, or one with two corners -/
def N1 (C : List Nat) : Prop := ∀ a b, a < 8 → b < 8 → a ≠ b → cnm (pr a b) C = 0 ∨ cnm (pr a b) C = 2
theorem orm_tb {p j : Nat} : ∀ (C : List Nat), (orm p C).testBit j = true ↔ ∃ m ∈ C, m.testBit p = true ∧ m.testBit j = true := by
  intro C
  induction C with
  | nil => simp [orm]
  | cons x t ih =>
    unfold orm
    by_cases h : x.testBit p = true
    · rw [if_pos h, Nat.testBit_or, Bool.or_eq_true, ih]
      constructor
      · rintro (z | ⟨m, h1, h2⟩)
        · exact ⟨x, List.mem_cons_self, h, z⟩
        · exact ⟨m, List.mem_cons_of_mem _ h1, h2⟩
      · rintro ⟨m, h1, h2⟩
        rcases List.mem_cons.mp h1 with rfl | h1
        · exact Or.inl h2.2
        · exact Or.inr ⟨m, h1, h2⟩
    · rw [if_neg h, ih]
      constructor
      · rintro ⟨m, h1, h2⟩; exact ⟨m, List.mem_cons_of_mem _ h1, h2⟩
      · rintro ⟨m, h1, h2⟩
        rcases List.mem_cons.mp h1 with rfl | h1
        · exact absurd h2.1 h
        · exact ⟨m, h1, h2⟩
theorem nbm_tb {C : List Nat} {a b : Nat} (hab : a ≠ b) : (nbm C a).testBit b = true ↔ 0 < cnm (pr a b) C := by
  unfold nbm
  rw [clr_tb, Nat.testBit_two_pow, show decide (a = b) = false from decide_eq_false hab, Bool.not_false, Bool.and_true, orm_tb]
  unfold cnm
  rw [List.countP_pos_iff]
  constructor
  · rintro ⟨m, h1, h2⟩; exact ⟨m, h1, by simpa using and_pr.mpr h2⟩
  · rintro ⟨m, h1, h2⟩; exact ⟨m, h1, and_pr.mp (by simpa using h2)⟩
theorem pr_comm (a b : Nat) : pr a b = pr b a := by unfold pr; exact Nat.or_comm _ _
theorem nbm_sym {C : List Nat} {a b : Nat} (hab : a ≠ b) : (nbm C a).testBit b = (nbm C b).testBit a := by
  have h1 := nbm_tb (C := C) hab
  have h2 := nbm_tb (C := C) (fun z => hab z.symm)
  rw [pr_comm b a] at h2
  cases e1 : (nbm C a).testBit b <;> cases e2 : (nbm C b).testBit a
  · rfl
  · rw [e1] at h1; rw [e2] at h2; exact absurd (h1.mpr (h2.mp rfl)) (by decide)
  · rw [e1] at h1; rw [e2] at h2; exact absurd (h2.mpr (h1.mp rfl)) (by decide)
  · rfl
theorem mtI_nat {S : Sh} (hS : SOk S) {a b : Nat} (ha : a < sn S) (hb : b < sn S) : mtI S (nI a) (nI b) = (nbm (sc S) a).testBit b := by
  have h8 := hS.1
  unfold mtI nx
  rw [nI_clamp (by omega), nI_clamp (by omega), show decide (0 ≤ nI a ∧ nI a < nI (sn S) ∧ 0 ≤ nI b ∧ nI b < nI (sn S)) = true from decide_eq_true ⟨nI_pos' (by omega), nI_lt ha (by omega), nI_pos' (by omega), nI_lt hb (by omega)⟩, Bool.true_and]
theorem triB : ((List.range 256).all fun m => !(pc8 m == 3) || (List.range 8).all fun a => (List.range 8).all fun b => a == b || !((m &&& pr a b) == pr a b) || ((tri a b (low8 (clr m (pr a b))) == m) && !(low8 (clr m (pr a b)) == a) && !(low8 (clr m (pr a b)) == b))) = true := by decide +kernel
theorem tri_of {m a b : Nat} (hm : T3 m) (ha : a < 8) (hb : b < 8) (hab : a ≠ b) (h : m &&& pr a b = pr a b) : tri a b (low8 (clr m (pr a b))) = m ∧ low8 (clr m (pr a b)) ≠ a ∧ low8 (clr m (pr a b)) ≠ b := by
  have h1 := List.all_eq_true.mp triB m (List.mem_range.mpr hm.1)
  rw [show (pc8 m == 3) = true by simp [hm.2], Bool.not_true, Bool.false_or] at h1
  have h2 := List.all_eq_true.mp h1 a (List.mem_range.mpr ha)
  have h3 := List.all_eq_true.mp h2 b (List.mem_range.mpr hb)
  rw [show (a == b) = false by simp [hab], show ((m &&& pr a b) == pr a b) = true by simp [h]] at h3
  simp only [Bool.not_true, Bool.false_or, Bool.and_eq_true, beq_iff_eq, Bool.not_eq_true', beq_eq_false_iff_ne] at h3
  exact ⟨h3.1.1, h3.1.2, h3.2⟩
/-- the two corners at a wall, in order, and their thirds -/
theorem two_at {C : List Nat} (hT : ∀ m ∈ C, T3 m) {a b : Nat} (ha : a < 8) (hb : b < 8) (hab : a ≠ b) (h2 : cnm (pr a b) C = 2) : ∃ c e, c < 8 ∧ e < 8 ∧ c ≠ a ∧ c ≠ b ∧ e ≠ a ∧ e ≠ b ∧ pf (pr a b) C = [tri a b c, tri a b e] ∧ thS 0 (pr a b) C = some c ∧ thS 1 (pr a b) C = some e ∧ enm (pr a b) C = 2 ^ c ||| 2 ^ e ∧ drp (pr a b) C = tk (tri a b e) (tk (tri a b c) C) := by
  have hl := pf_len (pr a b) C
  rw [h2] at hl
  match hpf : pf (pr a b) C, hl with
  | [m1, m2], _ =>
    have q1 : m1 ∈ pf (pr a b) C := by rw [hpf]; simp
    have q2 : m2 ∈ pf (pr a b) C := by rw [hpf]; simp
    have w1 := List.mem_filter.mp q1
    have w2 := List.mem_filter.mp q2
    have g1 : m1 &&& pr a b = pr a b := by simpa using w1.2
    have g2 : m2 &&& pr a b = pr a b := by simpa using w2.2
    obtain ⟨t1, t2⟩ := third_ok (hT m1 w1.1) ha hb hab g1
    obtain ⟨u1, u2⟩ := third_ok (hT m2 w2.1) ha hb hab g2
    obtain ⟨v1, v2, v3⟩ := tri_of (hT m1 w1.1) ha hb hab g1
    obtain ⟨x1, x2, x3⟩ := tri_of (hT m2 w2.1) ha hb hab g2
    refine ⟨low8 (clr m1 (pr a b)), low8 (clr m2 (pr a b)), t2, u2, v2, v3, x2, x3, ?_, ?_, ?_, ?_, ?_⟩
    · rw [v1, x1]
    · rw [thS_pf, hpf]
      unfold thS
      rw [List.foldl_cons, List.foldl_cons, List.foldl_nil]
      unfold thSt
      rw [if_pos g2, if_pos g1]
      rfl
    · rw [thS_pf, hpf]
      unfold thS
      rw [List.foldl_cons, List.foldl_cons, List.foldl_nil]
      unfold thSt
      rw [if_pos g2, if_neg (fun z => absurd z.1 (by decide))]
    · rw [enm_pf, hpf]
      unfold enm
      rw [if_pos g1]
      unfold enm
      rw [if_pos g2]
      unfold enm
      rw [Nat.or_zero, ← t1, ← u1]
    · rw [drp_fold, hpf, v1, x1]
      rfl
theorem two_low : ((List.range 8).all fun c => (List.range 8).all fun e => c == e || ((low8 (2 ^ c ||| 2 ^ e) == min c e) && (low8 ((2 ^ c ||| 2 ^ e) &&& ((2 ^ c ||| 2 ^ e) - 1)) == max c e) && (pc8 (2 ^ c ||| 2 ^ e) == 2))) = true := by decide +kernel
theorem two_low' {c e : Nat} (hc : c < 8) (he : e < 8) (h : c ≠ e) : low8 (2 ^ c ||| 2 ^ e) = min c e ∧ low8 ((2 ^ c ||| 2 ^ e) &&& ((2 ^ c ||| 2 ^ e) - 1)) = max c e ∧ pc8 (2 ^ c ||| 2 ^ e) = 2 := by
  have h1 := List.all_eq_true.mp two_low c (List.mem_range.mpr hc)
  have h2 := List.all_eq_true.mp h1 e (List.mem_range.mpr he)
  rw [show (c == e) = false by simp [h]] at h2
  simp only [Bool.false_or, Bool.and_eq_true, beq_iff_eq] at h2
  exact ⟨h2.1.1, h2.1.2, h2.2⟩
theorem one_pc : ∀ c, c < 8 → ¬ pc8 (2 ^ c ||| 2 ^ c) = 2 := by decide +kernel
