/-! formulas: how the class's descent and the model's stack of signs go together -/
section FormDefs
variable (T : Nat → Nat) (L : Nat)
def lf (σ : Rdg) : Option Int32 := if isK T L 2 σ = true then some (nI (sN T L σ)) else if isO T L 10 σ = true then some (-1) else if isO T L 5 σ = true then some (-2) else if isO T L 11 σ = true then some (-3) else if isO T L 12 σ = true then some (-4) else if isO T L 13 σ = true then some (-5) else none
def sgn (σ : Rdg) : Nat := if isO T L 8 σ = true then 38 else if isO T L 7 σ = true then 124 else if isK T L 60 σ = true then 60 else if isK T L 62 σ = true then 62 else if isK T L 61 σ = true then 61 else if isK T L 43 σ = true then 43 else if isK T L 45 σ = true then 45 else if isK T L 42 σ = true then 42 else if isK T L 47 σ = true then 47 else if isK T L 37 σ = true then 37 else 0
end FormDefs
def tg (x : Nat) : Nat := if x = 124 then 1 else if x = 38 then 2 else if x = 21 then 3 else if x = 60 ∨ x = 61 ∨ x = 62 then 4 else if x = 43 ∨ x = 45 then 5 else 6
def opc (x : Nat) : Int32 := if x = 21 then -6 else if x = 124 then -7 else if x = 38 then -8 else if x = 60 then -9 else if x = 62 then -10 else if x = 61 then -11 else if x = 43 then -12 else if x = 45 then -13 else if x = 42 then -14 else if x = 47 then -15 else -16
def okO (x : Nat) : Prop := x = 21 ∨ x = 124 ∨ x = 38 ∨ x = 60 ∨ x = 61 ∨ x = 62 ∨ x = 43 ∨ x = 45 ∨ x = 42 ∨ x = 47 ∨ x = 37
def cls (k : Nat) : List Nat → List Int32 → List Nat × List Int32
  | [], c => ([], c)
  | x :: s, c => if x = 20 ∨ tg x < k then (x :: s, c) else cls k s (c ++ [opc x])
def hrel : List Nat → Bool
  | [] => false
  | x :: s => if x = 20 then false else if 4 < tg x then hrel s else decide (tg x = 4)
def topt : List Nat → Nat
  | [] => 0
  | x :: _ => if x = 20 then 0 else tg x
def dp (s : List Nat) : Nat := s.countP (fun x => x == 20 || x == 21)
def bl (lev : Nat) : Nat := [1, 2, 3, 5, 6, 7].getD lev 7
def Bl (lev : Nat) : Nat := [0, 1, 3, 4, 5, 6].getD lev 6
def tl (lev : Nat) : Nat := [1, 2, 4, 5, 6].getD lev 9
theorem cls_pend {k : Nat} {s : List Nat} (hs : s = [] ∨ topt s < k ∨ ∃ s', s = 20 :: s') : ∀ (pend : List Nat) (c : List Int32), (∀ x ∈ pend, x ≠ 20 ∧ k ≤ tg x) → cls k (pend ++ s) c = (s, c ++ pend.map opc)
  | [], c, _ => by
    rw [List.nil_append, List.map_nil, List.append_nil]
    cases s with
    | nil => rfl
    | cons y s =>
      show (if y = 20 ∨ tg y < k then (y :: s, c) else cls k s (c ++ [opc y])) = (y :: s, c)
      rw [if_pos]
      rcases hs with h | h | ⟨s', h⟩
      · cases h
      · have h : (if y = 20 then 0 else tg y) < k := h
        by_cases hy : y = 20
        · exact Or.inl hy
        · rw [if_neg hy] at h; exact Or.inr h
      · exact Or.inl (List.cons.inj h).1
  | x :: p, c, h => by
    have hx := h x List.mem_cons_self
    show (if x = 20 ∨ tg x < k then (x :: (p ++ s), c) else cls k (p ++ s) (c ++ [opc x])) = _
    rw [if_neg (by rintro (q | q); exact hx.1 q; omega), cls_pend hs p _ (fun y hy => h y (List.mem_cons_of_mem _ hy)), List.map_cons, List.append_assoc]
    rfl
def Cl (T : Nat → Nat) (L : Nat) (U O : List Nat → Rdg → Nat → List Int32 → Prop) (F : Nat × Nat → Prop) (E : Rdg → Nat → List Int32 → Prop) : Prop :=
  (∀ s σ u c x, lf T L σ = some x → u < 30 → s.length ≤ 100 → c.length ≤ 300 → O s (nxt T L σ) (u + 1) (c ++ [x]) → U s σ u c) ∧
  (∀ s σ u c, isK T L 40 σ = true → u < 30 → dp s ≤ 6 → s.length ≤ 99 → U (20 :: s) (nxt T L σ) (u + 1) c → U s σ u c) ∧
  (∀ s σ u c, isO T L 9 σ = true → topt s < 4 → dp s ≤ 6 → s.length ≤ 99 → U (21 :: s) (nxt T L σ) u c → U s σ u c) ∧
  (∀ s σ u c, (isO T L 9 σ = true ∧ topt s < 4 ∧ 6 < dp s) ∨ (isK T L 40 σ = true ∧ (u = 30 ∨ 6 < dp s)) ∨ (¬ (isO T L 9 σ = true ∧ topt s < 4) ∧ isK T L 40 σ = false ∧ (lf T L σ = none ∨ u = 30)) → u ≤ 30 → s.length ≤ 99 → F (blP T L 2 σ) → U s σ u c) ∧
  (∀ s σ u c, isK T L 41 σ = true → 20 ∈ s → s.length ≤ 100 → (cls 0 s c).2.length ≤ 320 → O (cls 0 s c).1.tail (nxt T L σ) u (cls 0 s c).2 → O s σ u c) ∧
  (∀ s σ u c, sgn T L σ ≠ 0 → ¬ (tg (sgn T L σ) = 4 ∧ hrel s = true) → s.length ≤ 100 → (cls (tg (sgn T L σ)) s c).2.length ≤ 320 → U (sgn T L σ :: (cls (tg (sgn T L σ)) s c).1) (nxt T L σ) u (cls (tg (sgn T L σ)) s c).2 → O s σ u c) ∧
  (∀ s σ u c, (isK T L 41 σ = false ∨ ¬ 20 ∈ s) → (sgn T L σ = 0 ∨ (tg (sgn T L σ) = 4 ∧ hrel s = true)) → 20 ∈ s → s.length ≤ 100 → F (blP T L 2 σ) → O s σ u c) ∧
  (∀ s σ u c, (isK T L 41 σ = false ∨ ¬ 20 ∈ s) → (sgn T L σ = 0 ∨ (tg (sgn T L σ) = 4 ∧ hrel s = true)) → ¬ 20 ∈ s → s.length ≤ 100 → (cls 0 s c).2.length ≤ 320 → E σ u (cls 0 s c).2 → O s σ u c) ∧
  (∀ x u c, F x → E (.inr x) u c)
/-- l with what is open is s with all that is above it done -/
def NT (lev : Nat) (l : List Nat) (c0 : List Int32) (s : List Nat) (c' : List Int32) : Prop := ∃ pend, l = pend ++ s ∧ (∀ x ∈ pend, x ≠ 20 ∧ bl lev ≤ tg x ∧ okO x) ∧ c0 ++ pend.map opc = c' ∧ l.length ≤ 100
def OSm (T : Nat → Nat) (L : Nat) (O : List Nat → Rdg → Nat → List Int32 → Prop) (lev : Nat) (s : List Nat) (σ : Rdg) (u : Nat) (c' : List Int32) : Prop := ∀ l c0, NT lev l c0 s c' → (lev ≤ 2 → sgn T L σ ≠ 0 → tg (sgn T L σ) = 4 → hrel l = true) → O l σ u c0
def cmp (lev dep : Nat) (s : List Nat) : Prop := topt s ≤ Bl lev ∧ dp s = dep ∧ s.length ≤ 6 * dep + lev ∧ ∀ x ∈ s, x = 20 ∨ okO x
def Sim (T : Nat → Nat) (L lev dep : Nat) (σ : Rdg) (u : Nat) (c : List Int32) (σ' : Rdg) (u' : Nat) (c' : List Int32) : Prop := ∀ (U O : List Nat → Rdg → Nat → List Int32 → Prop) (F : Nat × Nat → Prop) (E : Rdg → Nat → List Int32 → Prop), Cl T L U O F E → ∀ s, cmp lev dep s → (3 ≤ lev → isO T L 9 σ = true → 4 ≤ topt s) → (∀ x, σ' = .inr x → F x → U s σ u c) ∧ ((∃ b, σ' = .inl b) → OSm T L O lev s σ' u' c' → U s σ u c)
/-- what may stand behind a part of this level -/
def Rt (T : Nat → Nat) (L lev : Nat) (σ : Rdg) : Prop := sgn T L σ ≠ 0 → tg (sgn T L σ) < tl lev ∨ (lev ≤ 2 ∧ tg (sgn T L σ) = 4) ∨ lev = 5
section FormPure
variable {T : Nat → Nat} {L : Nat}
theorem lf_r (x : Nat × Nat) : lf T L (.inr x) = none := rfl
theorem sgn_r (x : Nat × Nat) : sgn T L (.inr x) = 0 := rfl
theorem cmp_len {lev dep : Nat} {s : List Nat} (h : cmp lev dep s) (hl : lev ≤ 5) (hd : dep ≤ 7) : s.length ≤ 47 := by have := h.2.2.1; omega
theorem sim_fault {lev dep u : Nat} {c : List Int32} {x : Nat × Nat} {u' : Nat} {c' : List Int32} (hl : lev ≤ 5) (hd : dep ≤ 7) (hu : u ≤ 30) : Sim T L lev dep (.inr x) u c (.inr x) u' c' := by
  intro U O F E hC s hs hn9
  have hlen := cmp_len hs hl hd
  refine ⟨fun y hy hF => ?_, fun ⟨b, hb⟩ => by cases hb⟩
  cases hy
  exact hC.2.2.2.1 s (.inr x) u c (Or.inr (Or.inr ⟨fun q => (by cases q.1), rfl, Or.inl rfl⟩)) hu (by omega) hF
theorem cmp_up {lev dep : Nat} {s : List Nat} (hl : lev < 5) (h : cmp lev dep s) : cmp (lev + 1) dep s := by
  refine ⟨?_, h.2.1, by have := h.2.2.1; omega, h.2.2.2⟩
  have := h.1
  have hb : Bl lev ≤ Bl (lev + 1) := by
    have : lev = 0 ∨ lev = 1 ∨ lev = 2 ∨ lev = 3 ∨ lev = 4 := by omega
    rcases this with rfl | rfl | rfl | rfl | rfl <;> decide
  omega
theorem cmp_op {lev dep g : Nat} {s : List Nat} (hl : lev < 5) (h : cmp lev dep s) (hg : okO g) (h21 : g ≠ 21) (ht : tg g = tl lev) : cmp (lev + 1) dep (g :: s) := by
  refine ⟨?_, ?_, ?_, ?_⟩
  · show (if g = 20 then 0 else tg g) ≤ Bl (lev + 1)
    rw [if_neg (by unfold okO at hg; omega), ht]
    have : lev = 0 ∨ lev = 1 ∨ lev = 2 ∨ lev = 3 ∨ lev = 4 := by omega
    rcases this with rfl | rfl | rfl | rfl | rfl <;> decide
  · show List.countP (fun x => x == 20 || x == 21) (g :: s) = dep
    rw [List.countP_cons, if_neg (by unfold okO at hg; simp; omega)]; exact h.2.1
  · show s.length + 1 ≤ _; have := h.2.2.1; omega
  · intro x hx
    rcases List.mem_cons.mp hx with q | q
    · rw [q]; exact Or.inr hg
    · exact h.2.2.2 x q
theorem cmp_not {dep : Nat} {s : List Nat} (h : cmp 2 dep s) : cmp 2 (dep + 1) (21 :: s) := by
  refine ⟨by show (3 : Nat) ≤ 3; omega, ?_, by show s.length + 1 ≤ _; have := h.2.2.1; omega, ?_⟩
  · show List.countP (fun x => x == 20 || x == 21) (21 :: s) = dep + 1
    rw [List.countP_cons, if_pos (by decide)]; have := h.2.1; unfold dp at this; omega
  · intro x hx
    rcases List.mem_cons.mp hx with q | q
    · rw [q]; exact Or.inr (Or.inl rfl)
    · exact h.2.2.2 x q
theorem cmp_br {dep : Nat} {s : List Nat} (h : cmp 5 dep s) : cmp 0 (dep + 1) (20 :: s) := by
  refine ⟨by show (0 : Nat) ≤ 0; omega, ?_, by show s.length + 1 ≤ _; have := h.2.2.1; omega, ?_⟩
  · show List.countP (fun x => x == 20 || x == 21) (20 :: s) = dep + 1
    rw [List.countP_cons, if_pos (by decide)]; have := h.2.1; unfold dp at this; omega
  · intro x hx
    rcases List.mem_cons.mp hx with q | q
    · exact Or.inl q
    · exact h.2.2.2 x q
theorem bl_le {lev : Nat} (hl : lev < 5) : bl lev ≤ bl (lev + 1) ∧ bl lev ≤ tl lev ∧ Bl lev < tl lev ∧ (lev ≠ 2 → bl lev = tl lev) ∧ tl lev ≤ bl (lev + 1) := by
  have : lev = 0 ∨ lev = 1 ∨ lev = 2 ∨ lev = 3 ∨ lev = 4 := by omega
  rcases this with rfl | rfl | rfl | rfl | rfl <;> decide
/-- fewer are above s -/
theorem NT.up {lev : Nat} {l : List Nat} {c0 : List Int32} {s : List Nat} {c' : List Int32} (hl : lev < 5) (h : NT (lev + 1) l c0 s c') : NT lev l c0 s c' := by
  obtain ⟨p, h1, h2, h3, h4⟩ := h
  exact ⟨p, h1, fun x hx => ⟨(h2 x hx).1, Nat.le_trans (bl_le hl).1 (h2 x hx).2.1, (h2 x hx).2.2⟩, h3, h4⟩
theorem NT.op {lev k g : Nat} {l : List Nat} {c0 : List Int32} {s : List Nat} {c' : List Int32} (hk : bl lev ≤ bl k) (hg : okO g) (hb : bl lev ≤ tg g) (h : NT k l c0 (g :: s) c') : NT lev l c0 s (c' ++ [opc g]) := by
  obtain ⟨p, h1, h2, h3, h4⟩ := h
  refine ⟨p ++ [g], by rw [h1]; simp, fun x hx => ?_, by rw [← h3, List.map_append, List.append_assoc]; rfl, h4⟩
  rcases List.mem_append.mp hx with q | q
  · exact ⟨(h2 x q).1, Nat.le_trans hk (h2 x q).2.1, (h2 x q).2.2⟩
  · have : x = g := by simpa using q
    rw [this]; exact ⟨by unfold okO at hg; omega, hb, hg⟩
theorem hrel_app {s : List Nat} : ∀ (p : List Nat), (∀ x ∈ p, x ≠ 20 ∧ 5 ≤ tg x) → hrel (p ++ s) = hrel s
  | [], _ => rfl
  | x :: p, h => by
    have hx := h x List.mem_cons_self
    show (if x = 20 then false else if 4 < tg x then hrel (p ++ s) else decide (tg x = 4)) = _
    rw [if_neg hx.1, if_pos (by omega)]; exact hrel_app p (fun y hy => h y (List.mem_cons_of_mem _ hy))
theorem hrel_low {s : List Nat} (h : topt s < 4) : hrel s = false := by
  cases s with
  | nil => rfl
  | cons x s =>
    have h : (if x = 20 then 0 else tg x) < 4 := h
    show (if x = 20 then false else if 4 < tg x then hrel s else decide (tg x = 4)) = false
    split
    · rfl
    · rename_i hx; rw [if_neg hx] at h; rw [if_neg (by omega)]; exact decide_eq_false (by omega)
theorem hrel_rel {g : Nat} {s : List Nat} (hg : g ≠ 20) (h : tg g = 4) : hrel (g :: s) = true := by
  show (if g = 20 then false else if 4 < tg g then hrel s else decide (tg g = 4)) = true
  rw [if_neg hg, if_neg (by omega)]; exact decide_eq_true h
theorem tg_ge (x : Nat) : 1 ≤ tg x := by unfold tg; repeat' split
                                         all_goals omega
/-- a sign of two is met: the model's step -/
theorem op_step {U O : List Nat → Rdg → Nat → List Int32 → Prop} {F : Nat × Nat → Prop} {E : Rdg → Nat → List Int32 → Prop} (hC : Cl T L U O F E) {lev k dep u : Nat} {s l : List Nat} {σ : Rdg} {c0 c1 : List Int32} (hl : lev < 5) (hs : cmp lev dep s) (h0 : sgn T L σ ≠ 0) (ht : tg (sgn T L σ) = tl lev) (hk : tl lev ≤ bl k) (hr : lev = 2 → 5 ≤ bl k) (hc : c1.length ≤ 320) (h : NT k l c0 s c1) (hU : U (sgn T L σ :: s) (nxt T L σ) u c1) : O l σ u c0 := by
  obtain ⟨p, h1, h2, h3, h4⟩ := h
  have hst : topt s < tl lev := Nat.lt_of_le_of_lt hs.1 (bl_le hl).2.2.1
  have e : cls (tg (sgn T L σ)) l c0 = (s, c1) := by
    rw [h1, ht, cls_pend (Or.inr (Or.inl hst)) p c0 (fun x hx => ⟨(h2 x hx).1, Nat.le_trans hk (h2 x hx).2.1⟩), h3]
  refine hC.2.2.2.2.2.1 l σ u c0 h0 (fun q => ?_) h4 (by rw [e]; exact hc) (by rw [e]; exact hU)
  have hl2 : lev = 2 := by
    have : lev = 0 ∨ lev = 1 ∨ lev = 2 ∨ lev = 3 ∨ lev = 4 := by omega
    rw [ht] at q
    rcases this with rfl | rfl | rfl | rfl | rfl
    · exact absurd q.1 (by decide)
    · exact absurd q.1 (by decide)
    · rfl
    · exact absurd q.1 (by decide)
    · exact absurd q.1 (by decide)
  have h5 := hr hl2
  subst hl2
  rw [h1, hrel_app p (fun x hx => ⟨(h2 x hx).1, Nat.le_trans h5 (h2 x hx).2.1⟩), hrel_low (show topt s < 4 from hst)] at q
  cases q.2
end FormPure
