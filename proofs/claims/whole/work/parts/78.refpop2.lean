/-! the reference's doPop -/
def fab (a b x : Nat) : Nat := if x = b then a else x
theorem fabB : ((List.range 256).all fun v => !(pc8 v == 3) || (List.range 8).all fun a => (List.range 8).all fun b => !(v.testBit b) || v.testBit a || ((tri (fab a b (bx v)) (fab a b (bY v)) (fab a b (bz v)) == rpl a b v) && !(fab a b (bx v) == fab a b (bY v)) && !(fab a b (bx v) == fab a b (bz v)) && !(fab a b (bY v) == fab a b (bz v)) && !((rpl a b v).testBit b))) = true := by decide +kernel
theorem fab_ok {v a b : Nat} (hv : T3 v) (ha : a < 8) (hb : b < 8) (h1 : v.testBit b = true) (h2 : v.testBit a = false) : tri (fab a b (bx v)) (fab a b (bY v)) (fab a b (bz v)) = rpl a b v ∧ fab a b (bx v) ≠ fab a b (bY v) ∧ fab a b (bx v) ≠ fab a b (bz v) ∧ fab a b (bY v) ≠ fab a b (bz v) ∧ (rpl a b v).testBit b = false := by
  have g1 := List.all_eq_true.mp fabB v (List.mem_range.mpr hv.1)
  rw [show (pc8 v == 3) = true by simp [hv.2], Bool.not_true, Bool.false_or] at g1
  have g2 := List.all_eq_true.mp g1 a (List.mem_range.mpr ha)
  have g3 := List.all_eq_true.mp g2 b (List.mem_range.mpr hb)
  rw [h1, h2] at g3
  simp only [Bool.not_true, Bool.false_or, Bool.and_eq_true, beq_iff_eq, Bool.not_eq_true', beq_eq_false_iff_ne] at g3
  exact ⟨g3.1.1.1.1, g3.1.1.1.2, g3.1.1.2, g3.1.2, g3.2⟩
theorem tk_not {m : Nat} : ∀ {L : List Nat}, ¬ m ∈ L → tk m L = L := by
  intro L
  induction L with
  | nil => intro _; rfl
  | cons x t ih =>
    intro h
    rw [tk_skip (fun z => h (by rw [z]; exact List.mem_cons_self)), ih (fun z => h (List.mem_cons_of_mem _ z))]
theorem rpl_rpl {a b v : Nat} (h : (rpl a b v).testBit b = false) : rpl a b (rpl a b v) = rpl a b v := by
  show (if (rpl a b v).testBit b then _ else rpl a b v) = _
  rw [h]; rfl
theorem map_rpl_id {a b : Nat} : ∀ {L : List Nat}, (∀ m ∈ L, m.testBit b = false) → L.map (rpl a b) = L := by
  intro L
  induction L with
  | nil => intro _; rfl
  | cons x t ih =>
    intro h
    have e : rpl a b x = x := by unfold rpl; rw [h x List.mem_cons_self]; rfl
    rw [List.map_cons, e, ih (fun m hm => h m (List.mem_cons_of_mem _ hm))]
/-- one corner with b goes out and comes back with a -/
theorem pop_step {a b v : Nat} {L : List Nat} (hT : ∀ m ∈ L.map (rpl a b), T3 m) (hv : v ∈ L) (h : (rpl a b v).testBit b = false) : sortC ((ins (rpl a b v) (tk v L)).map (rpl a b)) = sortC (L.map (rpl a b)) := by
  have p1 : ((ins (rpl a b v) (tk v L)).map (rpl a b)).Perm (L.map (rpl a b)) := by
    refine ((ins_perm (rpl a b v) (tk v L)).map (rpl a b)).trans ?_
    rw [List.map_cons, rpl_rpl h, ← List.map_cons]
    exact (tk_perm hv).map (rpl a b)
  exact sortC_perm p1 (fun m hm => hT m (p1.mem_iff.mp hm))
