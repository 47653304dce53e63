theorem tk_comm (a b : Nat) : ∀ (C : List Nat), tk a (tk b C) = tk b (tk a C) := by
  intro C
  induction C with
  | nil => rfl
  | cons x t ih =>
    by_cases ha : x = a
    · by_cases hb : x = b
      · have : a = b := ha.symm.trans hb
        rw [this]
      · have e1 : tk b (x :: t) = x :: tk b t := tk_skip hb t
        have e2 : tk a (x :: t) = t := by show (if x = a then t else _) = _; rw [if_pos ha]
        rw [e1, e2]
        show (if x = a then tk b t else _) = _
        rw [if_pos ha]
    · have e2 : tk a (x :: t) = x :: tk a t := tk_skip ha t
      by_cases hb : x = b
      · have e1 : tk b (x :: t) = t := by show (if x = b then t else _) = _; rw [if_pos hb]
        rw [e1, e2]
        show _ = (if x = b then tk a t else _)
        rw [if_pos hb]
      · have e1 : tk b (x :: t) = x :: tk b t := tk_skip hb t
        rw [e1, e2, tk_skip ha, tk_skip hb, ih]
theorem three_tk {m1 m2 m3 A B D : Nat} (hA : A ∈ [m1, m2, m3]) (hB : B ∈ [m1, m2, m3]) (hD : D ∈ [m1, m2, m3]) (h1 : A ≠ B) (h2 : A ≠ D) (h3 : B ≠ D) (C : List Nat) : tk m3 (tk m2 (tk m1 C)) = tk D (tk B (tk A C)) := by
  simp only [List.mem_cons, List.not_mem_nil, or_false] at hA hB hD
  rcases hA with rfl | rfl | rfl <;> rcases hB with rfl | rfl | rfl <;> rcases hD with rfl | rfl | rfl <;> first
    | exact absurd rfl h1
    | exact absurd rfl h2
    | exact absurd rfl h3
    | rfl
    | (rw [tk_comm A D, tk_comm A B]; done)
    | (rw [tk_comm B D, tk_comm A D, tk_comm A B]; done)
    | (rw [tk_comm A B]; done)
    | (rw [tk_comm A D, tk_comm B D]; done)
    | (rw [tk_comm B D]; done)
theorem orm_pf (p : Nat) : ∀ (C : List Nat), orm p C = orm p (pf (2 ^ p) C) := by
  intro C
  induction C with
  | nil => rfl
  | cons x t ih =>
    by_cases h : x.testBit p = true
    · have e2 : pf (2 ^ p) (x :: t) = x :: pf (2 ^ p) t := by unfold pf; simp [List.filter_cons, pow_and.mpr h]
      rw [e2]; unfold orm; rw [if_pos h, if_pos h, ih]
    · have hn : ¬ x &&& 2 ^ p = 2 ^ p := fun z => h (pow_and.mp z)
      have e2 : pf (2 ^ p) (x :: t) = pf (2 ^ p) t := by unfold pf; simp [List.filter_cons, hn]
      rw [e2]
      show (if x.testBit p = true then x ||| orm p t else orm p t) = _
      rw [if_neg h, ih]
theorem cnm_pf (p q : Nat) : ∀ (C : List Nat), cnm (pr p q) C = (pf (2 ^ p) C).countP (fun m => m.testBit q) := by
  intro C
  induction C with
  | nil => rfl
  | cons x t ih =>
    have e0 : cnm (pr p q) (x :: t) = cnm (pr p q) t + if x &&& pr p q = pr p q then 1 else 0 := by
      unfold cnm; rw [List.countP_cons]; simp
    rw [e0, ih]
    by_cases h : x.testBit p = true
    · have e2 : pf (2 ^ p) (x :: t) = x :: pf (2 ^ p) t := by unfold pf; simp [List.filter_cons, pow_and.mpr h]
      rw [e2, List.countP_cons]
      congr 1
      by_cases h2 : x.testBit q = true
      · rw [if_pos (and_pr.mpr ⟨h, h2⟩), if_pos h2]
      · rw [if_neg (fun z => h2 (and_pr.mp z).2), if_neg h2]
    · have hn : ¬ x &&& 2 ^ p = 2 ^ p := fun z => h (pow_and.mp z)
      have e2 : pf (2 ^ p) (x :: t) = pf (2 ^ p) t := by unfold pf; simp [List.filter_cons, hn]
      rw [e2, if_neg (fun z => h (and_pr.mp z).1), Nat.add_zero]
theorem bxyz : ∀ s, s < 256 → pc8 s = 3 → bx s < 8 ∧ bY s < 8 ∧ bz s < 8 ∧ bx s ≠ bY s ∧ bx s ≠ bz s ∧ bY s ≠ bz s ∧ tri (bx s) (bY s) (bz s) = s ∧ s.testBit (bx s) = true ∧ s.testBit (bY s) = true ∧ s.testBit (bz s) = true := by decide +kernel
/-- with three sides: three neighbours, and just the corners of him and two of them each -/
theorem three_at {C : List Nat} (hT : ∀ m ∈ C, T3 m) (h1 : N1 C) {p : Nat} (hp : p < 8) (h3 : dgm C p = 3) : T3 (nbm C p) ∧ tri p (bx (nbm C p)) (bY (nbm C p)) ∈ C ∧ tri p (bx (nbm C p)) (bz (nbm C p)) ∈ C ∧ tri p (bY (nbm C p)) (bz (nbm C p)) ∈ C ∧ ∃ m1 m2 m3, pf (2 ^ p) C = [m1, m2, m3] ∧ tri p (bx (nbm C p)) (bY (nbm C p)) ∈ [m1, m2, m3] ∧ tri p (bx (nbm C p)) (bz (nbm C p)) ∈ [m1, m2, m3] ∧ tri p (bY (nbm C p)) (bz (nbm C p)) ∈ [m1, m2, m3] := by
  have hl := pf_len (2 ^ p) C
  rw [cnm_dgm, h3] at hl
  match hpf : pf (2 ^ p) C, hl with
  | [m1, m2, m3], _ =>
    have inL : ∀ m, m ∈ [m1, m2, m3] → m ∈ Lp p ∧ m ∈ C := by
      intro m hm
      rw [← hpf] at hm
      have hm' := List.mem_filter.mp hm
      have ht := hT m hm'.1
      refine ⟨List.mem_filter.mpr ⟨List.mem_range.mpr ht.1, ?_⟩, hm'.1⟩
      rw [show (pc8 m == 3) = true by simp [ht.2], Bool.true_and]
      exact pow_and.mp (by simpa using hm'.2)
    have g := List.all_eq_true.mp (List.all_eq_true.mp (List.all_eq_true.mp (List.all_eq_true.mp vanB p (List.mem_range.mpr hp)) m1 (inL m1 (by simp)).1) m2 (inL m2 (by simp)).1) m3 (inL m3 (by simp)).1
    unfold van1 at g
    have hcnt : ((List.range 8).all fun q => q == p || c3 m1 m2 m3 q == 0 || c3 m1 m2 m3 q == 2) = true := by
      rw [List.all_eq_true]
      intro q hq
      by_cases hqp : q = p
      · simp [hqp]
      · have e := cnm_pf p q C
        rw [hpf] at e
        have e2 : [m1, m2, m3].countP (fun m => m.testBit q) = c3 m1 m2 m3 q := by
          unfold c3
          simp only [List.countP_cons, List.countP_nil]
          omega
        rw [e2] at e
        have := h1 p q hp (List.mem_range.mp hq) (fun z => hqp z.symm)
        rw [e] at this
        rcases this with z | z <;> simp [z]
    rw [hcnt, Bool.not_true, Bool.false_or] at g
    have horm : orm p C = m1 ||| m2 ||| m3 := by
      rw [orm_pf, hpf]
      have tb : ∀ m, m ∈ [m1, m2, m3] → m.testBit p = true := fun m hm => by
        have := (List.mem_filter.mp (inL m hm).1).2
        simp only [Bool.and_eq_true] at this
        exact this.2
      unfold orm
      rw [if_pos (tb m1 (by simp))]
      unfold orm
      rw [if_pos (tb m2 (by simp))]
      unfold orm
      rw [if_pos (tb m3 (by simp))]
      unfold orm
      rw [Nat.or_zero, Nat.or_assoc]
    have hnb : nbm C p = clr (m1 ||| m2 ||| m3) (2 ^ p) := by unfold nbm; rw [horm]
    rw [← hnb] at g
    simp only [Bool.and_eq_true, beq_iff_eq, List.contains_iff_mem] at g
    have na : nbm C p < 256 := nbm_lt (n := 8) (fun m hm => (hT m hm).1)
    exact ⟨⟨na, g.1.1.1⟩, (inL _ g.1.1.2).2, (inL _ g.1.2).2, (inL _ g.2).2, m1, m2, m3, rfl, g.1.1.2, g.1.2, g.2⟩
/-- what vanishes, in the reference's steps -/
theorem vanS_ref {S : Sh} (hS : SOk S) (hs : srt (sc S)) (h1 : N1 (sc S)) {p : Nat} (hp : p < 8) (h3 : dgm (sc S) p = 3) : drp (2 ^ p) (sc S) = tk (tri p (bY (nbm (sc S) p)) (bz (nbm (sc S) p))) (tk (tri p (bx (nbm (sc S) p)) (bz (nbm (sc S) p))) (tk (tri p (bx (nbm (sc S) p)) (bY (nbm (sc S) p))) (sc S))) := by
  obtain ⟨hT, -, -, -, m1, m2, m3, hpf, q1, q2, q3⟩ := three_at hS.2.2.2.1 h1 hp h3
  obtain ⟨x8, y8, z8, xy, xz, yz, -, bx1, by1, bz1⟩ := bxyz _ hT.1 hT.2
  have hpn : ∀ j, (nbm (sc S) p).testBit j = true → j ≠ p := by
    intro j hj z
    rw [z] at hj
    unfold nbm at hj
    rw [clr_tb, Nat.testBit_two_pow] at hj
    simp at hj
  have px := hpn _ bx1
  have py := hpn _ by1
  have pz := hpn _ bz1
  rw [drp_fold, hpf]
  have ne : ∀ u v w z : Nat, z ≠ p → z ≠ u → z ≠ v → tri p u v ≠ tri p w z := by
    intro u v w z a1 a2 a3 e
    have : (tri p u v).testBit z = (tri p w z).testBit z := by rw [e]
    rw [tri_tb, tri_tb] at this
    simp at this
    omega
  exact three_tk q1 q2 q3 (ne _ _ _ _ pz (fun q => xz q.symm) (fun q => yz q.symm)) (ne _ _ _ _ pz (fun q => xz q.symm) (fun q => yz q.symm)) (fun e => ne _ _ _ _ py (fun q => xy q.symm) yz (e.trans (by unfold tri; rw [Nat.or_assoc, Nat.or_assoc, Nat.or_comm (2 ^ bY _)]))) (sc S)
