/-! the reference's canFlip, doFlip -/
/-- corners are of lords who are there; who is there is told -/
def N4 (S : Sh) : Prop := (∀ m ∈ sc S, ∀ j, m.testBit j = true → (sb S).testBit j = true) ∧ ∀ j, (sb S).testBit j = true → j < sn S
theorem tri_tb {a b c j : Nat} : (tri a b c).testBit j = (decide (a = j) || decide (b = j) || decide (c = j)) := by
  unfold tri; rw [Nat.testBit_or, Nat.testBit_or, Nat.testBit_two_pow, Nat.testBit_two_pow, Nat.testBit_two_pow]
theorem dec_or {p : Prop} {i : Decidable p} {b : Bool} (h : p ↔ b = true) : decide p = b := by
  cases b with
  | true => exact decide_eq_true (h.mpr rfl)
  | false => exact decide_eq_false (fun z => absurd (h.mp z) (by decide))
/-- what canFlip asks, in the reference's words, is what fe says -/
theorem fe_iff {S : Sh} (hS : SOk S) (h1 : N1 (sc S)) (h4 : N4 S) {a b : Nat} (ha : a < sn S) (hb : b < sn S) (hab : a ≠ b) (hm : (nbm (sc S) a).testBit b = true) {c e : Nat} (hc : c < 8) (he : e < 8) (hcs : c < sn S) (hes : e < sn S) (h2 : cnm (pr a b) (sc S) = 2) (hen : enm (pr a b) (sc S) = 2 ^ c ||| 2 ^ e) : fe S a b ≠ 0 ↔ (c ≠ e ∧ (nbm (sc S) c).testBit e = false ∧ 4 ≤ dgm (sc S) a ∧ 4 ≤ dgm (sc S) b) := by
  have hmt : mtI S (nI a) (nI b) = true := by rw [mtI_nat hS ha hb]; exact hm
  unfold fe
  rw [hmt, if_neg (by decide)]
  by_cases cd : dgm (sc S) a < 4 ∨ dgm (sc S) b < 4
  · rw [if_pos cd]
    constructor
    · intro z; exact absurd rfl z
    · rintro ⟨-, -, z1, z2⟩; omega
  · rw [if_neg cd, hen]
    by_cases ce : c = e
    · rw [if_neg (fun z => by rw [ce] at z; exact one_pc e he z.2.1)]
      constructor
      · intro z; exact absurd rfl z
      · rintro ⟨z, -⟩; exact absurd ce z
    · obtain ⟨l1, l2, l3⟩ := two_low' hc he ce
      rw [l1, l2]
      have hsym : mtI S (nI (min c e)) (nI (max c e)) = (nbm (sc S) c).testBit e := by
        rcases Nat.lt_or_ge c e with z | z
        · rw [Nat.min_eq_left (by omega), Nat.max_eq_right (by omega)]; exact mtI_nat hS hcs hes
        · rw [Nat.min_eq_right z, Nat.max_eq_left z, mtI_nat hS hes hcs]; exact nbm_sym (fun q => ce q.symm)
      rw [hsym]
      cases hq : (nbm (sc S) c).testBit e with
      | false =>
        rw [if_pos ⟨h2, l3, rfl⟩]
        constructor
        · intro _; exact ⟨ce, rfl, by omega, by omega⟩
        · intro _ z; have := pc8 0; rw [z] at l3; exact absurd l3 (by decide)
      | true =>
        rw [if_neg (fun z => absurd z.2.2 (by decide))]
        constructor
        · intro z; exact absurd rfl z
        · rintro ⟨-, z, -⟩; exact absurd z (by decide)
theorem cnm_mem {C : List Nat} {b x : Nat} (h : x ∈ pf b C) : x ∈ C := (List.mem_filter.mp h).1
theorem r_third0 {d : Nat} {M : Mem} {K : Int32 → Mem → Prop} {S : Sh} {a b : Nat} (ha : a < 8) (hb : b < 8) (hab : a ≠ b) (hS : SOk S) (hA : Ar M 69 S) (h : K (oI (thS 0 (pr a b) (sc S))) M) : CI (d + 1) μX9_third [.ref 58, .int (nI a), .int (nI b), .int 0] M K := r_third (w := 0) ha hb hab (by decide) hS hA h
theorem r_third1 {d : Nat} {M : Mem} {K : Int32 → Mem → Prop} {S : Sh} {a b : Nat} (ha : a < 8) (hb : b < 8) (hab : a ≠ b) (hS : SOk S) (hA : Ar M 69 S) (h : K (oI (thS 1 (pr a b) (sc S))) M) : CI (d + 1) μX9_third [.ref 58, .int (nI a), .int (nI b), .int 1] M K := r_third (w := 1) ha hb hab (by decide) hS hA h
theorem r_canFlip {d : Nat} {M : Mem} {K : Int32 → Mem → Prop} {S : Sh} {a b : Nat} (ha : a < sn S) (hb : b < sn S) (hS : SOk S) (h1 : N1 (sc S)) (h4 : N4 S) (hA : Ar M 69 S) (h : K (bI (decide (fe S a b ≠ 0))) M) : CI (d + 3) μX9_canFlip [.ref 58, .int (nI a), .int (nI b)] M K := by
  have h8 := hS.1
  have h12 := hS.2.2.1
  refine sg_X9_canFlip_0 ?_
  by_cases hab : a = b
  · rw [if_pos (by rw [hab])]
    have : fe S a b = 0 := by unfold fe; rw [hab, mtI_self b (by omega), if_pos rfl]
    rw [show decide (fe S a b ≠ 0) = false from decide_eq_false (fun z => z this)] at h
    exact h
  rw [if_neg (by rw [nI_eq (by omega) (by omega)]; exact hab)]
  refine r_doBorder (by omega) (by omega) hS hA ?_
  cases hm : (nbm (sc S) a).testBit b with
  | false =>
    rw [if_pos (by decide)]
    have : fe S a b = 0 := by unfold fe; rw [mtI_nat hS ha hb, hm, if_pos rfl]
    rw [show decide (fe S a b ≠ 0) = false from decide_eq_false (fun z => z this)] at h
    exact h
  | true =>
    rw [if_neg (by decide)]
    have h2 : cnm (pr a b) (sc S) = 2 := by
      have := (nbm_tb hab).mp hm
      rcases h1 a b (by omega) (by omega) hab with z | z <;> omega
    obtain ⟨c, e, hc, he, -, -, -, -, hpf, t0, t1, hen, -⟩ := two_at hS.2.2.2.1 (by omega) (by omega) hab h2
    have hcs : c < sn S := h4.2 c (h4.1 (tri a b c) (cnm_mem (by rw [hpf]; simp)) c (by rw [tri_tb]; simp))
    have hes : e < sn S := h4.2 e (h4.1 (tri a b e) (cnm_mem (by rw [hpf]; simp)) e (by rw [tri_tb]; simp))
    have iff := fe_iff hS h1 h4 ha hb hab hm hc he hcs hes h2 hen
    refine r_third0 (d := d + 1) (by omega) (by omega) hab hS hA ?_
    rw [t0]
    refine r_third1 (d := d + 1) (by omega) (by omega) hab hS hA ?_
    rw [t1]
    show (if nI c = nI e then _ else _)
    by_cases ce : c = e
    · rw [if_pos (by rw [ce])]
      rw [show decide (fe S a b ≠ 0) = false from decide_eq_false (fun z => (iff.mp z).1 ce)] at h
      exact h
    · rw [if_neg (by rw [nI_eq (by omega) (by omega)]; exact ce)]
      refine r_doBorder (d := d) hc (by omega) hS hA ?_
      cases hq : (nbm (sc S) c).testBit e with
      | true =>
        rw [if_neg (by decide)]
        rw [show decide (fe S a b ≠ 0) = false from decide_eq_false (fun z => by have := (iff.mp z).2.1; rw [hq] at this; exact absurd this (by decide))] at h
        exact h
      | false =>
        rw [if_pos (by decide)]
        have g1 := Nat.le_trans (dgm_le (sc S) a) h12
        have g2 := Nat.le_trans (dgm_le (sc S) b) h12
        refine r_sidesOf (d := d + 1) (by omega) hS hA ?_
        by_cases c1 : dgm (sc S) a < 4
        · rw [if_pos (by rw [l_4, nI_ltI (by omega) (by omega)]; exact c1)]
          rw [show decide (fe S a b ≠ 0) = false from decide_eq_false (fun z => by have := (iff.mp z).2.2.1; omega)] at h
          exact h
        · rw [if_neg (by rw [l_4, nI_ltI (by omega) (by omega)]; exact c1)]
          refine r_sidesOf (d := d + 1) (by omega) hS hA ?_
          by_cases c2 : dgm (sc S) b < 4
          · rw [if_pos (by rw [l_4, nI_ltI (by omega) (by omega)]; exact c2)]
            rw [show decide (fe S a b ≠ 0) = false from decide_eq_false (fun z => by have := (iff.mp z).2.2.2; omega)] at h
            exact h
          · rw [if_neg (by rw [l_4, nI_ltI (by omega) (by omega)]; exact c2)]
            rw [show decide (fe S a b ≠ 0) = true from decide_eq_true (iff.mpr ⟨ce, hq, by omega, by omega⟩)] at h
            exact h
theorem tk_T3 {m : Nat} {C : List Nat} (h : ∀ x ∈ C, T3 x) : ∀ x ∈ tk m C, T3 x := fun x hx => h x (tk_mem hx)
theorem tri_acd {a c e : Nat} : 2 ^ c ||| 2 ^ e ||| 2 ^ a = tri a c e := by unfold tri; rw [Nat.or_comm, Nat.or_assoc]
theorem drp_srt {b : Nat} {C : List Nat} (h : srt C) : srt (drp b C) := by
  have key : ∀ (C : List Nat), srt C → srt (drp b C) := by
    intro C
    induction C with
    | nil => intro h; exact h
    | cons x t ih =>
      intro h
      have ht : srt t := fun i j hij hj => by have := h (i + 1) (j + 1) (by omega) (by simpa using hj); simpa using this
      have hx : ∀ y ∈ t, cdm x ≤ cdm y := by
        intro y hy
        obtain ⟨i, hi⟩ := List.mem_iff_getElem?.mp hy
        have hlt := (List.getElem?_eq_some_iff.mp hi).1
        have := h 0 (i + 1) (by omega) (by simpa using hlt)
        simpa [hi] using this
      have ih' := ih ht
      by_cases c : x &&& b = b
      · have e1 : drp b (x :: t) = drp b t := by unfold drp; simp [List.filter_cons, c]
        rw [e1]; exact ih'
      · have e1 : drp b (x :: t) = x :: drp b t := by unfold drp; simp [List.filter_cons, c]
        rw [e1]
        intro i j hij hj
        cases j with
        | zero => omega
        | succ j =>
          cases i with
          | zero =>
            have hj' : j < (drp b t).length := by simpa using hj
            have hmem : (drp b t)[j]?.getD 0 ∈ drp b t := by rw [List.getElem?_eq_getElem hj']; exact List.getElem_mem _
            have := hx _ (List.mem_filter.mp hmem).1
            simpa using this
          | succ i => have := ih' i j (by omega) (by simpa using hj); simpa using this
  exact key C h
/-- the flip, in the reference's steps -/
theorem flipS_ref {S : Sh} (hS : SOk S) (hs : srt (sc S)) {a b c e : Nat} (hen : fe S a b = 2 ^ c ||| 2 ^ e) (hdr : drp (pr a b) (sc S) = tk (tri a b e) (tk (tri a b c) (sc S))) : flipS S a b = setC S (ins (tri b c e) (ins (tri a c e) (tk (tri a b e) (tk (tri a b c) (sc S))))) := by
  unfold flipS
  rw [sortC_snoc, sortC_snoc, sortC_id (drp_srt hs), hen, tri_acd, tri_acd, hdr]
theorem r_doFlip {d : Nat} {M : Mem} {K : Int32 → Mem → Prop} {S : Sh} {a b : Nat} (ha : a < sn S) (hb : b < sn S) (hS : SOk S) (hs : srt (sc S)) (h1 : N1 (sc S)) (h4 : N4 S) (hne : fe S a b ≠ 0) (hA : Ar M 69 S) (hK : ∀ M', Sa M M' → Ar M' 69 (flipS S a b) → K (nI (8 * low8 (fe S a b) + low8 (fe S a b &&& (fe S a b - 1)))) M') : CI (d + 3) μX9_doFlip [.ref 58, .int (nI a), .int (nI b)] M K := by
  have h8 := hS.1
  have h12 := hS.2.2.1
  obtain ⟨hmt, -, -, h2, hp2, hfe, -⟩ := fe_pos hne
  have hab : a ≠ b := fun z => by rw [z, mtI_self b (by omega)] at hmt; exact absurd hmt (by decide)
  obtain ⟨c, e, hc, he, ca, cb, ea, eb, hpf, t0, t1, hen, hdr⟩ := two_at hS.2.2.2.1 (by omega) (by omega) hab h2
  rw [← hfe] at hen
  have ce : c ≠ e := fun z => by rw [hen, z] at hp2; exact one_pc e he hp2
  obtain ⟨l1, l2, -⟩ := two_low' hc he ce
  have m1 : tri a b c ∈ sc S := cnm_mem (by rw [hpf]; simp)
  have m2 : tri a b e ∈ sc S := cnm_mem (by rw [hpf]; simp)
  have hdiff : tri a b e ≠ tri a b c := fun z => by
    have : (tri a b e).testBit e = (tri a b c).testBit e := by rw [z]
    rw [tri_tb, tri_tb] at this
    simp [ea.symm, eb.symm, ce, fun q : a = e => ea q.symm, fun q : b = e => eb q.symm] at this
  have m2' : tri a b e ∈ tk (tri a b c) (sc S) := by
    have key : ∀ (C : List Nat), tri a b e ∈ C → tri a b e ∈ tk (tri a b c) C := by
      intro C
      induction C with
      | nil => intro h; exact h
      | cons x t ih =>
        intro h
        unfold tk
        by_cases q : x = tri a b c
        · rw [if_pos q]
          rcases List.mem_cons.mp h with h | h
          · exact absurd (h.trans q) hdiff
          · exact h
        · rw [if_neg q]
          rcases List.mem_cons.mp h with h | h
          · rw [h]; exact List.mem_cons_self
          · exact List.mem_cons_of_mem _ (ih h)
    exact key _ m2
  have len1 := tk_len m1
  have len2 := tk_len m2'
  refine sg_X9_doFlip_0 ?_
  refine r_third0 (d := d + 1) (by omega) (by omega) hab hS hA ?_
  rw [t0]
  refine r_third1 (d := d + 1) (by omega) (by omega) hab hS hA ?_
  rw [t1]
  refine r_cornerOf (d := d + 1) (a := a) (b := b) (c := c) (by omega) (by omega) hc hab (fun z => ca z.symm) (fun z => cb z.symm) ?_
  refine r_takeCorner hS m1 hA (fun M7 s7 A7 => ?_)
  refine r_cornerOf (d := d + 1) (a := a) (b := b) (c := e) (by omega) (by omega) he hab (fun z => ea z.symm) (fun z => eb z.symm) ?_
  have ok7 : SOk (setC S (tk (tri a b c) (sc S))) := hS.set (by omega) (tk_T3 hS.2.2.2.1)
  refine r_takeCorner ok7 m2' A7 (fun M10 s10 A10 => ?_)
  have ok10 : SOk (setC S (tk (tri a b e) (tk (tri a b c) (sc S)))) := hS.set (by omega) (tk_T3 (tk_T3 hS.2.2.2.1))
  have srt10 : srt (tk (tri a b e) (tk (tri a b c) (sc S))) := tk_srt m2' (tk_srt m1 hs)
  refine r_addCorner (d := d) (a := a) (b := c) (c := e) (by omega) hc he (fun z => ca z.symm) (fun z => ea z.symm) ce (S := setC S (tk (tri a b e) (tk (tri a b c) (sc S)))) ok10 srt10 (by rw [sc_setC]; omega) A10 (fun M11 s11 A11 => ?_)
  have T1 := (tri_ok (a := a) (b := c) (c := e) (by omega) hc he (fun z => ca z.symm) (fun z => ea z.symm) ce).2
  have T2 : ∀ x ∈ ins (tri a c e) (tk (tri a b e) (tk (tri a b c) (sc S))), T3 x := by
    intro x hx
    rcases ins_mem.mp hx with q | q
    · rw [q]; exact T1
    · exact tk_T3 (tk_T3 hS.2.2.2.1) x q
  have ok11 : SOk (setC S (ins (tri a c e) (tk (tri a b e) (tk (tri a b c) (sc S))))) := hS.set (by rw [ins_len]; omega) T2
  refine r_addCorner (d := d) (a := b) (b := c) (c := e) (by omega) hc he (fun z => cb z.symm) (fun z => eb z.symm) ce (S := setC S (ins (tri a c e) (tk (tri a b e) (tk (tri a b c) (sc S))))) ok11 (ins_srt srt10) (by rw [sc_setC, ins_len]; omega) A11 (fun M12 s12 A12 => ?_)
  refine r_lesser (a := c) (b := e) (by omega) (by omega) ?_
  refine r_greater (a := c) (b := e) (by omega) (by omega) ?_
  have hres := hK M12 (((s7.trans s10).trans s11).trans s12) (by rw [flipS_ref hS hs hen hdr]; exact A12)
  rw [hen, l1, l2] at hres
  have e1 : (if e ≤ c then e else c) = min c e := by rw [Nat.min_def]; split <;> split <;> omega
  have e2 : (if c ≤ e then e else c) = max c e := by rw [Nat.max_def]
  rw [e1, e2, l_8, n_mul, nI_add]
  exact hres
