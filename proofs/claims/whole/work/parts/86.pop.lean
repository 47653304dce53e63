/-! good shires: a wall is popped -/
theorem rpl_tb {a b m j : Nat} (hab : a ≠ b) : (rpl a b m).testBit j = if j = b then false else if j = a then (m.testBit a || m.testBit b) else m.testBit j := by
  unfold rpl
  by_cases h : m.testBit b = true
  · rw [if_pos h, Nat.testBit_or, clr_tb, Nat.testBit_two_pow, Nat.testBit_two_pow, h]
    by_cases h1 : j = b
    · subst h1
      rw [if_pos rfl, decide_eq_true (rfl : j = j), decide_eq_false hab]; simp
    · rw [if_neg h1, decide_eq_false (fun q => h1 q.symm)]
      by_cases h2 : j = a
      · subst h2; rw [if_pos rfl]; simp
      · rw [if_neg h2, decide_eq_false (fun q => h2 q.symm)]; simp
  · rw [if_neg h]
    by_cases h1 : j = b
    · subst h1; rw [if_pos rfl]; rw [Bool.not_eq_true] at h; exact h
    · rw [if_neg h1]
      by_cases h2 : j = a
      · subst h2; rw [if_pos rfl]; rw [Bool.not_eq_true] at h; rw [h, Bool.or_false]
      · rw [if_neg h2]
theorem kP_map_off {P : Nat → Bool} {a b x y : Nat} (hab : a ≠ b) (D : List Nat) (h : x = b ∨ y = b) : kP P (pr x y) (D.map (rpl a b)) = 0 := by
  have := cnm_off (p := b) (x := x) (y := y) (D := D.map (rpl a b)) (by
    intro m hm
    obtain ⟨m0, _, rfl⟩ := List.mem_map.mp hm
    rw [rpl_tb hab, if_pos rfl]) (by omega)
  have := kP_le P (pr x y) (D.map (rpl a b))
  omega
theorem kP_map_else {P : Nat → Bool} {a b x y : Nat} (hab : a ≠ b) (hxa : x ≠ a) (hxb : x ≠ b) (hya : y ≠ a) (hyb : y ≠ b) : ∀ D : List Nat, kP P (pr x y) (D.map (rpl a b)) = kP (fun m => P (rpl a b m)) (pr x y) D
  | [] => rfl
  | m :: D => by
    rw [List.map_cons, kP_cons, kP_cons, kP_map_else hab hxa hxb hya hyb D]
    have : tb2 (rpl a b m) x y = tb2 m x y := by unfold tb2; rw [rpl_tb hab, rpl_tb hab, if_neg hxb, if_neg hxa, if_neg hyb, if_neg hya]
    rw [this]
theorem kP_map_a {P : Nat → Bool} {a b y : Nat} (hab : a ≠ b) (hya : y ≠ a) (hyb : y ≠ b) : ∀ D : List Nat, (∀ m ∈ D, ¬ (m.testBit a = true ∧ m.testBit b = true)) → kP P (pr a y) (D.map (rpl a b)) = kP (fun m => P (rpl a b m)) (pr a y) D + kP (fun m => P (rpl a b m)) (pr b y) D
  | [], _ => rfl
  | m :: D, h => by
    rw [List.map_cons, kP_cons, kP_cons, kP_cons, kP_map_a hab hya hyb D (fun x hx => h x (List.mem_cons_of_mem _ hx))]
    have h0 := h m List.mem_cons_self
    have : tb2 (rpl a b m) a y = ((m.testBit a || m.testBit b) && m.testBit y) := by unfold tb2; rw [rpl_tb hab, rpl_tb hab, if_neg hab, if_pos rfl, if_neg hyb, if_neg hya]
    rw [this]
    unfold tb2
    generalize m.testBit a = u at h0 ⊢
    generalize m.testBit b = v at h0 ⊢
    generalize m.testBit y = w
    generalize P (rpl a b m) = q
    cases u <;> cases v <;> cases w <;> cases q <;> first | (simp; done) | (simp at h0; done) | (simp; omega)
theorem cnm_kP (b : Nat) (C : List Nat) : cnm b C = kP (fun _ => true) b C := by unfold cnm kP; simp
def s8 (f : Nat → Nat) : Nat := f 0 + f 1 + f 2 + f 3 + f 4 + f 5 + f 6 + f 7
theorem s8_par {f : Nat → Nat} {b : Nat} (hb : b < 8) (h : s8 f % 2 = 0) (hv : ∀ v, v < 8 → v ≠ b → f v % 2 = 0) : f b % 2 = 0 := by
  unfold s8 at h
  have h0 := hv 0 (by omega)
  have h1 := hv 1 (by omega)
  have h2 := hv 2 (by omega)
  have h3 := hv 3 (by omega)
  have h4 := hv 4 (by omega)
  have h5 := hv 5 (by omega)
  have h6 := hv 6 (by omega)
  have h7 := hv 7 (by omega)
  have : b = 0 ∨ b = 1 ∨ b = 2 ∨ b = 3 ∨ b = 4 ∨ b = 5 ∨ b = 6 ∨ b = 7 := by omega
  rcases this with rfl | rfl | rfl | rfl | rfl | rfl | rfl | rfl <;> omega
theorem link1 : ∀ m, m < 256 → pc8 m = 3 → ∀ a, a < 8 → s8 (fun v => if v = a then 0 else (tb2 m a v).toNat) = 2 * (m.testBit a).toNat := by decide +kernel
theorem s8_add (f g : Nat → Nat) : s8 (fun v => f v + g v) = s8 f + s8 g := by simp only [s8]; omega
theorem link_sum (P : Nat → Bool) {a : Nat} (ha : a < 8) : ∀ C : List Nat, (∀ m ∈ C, T3 m) → s8 (fun v => if v = a then 0 else kP P (pr a v) C) % 2 = 0
  | [], _ => by unfold s8 kP; simp
  | m :: C, h => by
    have ih := link_sum P ha C (fun x hx => h x (List.mem_cons_of_mem _ hx))
    have hm := h m List.mem_cons_self
    have l1 := link1 m hm.1 hm.2 a ha
    have e : ∀ v, (if v = a then 0 else kP P (pr a v) (m :: C)) = (if v = a then 0 else kP P (pr a v) C) + (if v = a then 0 else (P m && tb2 m a v).toNat) := by
      intro v
      by_cases hv : v = a
      · rw [if_pos hv, if_pos hv, if_pos hv]
      · rw [if_neg hv, if_neg hv, if_neg hv, kP_cons]
    simp only [e]
    rw [s8_add]
    cases hP : P m
    · simp only [Bool.false_and, Bool.toNat_false, ite_self]
      have : s8 (fun _ => 0) = 0 := rfl
      omega
    · simp only [Bool.true_and]
      omega
theorem one_c {a b c e : Nat} (hab : a ≠ b) (hac : a ≠ c) (hae : a ≠ e) (hbc : b ≠ c) (hbe : b ≠ e) (hce : c ≠ e) :
    (tb2 (tri a b c) a c = true ∧ tb2 (tri a b e) a c = false) ∧ (tb2 (tri a b c) b c = true ∧ tb2 (tri a b e) b c = false) ∧ (tb2 (tri a b c) a e = false ∧ tb2 (tri a b e) a e = true) ∧ (tb2 (tri a b c) b e = false ∧ tb2 (tri a b e) b e = true) ∧
    (tb2 (tri a b c) a b = true ∧ tb2 (tri a b e) a b = true) ∧
    (∀ v, v ≠ a → v ≠ b → v ≠ c → v ≠ e → (tb2 (tri a b c) a v = false ∧ tb2 (tri a b e) a v = false) ∧ tb2 (tri a b c) b v = false ∧ tb2 (tri a b e) b v = false) ∧
    ∀ x y, x ≠ y → x ≠ a → x ≠ b → y ≠ a → y ≠ b → tb2 (tri a b c) x y = false ∧ tb2 (tri a b e) x y = false := by
  simp only [tb2_tri]
  refine ⟨?_, ?_, ?_, ?_, ?_, ?_, ?_⟩
  · simp; omega
  · simp; omega
  · simp; omega
  · simp; omega
  · simp
  · intro v h1 h2 h3 h4
    simp; omega
  · intro x y hxy h1 h2 h3 h4
    simp; omega
/-- no two like corners lie at a wall that can be popped -/
theorem ce_ne {C : List Nat} {a b c : Nat} (hC : DC C) (hl : 2 < C.length) (hab2 : cnm (pr a b) C = 2) {D : List Nat} (p1 : C.Perm (tri a b c :: tri a b c :: D)) : False := by
  have i0 : tb2 (tri a b c) a b = true := by rw [tb2_tri]; simp
  rw [cnm_perm p1, cnm_cons2, cnm_cons2, i0] at hab2
  have hDab : cnm (pr a b) D = 0 := by
    have : true.toNat = 1 := rfl
    omega
  have hn : ∀ m ∈ D, m ≠ tri a b c := by
    intro m hm hq
    refine cnm_none hDab m hm ?_
    rw [hq, and_pr]
    rw [tb2, Bool.and_eq_true] at i0
    exact i0
  obtain ⟨q, hq⟩ := hC (fun m => decide (m = tri a b c)) (by
    intro x y _ _ _
    rw [kP_perm p1, kP_cons, kP_cons]
    have : kP (fun m => decide (m = tri a b c)) (pr x y) D = 0 := by
      unfold kP
      rw [List.countP_eq_zero]
      intro m hm
      simp [hn m hm]
    rw [this]
    cases (tb2 (tri a b c) x y) <;> simp)
  have h1 := hq _ (p1.mem_iff.mpr List.mem_cons_self)
  have hlen := p1.length_eq
  rw [List.length_cons, List.length_cons] at hlen
  cases D with
  | nil => rw [List.length_nil] at hlen; omega
  | cons m D =>
    have h2 := hq m (p1.mem_iff.mpr (List.mem_cons_of_mem _ (List.mem_cons_of_mem _ List.mem_cons_self)))
    rw [← h1] at h2
    have := hn m List.mem_cons_self
    simp [this] at h2
theorem N1_pop {C C' D : List Nat} {a b c e : Nat} (h1 : N1 C) (ha : a < 8) (hb : b < 8) (hc : c < 8) (he : e < 8) (hab : a ≠ b) (hac : a ≠ c) (hae : a ≠ e) (hbc : b ≠ c) (hbe : b ≠ e) (hce : c ≠ e) (p1 : C.Perm (tri a b c :: tri a b e :: D)) (p2 : C'.Perm (D.map (rpl a b))) (hD : ∀ m ∈ D, ¬ (m.testBit a = true ∧ m.testBit b = true)) (hcom : ∀ v, v < 8 → v ≠ a → v ≠ b → v ≠ c → v ≠ e → cnm (pr a v) C = 0 ∨ cnm (pr b v) C = 0) : N1 C' := by
  obtain ⟨o1, o2, o3, o4, o5, o6, o7⟩ := one_c hab hac hae hbc hbe hce
  have t1 : true.toNat = 1 := rfl
  have t0 : false.toNat = 0 := rfl
  have hA : ∀ v, v < 8 → v ≠ a → cnm (pr a v) C' = 0 ∨ cnm (pr a v) C' = 2 := by
    intro v hv hva
    rw [cnm_perm p2, cnm_kP]
    by_cases hvb : v = b
    · left; exact kP_map_off hab D (Or.inr hvb)
    rw [kP_map_a hab hva hvb D hD, ← cnm_kP, ← cnm_kP]
    have q1 := h1 a v ha hv (fun h => hva h.symm)
    have q2 := h1 b v hb hv (fun h => hvb h.symm)
    rw [cnm_perm p1, cnm_cons2, cnm_cons2] at q1 q2
    by_cases hvc : v = c
    · subst hvc
      rw [o1.1, o1.2] at q1; rw [o2.1, o2.2] at q2; omega
    by_cases hve : v = e
    · subst hve
      rw [o3.1, o3.2] at q1; rw [o4.1, o4.2] at q2; omega
    have oo := o6 v hva hvb hvc hve
    have q3 := hcom v hv hva hvb hvc hve
    rw [cnm_perm p1, cnm_perm p1, cnm_cons2, cnm_cons2, cnm_cons2, cnm_cons2] at q3
    rw [oo.1.1, oo.1.2] at q1 q3
    rw [oo.2.1, oo.2.2] at q2 q3
    omega
  intro x y hx hy hxy
  by_cases hxa : x = a
  · subst hxa; exact hA y hy (fun h => hxy h.symm)
  by_cases hya : y = a
  · subst hya; rw [pr_comm]; exact hA x hx hxa
  by_cases hbb : x = b ∨ y = b
  · left; rw [cnm_perm p2, cnm_kP]; exact kP_map_off hab D hbb
  rw [cnm_perm p2, cnm_kP, kP_map_else hab hxa (fun h => hbb (Or.inl h)) hya (fun h => hbb (Or.inr h)), ← cnm_kP]
  have q := h1 x y hx hy hxy
  have oo := o7 x y hxy hxa (fun h => hbb (Or.inl h)) hya (fun h => hbb (Or.inr h))
  rw [cnm_perm p1, cnm_cons2, cnm_cons2, oo.1, oo.2] at q
  omega
theorem DC_pop {C C' D : List Nat} {a b c e : Nat} (hC : DC C) (hT : ∀ m ∈ C, T3 m) (h1 : N1 C) (ha : a < 8) (hb : b < 8) (hc : c < 8) (he : e < 8) (hab : a ≠ b) (hac : a ≠ c) (hae : a ≠ e) (hbc : b ≠ c) (hbe : b ≠ e) (hce : c ≠ e) (p1 : C.Perm (tri a b c :: tri a b e :: D)) (p2 : C'.Perm (D.map (rpl a b))) (hD : ∀ m ∈ D, ¬ (m.testBit a = true ∧ m.testBit b = true)) (hcom : ∀ v, v < 8 → v ≠ a → v ≠ b → v ≠ c → v ≠ e → cnm (pr a v) C = 0 ∨ cnm (pr b v) C = 0) : DC C' := by
  obtain ⟨o1, o2, o3, o4, o5, o6, o7⟩ := one_c hab hac hae hbc hbe hce
  have t1 : true.toNat = 1 := rfl
  have t0 : false.toNat = 0 := rfl
  intro P hP
  have hcet : tri a b c ≠ tri a b e := by
    intro hq
    have : tb2 (tri a b c) a c = tb2 (tri a b e) a c := by rw [hq]
    rw [o1.1, o1.2] at this
    cases this
  have hDn : ∀ m ∈ D, m ≠ tri a b c ∧ m ≠ tri a b e := by
    intro m hm
    have := hD m hm
    refine ⟨fun hq => this ?_, fun hq => this ?_⟩
    · rw [hq]; have := o5.1; rw [tb2, Bool.and_eq_true] at this; exact this
    · rw [hq]; have := o5.2; rw [tb2, Bool.and_eq_true] at this; exact this
  have hab0 : kP (fun m => P (rpl a b m)) (pr a b) D = 0 := by
    unfold kP
    rw [List.countP_eq_zero]
    intro m hm
    rw [Bool.and_eq_true, decide_eq_true_iff, and_pr]
    exact fun h => hD m hm h.2
  -- what P is at the corners that go
  obtain ⟨Q, hQ⟩ : ∃ Q : Nat → Bool, Q = fun m => if m = tri a b c then decide (kP (fun m => P (rpl a b m)) (pr a c) D % 2 = 1) else if m = tri a b e then decide (kP (fun m => P (rpl a b m)) (pr a e) D % 2 = 1) else P (rpl a b m) := ⟨_, rfl⟩
  have Qc : Q (tri a b c) = decide (kP (fun m => P (rpl a b m)) (pr a c) D % 2 = 1) := by rw [hQ]; simp
  have Qe : Q (tri a b e) = decide (kP (fun m => P (rpl a b m)) (pr a e) D % 2 = 1) := by rw [hQ]; simp [hcet.symm]
  have QD : ∀ m ∈ D, Q m = P (rpl a b m) := by
    intro m hm
    rw [hQ]
    simp [(hDn m hm).1, (hDn m hm).2]
  have kD : ∀ w, kP Q w D = kP (fun m => P (rpl a b m)) w D := fun w => kP_congr (fun m hm _ => QD m hm)
  have hpar : ∀ n : Nat, (n + (decide (n % 2 = 1)).toNat) % 2 = 0 := by
    intro n
    by_cases h : n % 2 = 1
    · rw [decide_eq_true h]; omega
    · rw [decide_eq_false h]; omega
  have two : ∀ v, v < 8 → v ≠ a → v ≠ b → (kP (fun m => P (rpl a b m)) (pr a v) D + kP (fun m => P (rpl a b m)) (pr b v) D) % 2 = 0 := by
    intro v hv hva hvb
    have h := hP a v ha hv (fun h => hva h.symm)
    rw [kP_perm p2, kP_map_a hab hva hvb D hD] at h
    exact h
  -- at a and at b: all walls but theirs are even
  have hAB : ∀ v, v < 8 → v ≠ a → v ≠ b → kP Q (pr a v) C % 2 = 0 ∧ kP Q (pr b v) C % 2 = 0 := by
    intro v hv hva hvb
    rw [kP_perm p1, kP_perm p1, kP_cons, kP_cons, kP_cons, kP_cons, kD, kD]
    have h := two v hv hva hvb
    by_cases hvc : v = c
    · subst hvc
      rw [o1.1, o1.2, o2.1, o2.2, Bool.and_true, Bool.and_false, Qc]
      have := hpar (kP (fun m => P (rpl a b m)) (pr a v) D)
      omega
    by_cases hve : v = e
    · subst hve
      rw [o3.1, o3.2, o4.1, o4.2, Bool.and_true, Bool.and_false, Qe]
      have := hpar (kP (fun m => P (rpl a b m)) (pr a v) D)
      omega
    have oo := o6 v hva hvb hvc hve
    have q3 := hcom v hv hva hvb hvc hve
    rw [cnm_perm p1, cnm_perm p1, cnm_cons2, cnm_cons2, cnm_cons2, cnm_cons2] at q3
    rw [oo.1.1, oo.1.2, oo.2.1, oo.2.2] at q3
    rw [oo.1.1, oo.1.2, oo.2.1, oo.2.2]
    have z1 := kP_le (fun m => P (rpl a b m)) (pr a v) D
    have z2 := kP_le (fun m => P (rpl a b m)) (pr b v) D
    simp only [Bool.and_false]
    omega
  have hself : kP Q (pr a b) C % 2 = 0 := by
    have h := s8_par (f := fun v => if v = a then 0 else kP Q (pr a v) C) hb (link_sum Q ha C hT) (by
      intro v hv hvb
      show (if v = a then 0 else kP Q (pr a v) C) % 2 = 0
      by_cases hva : v = a
      · rw [if_pos hva]
      · rw [if_neg hva]; exact (hAB v hv hva hvb).1)
    have : (if b = a then 0 else kP Q (pr a b) C) % 2 = 0 := h
    rw [if_neg (fun h => hab h.symm)] at this
    exact this
  obtain ⟨q, hq⟩ := hC Q (by
    intro x y hx hy hxy
    by_cases hxa : x = a
    · subst hxa
      by_cases hyb : y = b
      · subst hyb; exact hself
      · exact (hAB y hy (fun h => hxy h.symm) hyb).1
    by_cases hxb : x = b
    · subst hxb
      by_cases hya : y = a
      · subst hya; rw [pr_comm]; exact hself
      · exact (hAB y hy hya (fun h => hxy h.symm)).2
    by_cases hya : y = a
    · subst hya; rw [pr_comm]; exact (hAB x hx hxa hxb).1
    by_cases hyb : y = b
    · subst hyb; rw [pr_comm]; exact (hAB x hx hxa hxb).2
    have h := hP x y hx hy hxy
    have oo := o7 x y hxy hxa hxb hya hyb
    rw [kP_perm p2, kP_map_else hab hxa hxb hya hyb] at h
    rw [kP_perm p1, kP_cons, kP_cons, kD, oo.1, oo.2, Bool.and_false, Bool.and_false]
    exact h)
  refine ⟨q, fun x hx => ?_⟩
  obtain ⟨m, hm, rfl⟩ := List.mem_map.mp (p2.mem_iff.mp hx)
  rw [← QD m hm]
  exact hq m (p1.mem_iff.mpr (List.mem_cons_of_mem _ (List.mem_cons_of_mem _ hm)))
