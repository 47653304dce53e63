/-! banners: seven colours are enough, and no more than lords -/
theorem least_of {P : Nat → Prop} : ∀ (K : Nat), P K → ∃ m, m ≤ K ∧ P m ∧ ∀ c, c < m → ¬ P c := by
  intro K
  induction K using Nat.strongRecOn with
  | ind K ih =>
    intro hK
    by_cases h : ∃ c, c < K ∧ P c
    · obtain ⟨c, hc, hP⟩ := h
      obtain ⟨m, h1, h2, h3⟩ := ih c hc hP
      exact ⟨m, by omega, h2, h3⟩
    · exact ⟨K, Nat.le_refl _, hK, fun c hc hP => h ⟨c, hc, hP⟩⟩
theorem three1 : ∀ m, m < 256 → pc8 m = 3 → s8 (fun v => (m.testBit v).toNat) = 3 := by decide +kernel
theorem dgm_sum : ∀ C : List Nat, (∀ m ∈ C, T3 m) → s8 (fun v => dgm C v) = 3 * C.length
  | [], _ => rfl
  | m :: C, h => by
    have ih := dgm_sum C (fun x hx => h x (List.mem_cons_of_mem _ hx))
    have hm := h m List.mem_cons_self
    have t := three1 m hm.1 hm.2
    have e : ∀ v, dgm (m :: C) v = dgm C v + (m.testBit v).toNat := by
      intro v
      unfold dgm
      rw [List.countP_cons]
      cases m.testBit v <;> rfl
    simp only [e]
    rw [s8_add, ih, t, List.length_cons]
    omega
/-- of eight lords two do not border -/
theorem apart8 {S : Sh} (h : GS S) (h8 : pc8 (sb S) = 8) : ∃ a b, a < b ∧ b < 8 ∧ (nbm (sc S) b).testBit a = false := by
  by_cases hx : ∃ a b, a < b ∧ b < 8 ∧ (nbm (sc S) b).testBit a = false
  · exact hx
  · exfalso
    have all : ∀ a b, a < 8 → b < 8 → a ≠ b → cnm (pr a b) (sc S) = 2 := by
      intro a b ha hb hab
      have hbt : (nbm (sc S) a).testBit b = true := by
        cases q : (nbm (sc S) a).testBit b with
        | true => rfl
        | false =>
          exfalso
          rcases Nat.lt_or_gt_of_ne hab with h1 | h1
          · exact hx ⟨a, b, h1, hb, by rw [nbm_sym (fun e => hab e.symm)]; exact q⟩
          · exact hx ⟨b, a, h1, ha, q⟩
      have := (nbm_tb hab).mp hbt
      rcases h.2.2.1 a b ha hb hab with q | q
      · omega
      · exact q
    have seven : ∀ a, a < 8 → dgm (sc S) a = 7 := by
      intro a ha
      have e := link_eq ha (sc S) h.1.2.2.2.1
      have v : ∀ v, v < 8 → (if v = a then 0 else cnm (pr a v) (sc S)) = if v = a then 0 else 2 := by
        intro v hv
        by_cases hva : v = a
        · rw [if_pos hva, if_pos hva]
        · rw [if_neg hva, if_neg hva]; exact all a v ha hv (fun q => hva q.symm)
      simp only [s8] at e
      rw [v 0 (by omega), v 1 (by omega), v 2 (by omega), v 3 (by omega), v 4 (by omega), v 5 (by omega), v 6 (by omega), v 7 (by omega)] at e
      have : a = 0 ∨ a = 1 ∨ a = 2 ∨ a = 3 ∨ a = 4 ∨ a = 5 ∨ a = 6 ∨ a = 7 := by omega
      rcases this with rfl | rfl | rfl | rfl | rfl | rfl | rfl | rfl <;> simp at e <;> omega
    have sum := dgm_sum (sc S) h.1.2.2.2.1
    simp only [s8] at sum
    rw [seven 0 (by omega), seven 1 (by omega), seven 2 (by omega), seven 3 (by omega), seven 4 (by omega), seven 5 (by omega), seven 6 (by omega), seven 7 (by omega)] at sum
    have := h.1.2.2.1
    omega
theorem tcR_pc {S : Sh} (hS : SOk S) (h4 : N4 S) : tcR S (sn S) = pc8 (sb S) := by
  have key : ∀ r, r ≤ sn S → tcR S r + pcF (sb S) (sn S - r) = pcF (sb S) (sn S) := by
    intro r
    induction r with
    | zero => intro _; show 0 + _ = _; rw [Nat.zero_add, Nat.sub_zero]
    | succ r ih =>
      intro hr
      have := ih (by omega)
      have e : pcF (sb S) (sn S - r) = pcF (sb S) (sn S - (r + 1)) + if (sb S).testBit (sn S - (r + 1)) then 1 else 0 := by
        rw [show sn S - r = (sn S - (r + 1)) + 1 by omega]; rfl
      show tcR S r + ((sb S).testBit (sn S - (r + 1))).toNat + _ = _
      cases hb : (sb S).testBit (sn S - (r + 1)) <;> rw [hb] at e <;> simp at e ⊢ <;> omega
  have := key (sn S) (Nat.le_refl _)
  rw [Nat.sub_self] at this
  have h8 := hS.1
  have e := pcF_end (x := sb S) (n := sn S) (fun j hj _ => by
    cases q : (sb S).testBit j with
    | false => rfl
    | true => have := h4.2 j q; omega) (8 - sn S) (by omega)
  rw [show sn S + (8 - sn S) = 8 by omega, pcF_8 _ hS.2.1] at e
  have z : pcF (sb S) 0 = 0 := rfl
  omega
theorem tc_lt {S : Sh} {p : Nat} (hp : p < sn S) (ht : (sb S).testBit p = true) : tcR S (sn S - (p + 1)) + 1 = tcR S (sn S - p) := by
  rw [show sn S - p = (sn S - (p + 1)) + 1 by omega]
  show _ = tcR S (sn S - (p + 1)) + ((sb S).testBit (sn S - ((sn S - (p + 1)) + 1))).toNat
  rw [show sn S - ((sn S - (p + 1)) + 1) = p by omega, ht]; rfl
/-- colours that lie right give an answer -/
theorem fd_some {S : Sh} (h : GS S) {m : Nat} {g : Nat → Nat} (hm : m < 1000) (hg : ∀ p, g p < m) (hv : ∀ p q, q < p → p < sn S → (sb S).testBit p = true → (nbm (sc S) p).testBit q = true → g p ≠ g q) : fd S m (sn S) 0 ≠ none := by
  intro hn
  obtain ⟨y, hy, hd⟩ := code_of S hg (sn S) (Nat.le_refl _)
  have sp := fd_spec S m (sn S) 0 0 (by omega) (Nat.zero_mod _) (fun p hp => absurd hp (Nat.not_lt_zero _))
  refine sp.2 hn y (Nat.zero_le _) (by omega) (fun p hp ht q hq hbq => ?_)
  have tq := (nbm_th h.2.2.2.1 hbq).1
  unfold col
  rw [if_pos ht, if_pos tq, hd p (by omega) hp ht, hd q (by omega) (by omega) tq]
  intro e
  have g1 := hg p
  have g2 := hg q
  exact hv p q hq hp ht hbq (nI_inj (by omega) (by omega) e)
theorem bn_ex {S : Sh} (h : GS S) (h1 : 1 ≤ pc8 (sb S)) : ∃ m x, 1 ≤ m ∧ m ≤ 7 ∧ m ≤ pc8 (sb S) ∧ fd S m (sn S) 0 = some x ∧ ∀ c, c < m → fd S c (sn S) 0 = none := by
  have h8 := h.1.1
  have hpc := pc8_le (sb S)
  have ht := tcR_pc h.1 h.2.2.2.1
  -- some number of colours that is enough
  have en : ∃ K, K ≤ 7 ∧ K ≤ pc8 (sb S) ∧ fd S K (sn S) 0 ≠ none := by
    by_cases h7 : pc8 (sb S) ≤ 7
    · refine ⟨pc8 (sb S), h7, Nat.le_refl _, fd_some h (g := fun p => if (sb S).testBit p = true ∧ p < sn S then tcR S (sn S - (p + 1)) else 0) (by omega) (fun p => ?_) (fun p q hq hp htp hbq => ?_)⟩
      · show (if (sb S).testBit p = true ∧ p < sn S then tcR S (sn S - (p + 1)) else 0) < _
        by_cases hc : (sb S).testBit p = true ∧ p < sn S
        · rw [if_pos hc]
          have := tc_lt hc.2 hc.1
          have m2 := tcR_mono S (r := sn S - p) p
          rw [show sn S - p + p = sn S by omega] at m2
          omega
        · rw [if_neg hc]; omega
      · have tq := nbm_th h.2.2.2.1 hbq
        show (if (sb S).testBit p = true ∧ p < sn S then tcR S (sn S - (p + 1)) else 0) ≠ (if (sb S).testBit q = true ∧ q < sn S then tcR S (sn S - (q + 1)) else 0)
        rw [if_pos ⟨htp, hp⟩, if_pos tq]
        have e1 := tc_lt hp htp
        have m2 := tcR_mono S (r := sn S - p) (p - (q + 1))
        rw [show sn S - p + (p - (q + 1)) = sn S - (q + 1) by omega] at m2
        omega
    · obtain ⟨a, b, hab, hb, hnb⟩ := apart8 h (by omega)
      refine ⟨7, by omega, by omega, fd_some h (g := fun p => if p < b then min p 6 else if p = b then a else min (p - 1) 6) (by omega) (fun p => ?_) (fun p q hq hp htp hbq => ?_)⟩
      · show (if p < b then min p 6 else if p = b then a else min (p - 1) 6) < 7
        split
        · omega
        · split <;> omega
      · have hpq : ¬ (p = b ∧ q = a) := fun e => by rw [e.1, e.2, hnb] at hbq; cases hbq
        show (if p < b then min p 6 else if p = b then a else min (p - 1) 6) ≠ (if q < b then min q 6 else if q = b then a else min (q - 1) 6)
        split <;> split <;> (try split) <;> (try split) <;> omega
  obtain ⟨K, k7, kp, kn⟩ := en
  obtain ⟨m, hm, hP, hl⟩ := least_of (P := fun m => fd S m (sn S) 0 ≠ none) K kn
  have hP : fd S m (sn S) 0 ≠ none := hP
  cases hx : fd S m (sn S) 0 with
  | none => exact absurd hx hP
  | some x =>
    refine ⟨m, x, ?_, by omega, by omega, hx, fun c hc => ?_⟩
    · by_cases hm0 : m = 0
      · exfalso
        subst hm0
        have sp := fd_spec S 0 (sn S) 0 0 (by omega) (Nat.zero_mod _) (fun p hp => absurd hp (Nat.not_lt_zero _))
        have := (sp.1 x hx).2.1
        rw [ht, Nat.zero_pow (by omega)] at this
        omega
      · omega
    · cases hy : fd S c (sn S) 0 with
      | none => rfl
      | some z => exact absurd (by rw [hy]; simp) (hl c hc)
