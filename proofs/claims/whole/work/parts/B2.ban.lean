/-! banners: the fewest colours, the first answer in order: the numbers -/
def tcR (S : Sh) : Nat → Nat
  | 0 => 0
  | r + 1 => tcR S r + ((sb S).testBit (sn S - (r + 1))).toNat
def col (S : Sh) (m x p : Nat) : Int32 := if (sb S).testBit p = true then nI ((x / m ^ tcR S (sn S - (p + 1))) % m) else -1
def vd (S : Sh) (m x P : Nat) : Prop := ∀ p, p < P → (sb S).testBit p = true → ∀ q, q < p → (nbm (sc S) p).testBit q = true → col S m x p ≠ col S m x q
def frE (S : Sh) (m X p i : Nat) : Bool := (List.range p).all (fun q => !(nbm (sc S) p).testBit q || !decide (col S m X q = nI i))
def fdl (g : Nat → Option Nat) (ok : Nat → Bool) : Nat → Nat → Option Nat
  | 0, _ => none
  | r + 1, i => if ok i = true then (match g i with
    | some x => some x
    | none => fdl g ok r (i + 1)) else fdl g ok r (i + 1)
def fd (S : Sh) (m : Nat) : Nat → Nat → Option Nat
  | 0, X => some X
  | r + 1, X => if (sb S).testBit (sn S - (r + 1)) = true then fdl (fun i => fd S m r (X + i * m ^ tcR S r)) (frE S m X (sn S - (r + 1))) m 0 else fd S m r X
theorem tcR_mono (S : Sh) {r : Nat} : ∀ k, tcR S r ≤ tcR S (r + k)
  | 0 => Nat.le_refl _
  | k + 1 => by
    have := tcR_mono S (r := r) k
    show tcR S r ≤ tcR S (r + k) + _
    omega
theorem col_same {S : Sh} {m x y p : Nat} (hp : p ≤ sn S) (h : x / m ^ tcR S (sn S - p) = y / m ^ tcR S (sn S - p)) {q : Nat} (hq : q < p) : col S m x q = col S m y q := by
  unfold col
  have hm := tcR_mono S (r := sn S - p) (p - (q + 1))
  rw [show sn S - p + (p - (q + 1)) = sn S - (q + 1) by omega] at hm
  have e : tcR S (sn S - (q + 1)) = tcR S (sn S - p) + (tcR S (sn S - (q + 1)) - tcR S (sn S - p)) := by omega
  rw [e, Nat.pow_add, ← Nat.div_div_eq_div_mul, ← Nat.div_div_eq_div_mul, h]
theorem div_in {X M y : Nat} (h0 : X % M = 0) (h1 : X ≤ y) (h2 : y < X + M) : y / M = X / M := by
  have hM : 0 < M := by omega
  have e : X = M * (X / M) := by
    have := Nat.div_add_mod X M
    omega
  have : y = M * (X / M) + (y - X) := by omega
  have hz : (y - X) / M = 0 := Nat.div_eq_of_lt (by omega)
  rw [this, Nat.mul_add_div hM, hz, Nat.add_zero]
theorem frE_iff {S : Sh} {m X p i : Nat} : frE S m X p i = true ↔ ∀ q, q < p → (nbm (sc S) p).testBit q = true → col S m X q ≠ nI i := by
  unfold frE
  rw [List.all_eq_true]
  constructor
  · intro h q hq hb
    have := h q (List.mem_range.mpr hq)
    rw [hb, Bool.not_true, Bool.false_or, Bool.not_eq_true', decide_eq_false_iff_not] at this
    exact this
  · intro h q hq
    have hq := List.mem_range.mp hq
    cases hb : (nbm (sc S) p).testBit q with
    | false => rfl
    | true => rw [Bool.not_true, Bool.false_or, decide_eq_false (h q hq hb)]; rfl
def Spec (S : Sh) (m X N : Nat) (o : Option Nat) : Prop := (∀ x, o = some x → X ≤ x ∧ x < X + N ∧ vd S m x (sn S) ∧ ∀ y, X ≤ y → y < X + N → vd S m y (sn S) → x ≤ y) ∧ (o = none → ∀ y, X ≤ y → y < X + N → ¬ vd S m y (sn S))
theorem fd_spec (S : Sh) (m : Nat) : ∀ (r p X : Nat), r + p = sn S → X % m ^ tcR S r = 0 → vd S m X p → Spec S m X (m ^ tcR S r) (fd S m r X)
  | 0, p, X, hp, h0, hv => by
    have hp : p = sn S := by omega
    subst hp
    refine ⟨fun x hx => ?_, fun hx => by cases hx⟩
    cases hx
    refine ⟨Nat.le_refl _, ?_, hv, fun y hy _ _ => hy⟩
    show X < X + m ^ 0
    rw [Nat.pow_zero]; omega
  | r + 1, p, X, hp, h0, hv => by
    have ep : sn S - (r + 1) = p := by omega
    have er : sn S - (p + 1) = r := by omega
    have er1 : sn S - p = r + 1 := by omega
    have et : tcR S (r + 1) = tcR S r + ((sb S).testBit p).toNat := by
      show tcR S r + ((sb S).testBit (sn S - (r + 1))).toNat = _
      rw [ep]
    have ef : fd S m (r + 1) X = if (sb S).testBit p = true then fdl (fun i => fd S m r (X + i * m ^ tcR S r)) (frE S m X p) m 0 else fd S m r X := by
      show (if (sb S).testBit (sn S - (r + 1)) = true then fdl (fun i => fd S m r (X + i * m ^ tcR S r)) (frE S m X (sn S - (r + 1))) m 0 else fd S m r X) = _
      rw [ep]
    rw [ef]
    cases hb : (sb S).testBit p with
    | false =>
      rw [if_neg (by decide)]
      rw [hb] at et
      rw [show tcR S (r + 1) = tcR S r by rw [et]; rfl] at h0 ⊢
      refine fd_spec S m r (p + 1) X (by omega) h0 (fun p' hp' ht => ?_)
      by_cases hpp : p' = p
      · rw [hpp, hb] at ht; cases ht
      · exact hv p' (by omega) ht
    | true =>
      rw [if_pos rfl]
      rw [hb] at et
      have et : tcR S (r + 1) = tcR S r + 1 := et
      have eM : m ^ tcR S (r + 1) = m ^ tcR S r * m := by rw [et, Nat.pow_succ]
      rw [eM] at h0 ⊢
      generalize hM : m ^ tcR S r = M at h0 eM ⊢
      -- X is a multiple of M * m
      have eX : X = M * m * (X / (M * m)) := by
        have := Nat.div_add_mod X (M * m)
        omega
      have sub : ∀ i, i < m → (X + i * M) % M = 0 ∧ (∀ y, X + i * M ≤ y → y < X + i * M + M → col S m y p = nI i ∧ ∀ q, q < p → col S m y q = col S m X q) := by
        intro i hi
        have hmul : X + i * M = M * (m * (X / (M * m)) + i) := by
          conv => lhs; rw [eX]
          rw [Nat.mul_assoc, ← Nat.mul_comm M i, ← Nat.mul_add]
        have h1 : (X + i * M) % M = 0 := by rw [hmul]; exact Nat.mul_mod_right M _
        refine ⟨h1, fun y hy1 hy2 => ?_⟩
        have hMp : 0 < M := by omega
        have hd := div_in h1 hy1 hy2
        have hlt : X + i * M + M ≤ X + M * m := by
          have : i * M + M ≤ M * m := by
            calc i * M + M = M * (i + 1) := by rw [Nat.mul_add, Nat.mul_one, Nat.mul_comm]
              _ ≤ M * m := Nat.mul_le_mul_left M hi
          omega
        refine ⟨?_, fun q hq => ?_⟩
        · unfold col
          rw [if_pos hb, er, hM, hd, hmul, Nat.mul_div_cancel_left _ hMp, Nat.mul_add_mod, Nat.mod_eq_of_lt hi]
        · refine col_same (p := p) (by omega) ?_ hq
          rw [er1, eM]
          exact div_in h0 (by omega) (by omega)
      have loop : ∀ (k i : Nat), k + i = m → (∀ x, fdl (fun i => fd S m r (X + i * M)) (frE S m X p) k i = some x → X + i * M ≤ x ∧ x < X + M * m ∧ vd S m x (sn S) ∧ ∀ y, X + i * M ≤ y → y < X + M * m → vd S m y (sn S) → x ≤ y) ∧ (fdl (fun i => fd S m r (X + i * M)) (frE S m X p) k i = none → ∀ y, X + i * M ≤ y → y < X + M * m → ¬ vd S m y (sn S)) := by
        intro k
        induction k with
        | zero =>
          intro i hi
          have hi : i = m := by omega
          subst hi
          refine ⟨fun x hx => (by cases hx), fun _ y h1 h2 => ?_⟩
          rw [Nat.mul_comm] at h1
          omega
        | succ k ih =>
          intro i hi
          have him : i < m := by omega
          obtain ⟨s0, s1⟩ := sub i him
          have ih := ih (i + 1) (by omega)
          have en : X + (i + 1) * M = X + i * M + M := by rw [Nat.add_mul, Nat.one_mul]; omega
          rw [en] at ih
          have hlt : X + i * M + M ≤ X + M * m := by
            have : i * M + M ≤ M * m := by
              calc i * M + M = M * (i + 1) := by rw [Nat.mul_add, Nat.mul_one, Nat.mul_comm]
                _ ≤ M * m := Nat.mul_le_mul_left M him
            omega
          -- nothing in the block of i: on to the next
          have skip : (∀ y, X + i * M ≤ y → y < X + i * M + M → ¬ vd S m y (sn S)) → ∀ o, o = fdl (fun i => fd S m r (X + i * M)) (frE S m X p) k (i + 1) → (∀ x, o = some x → X + i * M ≤ x ∧ x < X + M * m ∧ vd S m x (sn S) ∧ ∀ y, X + i * M ≤ y → y < X + M * m → vd S m y (sn S) → x ≤ y) ∧ (o = none → ∀ y, X + i * M ≤ y → y < X + M * m → ¬ vd S m y (sn S)) := by
            intro hno o ho
            rw [← ho] at ih
            refine ⟨fun x hx => ?_, fun hx y h1 h2 => ?_⟩
            · obtain ⟨a1, a2, a3, a4⟩ := ih.1 x hx
              refine ⟨by omega, a2, a3, fun y h1 h2 h3 => ?_⟩
              by_cases hyy : y < X + i * M + M
              · exact absurd h3 (hno y h1 hyy)
              · exact a4 y (by omega) h2 h3
            · by_cases hyy : y < X + i * M + M
              · exact hno y h1 hyy
              · exact ih.2 hx y (by omega) h2
          have step : fdl (fun i => fd S m r (X + i * M)) (frE S m X p) (k + 1) i = if frE S m X p i = true then (match fd S m r (X + i * M) with
            | some x => some x
            | none => fdl (fun i => fd S m r (X + i * M)) (frE S m X p) k (i + 1)) else fdl (fun i => fd S m r (X + i * M)) (frE S m X p) k (i + 1) := rfl
          rw [step]
          by_cases hok : frE S m X p i = true
          · rw [if_pos hok]
            have hMp : 0 < M := by
              by_cases hz : M = 0
              · exfalso
                rw [← hM] at hz
                have : 0 < m ^ tcR S r := Nat.pow_pos (by omega)
                omega
              · omega
            have cX := s1 (X + i * M) (Nat.le_refl _) (by omega)
            have hv' : vd S m (X + i * M) (p + 1) := by
              intro p' hp' ht q hq hbq
              by_cases hpp : p' = p
              · subst hpp
                rw [cX.1, cX.2 q hq]
                exact fun e => (frE_iff.mp hok) q hq hbq e.symm
              · rw [cX.2 p' (by omega), cX.2 q (by omega)]
                exact hv p' (by omega) ht q hq hbq
            have hs := fd_spec S m r (p + 1) (X + i * M) (by omega) (by rw [hM]; exact s0) hv'
            rw [hM] at hs
            cases hg : fd S m r (X + i * M) with
            | some x =>
              rw [hg] at hs
              obtain ⟨a1, a2, a3, a4⟩ := hs.1 x rfl
              refine ⟨fun x' hx' => ?_, fun hx' => by cases hx'⟩
              cases hx'
              refine ⟨a1, by omega, a3, fun y h1 h2 h3 => ?_⟩
              by_cases hyy : y < X + i * M + M
              · exact a4 y h1 hyy h3
              · omega
            | none =>
              rw [hg] at hs
              exact skip (hs.2 rfl) _ rfl
          · rw [if_neg hok]
            refine skip (fun y h1 h2 hvy => ?_) _ rfl
            have cy := s1 y h1 h2
            apply hok
            rw [frE_iff]
            intro q hq hbq e
            have := hvy p (by omega) hb q hq hbq
            rw [cy.1, cy.2 q hq, e] at this
            exact this rfl
      have := loop m 0 rfl
      rw [Nat.zero_mul, Nat.add_zero] at this
      exact this
/-- any colours with numbers below m are those of some number -/
theorem code_of (S : Sh) {m : Nat} {g : Nat → Nat} (hg : ∀ p, g p < m) : ∀ r, r ≤ sn S → ∃ y, y < m ^ tcR S r ∧ ∀ p, sn S - r ≤ p → p < sn S → (sb S).testBit p = true → (y / m ^ tcR S (sn S - (p + 1))) % m = g p
  | 0, _ => ⟨0, by show 0 < m ^ 0; rw [Nat.pow_zero]; omega, fun p h1 h2 => by omega⟩
  | r + 1, hr => by
    obtain ⟨y, hy, hd⟩ := code_of S hg r (by omega)
    have ep : ∃ q, q = sn S - (r + 1) := ⟨_, rfl⟩
    obtain ⟨q, hq⟩ := ep
    have et : tcR S (r + 1) = tcR S r + ((sb S).testBit q).toNat := by rw [hq]; rfl
    cases hb : (sb S).testBit q with
    | false =>
      rw [hb] at et
      refine ⟨y, by rw [et]; exact hy, fun p h1 h2 ht => ?_⟩
      by_cases hpq : p = q
      · rw [hpq, hb] at ht; cases ht
      · exact hd p (by omega) h2 ht
    | true =>
      rw [hb] at et
      have et : tcR S (r + 1) = tcR S r + 1 := et
      have hm : 0 < m := Nat.lt_of_le_of_lt (Nat.zero_le _) (hg 0)
      have hM : 0 < m ^ tcR S r := Nat.pow_pos hm
      refine ⟨m ^ tcR S r * g q + y, ?_, fun p h1 h2 ht => ?_⟩
      · rw [et, Nat.pow_succ]
        calc m ^ tcR S r * g q + y < m ^ tcR S r * g q + m ^ tcR S r := by omega
          _ = m ^ tcR S r * (g q + 1) := by rw [Nat.mul_add, Nat.mul_one]
          _ ≤ m ^ tcR S r * m := Nat.mul_le_mul_left _ (hg q)
      · by_cases hpq : p = q
        · rw [hpq, show sn S - (q + 1) = r by omega, Nat.mul_add_div hM, Nat.div_eq_of_lt hy, Nat.add_zero, Nat.mod_eq_of_lt (hg q)]
        · have hd := hd p (by omega) h2 ht
          rw [← hd]
          -- the digit of p lies below
          have e1 : tcR S (sn S - p) = tcR S (sn S - (p + 1)) + 1 := by
            rw [show sn S - p = (sn S - (p + 1)) + 1 by omega]
            show tcR S (sn S - (p + 1)) + ((sb S).testBit (sn S - ((sn S - (p + 1)) + 1))).toNat = _
            rw [show sn S - ((sn S - (p + 1)) + 1) = p by omega, ht]; rfl
          have h3 := tcR_mono S (r := sn S - p) (r - (sn S - p))
          rw [show sn S - p + (r - (sn S - p)) = r by omega] at h3
          have e2 : m ^ tcR S r = m ^ tcR S (sn S - (p + 1)) * (m * m ^ (tcR S r - (tcR S (sn S - (p + 1)) + 1))) := by
            rw [← Nat.mul_assoc, ← Nat.pow_succ, ← Nat.pow_add]
            congr 1
            omega
          rw [e2, Nat.mul_assoc, Nat.mul_add_div (Nat.pow_pos hm), Nat.mul_assoc, Nat.mul_add_mod]
