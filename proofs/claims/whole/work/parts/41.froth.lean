/-! THE SHIRE AT ONE MOMENT, as numbers: how many lords, who is there (bits), the season, the seed, the corners (bits of three, in order), the sizes -/
abbrev Sh : Type := Nat × Nat × Int32 × Nat × List Nat × (Nat → Nat)
def sn (S : Sh) : Nat := S.1
def sb (S : Sh) : Nat := S.2.1
def sy (S : Sh) : Int32 := S.2.2.1
def sd (S : Sh) : Nat := S.2.2.2.1
def sc (S : Sh) : List Nat := S.2.2.2.2.1
def sz (S : Sh) : Nat → Nat := S.2.2.2.2.2
/-- all corners of p together, as bits -/
def orm (p : Nat) : List Nat → Nat
  | [] => 0
  | m :: l => if m.testBit p then m ||| orm p l else orm p l
/-- whom p borders, as bits -/
def nbm (C : List Nat) (p : Nat) : Nat := clr (orm p C) (2 ^ p)
def dgm (C : List Nat) (p : Nat) : Nat := C.countP (fun m => m.testBit p)
def bitsL (m : Nat) : List Nat := (List.range 8).filter (fun i => m.testBit i)
/-- how many bits, of eight -/
def pc8 (m : Nat) : Nat := (bitsL m).length
/-- the number by which corners are ordered: the least lord first -/
def cdm (m : Nat) : Nat := match bitsL m with
  | [a, b, c] => 64 * a + 8 * b + c
  | _ => 0
def T3 (m : Nat) : Prop := m < 256 ∧ pc8 m = 3
def SOk (S : Sh) : Prop := sn S ≤ 8 ∧ sb S < 256 ∧ (sc S).length ≤ 12 ∧ (∀ m ∈ sc S, T3 m) ∧ sd S < 1000 ∧ ∀ j, sz S j ≤ 999
/-- a Froth object's fields, sizes and corners -/
def FB (M : Mem) (o : Nat) (S : Sh) : Prop := ri M o 0 = nI (sn S) ∧ ri M o 1 = nI (sb S) ∧ ri M o 2 = sy S ∧ ri M o 3 = nI (sd S) ∧ ri M o 4 = nI (sc S).length ∧ (∀ j, j < 8 → ri M (o + 1) j = nI (sz S j)) ∧ ∀ i, i < (sc S).length → ri M (o + 2) i = nI ((sc S)[i]?.getD 0)
/-- what follows from the corners -/
def FS (M : Mem) (o : Nat) (S : Sh) : Prop := (∀ p, p < 8 → ri M (o + 3) p = nI (nbm (sc S) p)) ∧ ∀ p, p < 8 → ri M (o + 4) p = nI (dgm (sc S) p)
def Fr (M : Mem) (o : Nat) (S : Sh) : Prop := FB M o S ∧ FS M o S ∧ SOk S
theorem orm_lt {p n : Nat} : ∀ {C : List Nat}, (∀ m ∈ C, m < 2 ^ n) → orm p C < 2 ^ n := by
  intro C
  induction C with
  | nil => intro _; exact Nat.two_pow_pos n
  | cons m l ih =>
    intro h
    unfold orm
    have h1 := ih (fun x hx => h x (List.mem_cons_of_mem _ hx))
    split
    · exact Nat.or_lt_two_pow (h m List.mem_cons_self) h1
    · exact h1
theorem nbm_lt {C : List Nat} {p n : Nat} (h : ∀ m ∈ C, m < 2 ^ n) : nbm C p < 2 ^ n := clr_lt (orm_lt h)
/-- do a and b border: any ints -/
def mtI (S : Sh) (a b : Int32) : Bool := decide (0 ≤ a ∧ a < nI (sn S) ∧ 0 ≤ b ∧ b < nI (sn S)) && (nbm (sc S) (nx a)).testBit (nx b)
def bI (b : Bool) : Int32 := if b then 1 else 0
theorem bI_0 {b : Bool} : bI b = 0 ↔ b = false := by cases b <;> decide
theorem bI_1 {b : Bool} : bI b = 1 ↔ b = true := by cases b <;> decide
theorem i_nlt {a b : Int32} : ¬ a < b ↔ b ≤ a := Int32.not_lt
theorem i_nle {a b : Int32} : ¬ a ≤ b ↔ b < a := Int32.not_le
theorem n_nat {x : Int32} {n : Nat} (h0 : 0 ≤ x) (h1 : x < nI n) (hn : n < 2 ^ 31) : ∃ i, i < n ∧ x = nI i := by
  obtain ⟨j, hj, rfl⟩ := nI_of (i_nlt.mpr h0)
  exact ⟨j, (nI_ltI hj hn).mp h1, rfl⟩
theorem c_meets {d o : Nat} {M : Mem} {K : Int32 → Mem → Prop} {S : Sh} {a b : Int32} (ho : kd o = (0, 2)) (hF : Fr M o S) (h : K (bI (mtI S a b)) M) : CI d μX2_meets [.ref o, .int a, .int b] M K := by
  refine sg_X2_meets_0 ho ?_
  have hn : ri M o 0 = nI (sn S) := hF.1.1
  have h8 : sn S ≤ 8 := hF.2.2.1
  have hout : ∀ q : ¬ (0 ≤ a ∧ a < nI (sn S) ∧ 0 ≤ b ∧ b < nI (sn S)), K 0 M := by
    intro q
    have e : mtI S a b = false := by unfold mtI; simp only [q, decide_false, Bool.false_and]
    rw [e] at h
    exact h
  rw [hn]
  by_cases h1 : a < 0
  · rw [if_pos h1]; exact hout (fun q => absurd h1 (i_nlt.mpr q.1))
  rw [if_neg h1]
  by_cases h2 : nI (sn S) ≤ a
  · rw [if_pos h2]; exact hout (fun q => absurd h2 (i_nle.mpr q.2.1))
  rw [if_neg h2]
  by_cases h3 : b < 0
  · rw [if_pos h3]; exact hout (fun q => absurd h3 (i_nlt.mpr q.2.2.1))
  rw [if_neg h3]
  by_cases h4 : nI (sn S) ≤ b
  · rw [if_pos h4]; exact hout (fun q => absurd h4 (i_nle.mpr q.2.2.2))
  rw [if_neg h4]
  obtain ⟨i, hi, rfl⟩ := n_nat (i_nlt.mp h1) (i_nle.mp h2) (by omega)
  obtain ⟨j, hj, rfl⟩ := n_nat (i_nlt.mp h3) (i_nle.mp h4) (by omega)
  have e : mtI S (nI i) (nI j) = (nbm (sc S) i).testBit j := by
    unfold mtI nx
    rw [nI_clamp (by omega), nI_clamp (by omega)]
    simp only [i_nlt.mp h1, i_nle.mp h2, i_nlt.mp h3, i_nle.mp h4, and_self, decide_true, Bool.true_and]
  rw [e] at h
  refine ⟨n_in (by omega) (by decide), ?_⟩
  have hlt : nbm (sc S) i < 256 := nbm_lt (n := 8) (fun m hm => (hF.2.2.2.2.2.1 m hm).1)
  rw [show nx (nI i) = i from nI_clamp (by omega), hF.2.1.1 i (by omega), n_bit (by omega) (by omega)]
  by_cases ht : (nbm (sc S) i).testBit j
  · rw [if_pos ht, if_pos rfl]; rw [ht] at h; exact h
  · rw [if_neg ht, if_neg (by decide)]; rw [Bool.not_eq_true] at ht; rw [ht] at h; exact h
