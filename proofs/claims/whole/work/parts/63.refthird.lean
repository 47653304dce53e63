/-! third -/
theorem thirdB : ((List.range 256).all fun m => !(pc8 m == 3) || (List.range 8).all fun a => (List.range 8).all fun b => a == b || !((m &&& pr a b) == pr a b) || ((clr m (pr a b) == 2 ^ low8 (clr m (pr a b))) && decide (low8 (clr m (pr a b)) < 8))) = true := by decide +kernel
theorem third_ok {m a b : Nat} (hm : T3 m) (ha : a < 8) (hb : b < 8) (hab : a ≠ b) (h : m &&& pr a b = pr a b) : clr m (pr a b) = 2 ^ low8 (clr m (pr a b)) ∧ low8 (clr m (pr a b)) < 8 := by
  have h1 := List.all_eq_true.mp thirdB m (List.mem_range.mpr hm.1)
  rw [show (pc8 m == 3) = true by simp [hm.2], Bool.not_true, Bool.false_or] at h1
  have h2 := List.all_eq_true.mp h1 a (List.mem_range.mpr ha)
  have h3 := List.all_eq_true.mp h2 b (List.mem_range.mpr hb)
  rw [show (a == b) = false by simp [hab], show ((m &&& pr a b) == pr a b) = true by simp [h]] at h3
  simp only [Bool.not_true, Bool.false_or, Bool.and_eq_true, beq_iff_eq, decide_eq_true_eq] at h3
  exact h3
theorem shr_pow : ∀ c, c < 8 → ∀ f, f < 8 → f ≤ c → (nI (2 ^ c) >>> (nI f &&& 31) = 1 ↔ f = c) := by decide +kernel
theorem and_pr {m a b : Nat} : (m &&& pr a b = pr a b) ↔ (m.testBit a = true ∧ m.testBit b = true) := by
  constructor
  · intro h
    have e : ∀ i, (m &&& pr a b).testBit i = (pr a b).testBit i := fun i => by rw [h]
    have h1 := e a
    have h2 := e b
    rw [Nat.testBit_and, pr_tb] at h1 h2
    simp at h1 h2
    exact ⟨h1, h2⟩
  · rintro ⟨h1, h2⟩
    apply Nat.eq_of_testBit_eq
    intro i
    rw [Nat.testBit_and, pr_tb]
    by_cases c1 : a = i
    · subst c1; simp [h1]
    · by_cases c2 : b = i
      · subst c2; simp [h2]
      · simp [c1, c2]
/-- the third of a corner with the first (w 0) or the last (else) such pair -/
def thSt (w b : Nat) (cur : Option Nat) (m : Nat) : Option Nat := if m &&& b = b then (if w = 0 ∧ cur.isSome then cur else some (low8 (clr m b))) else cur
def thS (w b : Nat) (C : List Nat) : Option Nat := C.foldl (thSt w b) none
def oI (o : Option Nat) : Int32 := match o with
  | none => -1
  | some c => nI c
theorem thS_take_succ {w b i : Nat} {C : List Nat} (hi : i < C.length) : thS w b (C.take (i + 1)) = thSt w b (thS w b (C.take i)) (C[i]?.getD 0) := by
  unfold thS
  rw [List.take_add_one, List.getElem?_eq_getElem hi, List.foldl_append]
  rfl
theorem r_third {d : Nat} {M : Mem} {K : Int32 → Mem → Prop} {S : Sh} {a b w : Nat} (ha : a < 8) (hb : b < 8) (hab : a ≠ b) (hw : w < 2) (hS : SOk S) (hA : Ar M 69 S) (h : K (oI (thS w (pr a b) (sc S))) M) : CI (d + 1) μX9_third [.ref 58, .int (nI a), .int (nI b), .int (nI w)] M K := by
  have h12 := hS.2.2.1
  refine sg_X9_third_0 ?_
  have loop : ∀ (f i : Nat), f + i = (sc S).length → (∀ c, thS w (pr a b) ((sc S).take i) = some c → c < 8) → RI (d + 1) μX9_third 6 [(0, .ref 58), (1, .int (nI a)), (2, .int (nI b)), (3, .int (nI w)), (4, .int (oI (thS w (pr a b) ((sc S).take i)))), (5, .int (nI i))] [] M K := by
    intro f
    induction f with
    | zero =>
      intro i hi _
      have hi : i = (sc S).length := by omega
      subst hi
      refine sg_X9_third_6 ?_
      rw [x_12, hA.2.1, if_pos (by rw [nI_leI (by omega) (by omega)]; omega), List.take_length]
      exact h
    | succ f ih =>
      intro i hi hcur
      have hlt : i < (sc S).length := by omega
      have hmem : (sc S)[i]?.getD 0 ∈ sc S := by rw [List.getElem?_eq_getElem hlt]; exact List.getElem_mem _
      have hT := hS.2.2.2.1 _ hmem
      have hrec := ih (i + 1) (by omega)
      rw [thS_take_succ hlt] at hrec
      refine sg_X9_third_6 ?_
      have hin : vp_in (nI i) 24 := n_in (by omega) (by decide)
      rw [x_12, hA.2.1, if_neg (by rw [nI_leI (by omega) (by omega)]; omega)]
      refine ⟨hin, ?_⟩
      rw [show nx (nI i) = i from nI_clamp (by omega), hA.1 i hlt, nI_1]
      have hrdi := hA.1 i hlt
      generalize hmv : (sc S)[i]?.getD 0 = m at hT hrec hrdi ⊢
      have skip : ¬ (m &&& pr a b = pr a b) → RI (d + 1) μX9_third 6 [(0, .ref 58), (1, .int (nI a)), (2, .int (nI b)), (3, .int (nI w)), (4, .int (oI (thS w (pr a b) ((sc S).take i)))), (5, .int (nI (i + 1)))] [] M K := by
        intro hno
        have e : thSt w (pr a b) (thS w (pr a b) ((sc S).take i)) m = thS w (pr a b) ((sc S).take i) := by unfold thSt; rw [if_neg hno]
        rw [e] at hrec
        exact hrec hcur
      refine r_has hT ha ?_
      cases hta : m.testBit a with
      | false => rw [if_pos (by decide)]; exact skip (fun z => by have := (and_pr.mp z).1; rw [hta] at this; exact absurd this (by decide))
      | true =>
        rw [if_neg (by decide)]
        refine ⟨hin, ?_⟩
        rw [hrdi]
        refine r_has hT hb ?_
        cases htb : m.testBit b with
        | false => rw [if_pos (by decide)]; exact skip (fun z => by have := (and_pr.mp z).2; rw [htb] at this; exact absurd this (by decide))
        | true =>
          rw [if_neg (by decide)]
          have hall : m &&& pr a b = pr a b := and_pr.mpr ⟨hta, htb⟩
          obtain ⟨t1, t2⟩ := third_ok hT ha hb hab hall
          -- its third is found
          have take : ¬ (w = 0 ∧ (thS w (pr a b) ((sc S).take i)).isSome = true) → RI (d + 1) μX9_third 58 [(0, .ref 58), (1, .int (nI a)), (2, .int (nI b)), (3, .int (nI w)), (4, .int (oI (thS w (pr a b) ((sc S).take i)))), (5, .int (nI i))] [] M K := by
            intro hno
            refine sg_X9_third_58 ⟨hin, ?_⟩
            rw [show nx (nI i) = i from nI_clamp (by omega), hrdi]
            refine r_bitsOf hT ?_
            rw [n_shl (by omega), n_shl (by omega), n_or, n_clr]
            show RI (d + 1) μX9_third 83 [(0, .ref 58), (1, .int (nI a)), (2, .int (nI b)), (3, .int (nI w)), (4, .int 0), (5, .int (nI i)), (6, .int (nI (clr m (pr a b))))] [] M K
            rw [t1]
            generalize low8 (clr m (pr a b)) = c at t1 t2 ⊢
            have hst : thSt w (pr a b) (thS w (pr a b) ((sc S).take i)) m = some (low8 (clr m (pr a b))) := by
              unfold thSt; rw [if_pos hall, if_neg hno]
            have hlow : low8 (clr m (pr a b)) = c := by
              rw [t1]; exact (show ∀ c, c < 8 → low8 (2 ^ c) = c by decide) c t2
            rw [hst, hlow] at hrec
            have inner : ∀ (f2 k : Nat), f2 + k = c → RI (d + 1) μX9_third 83 [(0, .ref 58), (1, .int (nI a)), (2, .int (nI b)), (3, .int (nI w)), (4, .int (nI k)), (5, .int (nI i)), (6, .int (nI (2 ^ c)))] [] M K := by
              intro f2
              induction f2 with
              | zero =>
                intro k hk
                have hk : k = c := by omega
                subst hk
                refine sg_X9_third_83 ?_
                rw [if_pos ((shr_pow k t2 k t2 (Nat.le_refl _)).mpr rfl), nI_1]
                exact hrec (fun c' hc' => by cases hc'; exact t2)
              | succ f2 ih2 =>
                intro k hk
                refine sg_X9_third_83 ?_
                rw [if_neg (fun z => by have := (shr_pow c t2 k (by omega) (by omega)).mp z; omega), nI_1]
                exact ih2 (k + 1) (by omega)
            exact inner c 0 rfl
          by_cases hw0 : w = 0
          · rw [if_pos (by rw [hw0]; rfl)]
            cases hcv : thS w (pr a b) ((sc S).take i) with
            | none =>
              rw [hcv] at take
              show (if (-1 : Int32) < 0 then _ else _)
              rw [if_pos (by decide)]
              exact take (fun z => by simp at z)
            | some c =>
              have hc8 := hcur c hcv
              show (if nI c < 0 then _ else _)
              rw [if_neg (nI_pos (by omega))]
              have e : thSt w (pr a b) (thS w (pr a b) ((sc S).take i)) m = some c := by
                unfold thSt; rw [if_pos hall, if_pos ⟨hw0, by rw [hcv]; rfl⟩]; exact hcv
              rw [e] at hrec
              exact hrec (fun c' hc' => by cases hc'; exact hc8)
          · rw [if_neg (by rw [l_0, nI_eq (by omega) (by omega)]; exact hw0)]
            exact take (fun z => hw0 z.1)
  exact loop (sc S).length 0 rfl (fun c hc => by cases hc)
