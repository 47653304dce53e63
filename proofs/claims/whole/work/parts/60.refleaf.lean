/-! THE REFERENCE'S SHIRE: a row of 24 numbers -/
/-- the row a of the model holds the shire S: corners by their codes -/
def Ar (M : Mem) (a : Nat) (S : Sh) : Prop := (∀ i, i < (sc S).length → ri M a i = nI (cdm ((sc S)[i]?.getD 0))) ∧ ri M a 12 = nI (sc S).length ∧ ri M a 13 = nI (sb S) ∧ (∀ j, j < 8 → ri M a (14 + j) = nI (sz S j)) ∧ ri M a 22 = sy S ∧ ri M a 23 = nI (sd S)
theorem x_13 : nx 13 = 13 := by decide
theorem x_14 : nx 14 = 14 := by decide
theorem x_22 : nx 22 = 22 := by decide
theorem x_23 : nx 23 = 23 := by decide
theorem cdm_lt : ∀ m, m < 256 → cdm m < 512 := by decide +kernel
theorem hasB : ((List.range 256).all fun m => !(pc8 m == 3) || (List.range 8).all fun p => (if nI (cdm m) >>> (6 &&& 31) = nI p then true else if (nI (cdm m) >>> (3 &&& 31)) &&& 7 = nI p then true else if nI (cdm m) &&& 7 = nI p then true else false) == m.testBit p) = true := by decide +kernel
theorem r_has {d : Nat} {M : Mem} {K : Int32 → Mem → Prop} {m p : Nat} (hm : T3 m) (hp : p < 8) (h : K (bI (m.testBit p)) M) : CI d μX9_has [.int (nI (cdm m)), .int (nI p)] M K := by
  refine sg_X9_has_0 ?_
  have h1 := List.all_eq_true.mp hasB m (List.mem_range.mpr hm.1)
  rw [show (pc8 m == 3) = true by simp [hm.2], Bool.not_true, Bool.false_or] at h1
  have h2 := beq_iff_eq.mp (List.all_eq_true.mp h1 p (List.mem_range.mpr hp))
  rw [← h2] at h
  by_cases c1 : nI (cdm m) >>> (6 &&& 31) = nI p
  · rw [if_pos c1] at h ⊢; exact h
  · rw [if_neg c1] at h ⊢
    by_cases c2 : (nI (cdm m) >>> (3 &&& 31)) &&& 7 = nI p
    · rw [if_pos c2] at h ⊢; exact h
    · rw [if_neg c2] at h ⊢
      by_cases c3 : nI (cdm m) &&& 7 = nI p
      · rw [if_pos c3] at h ⊢; exact h
      · rw [if_neg c3] at h ⊢; exact h
theorem bitsB : ∀ m, m < 256 → pc8 m = 3 → (((1 : Int32) <<< ((nI (cdm m) >>> (6 &&& 31)) &&& 31)) ||| ((1 : Int32) <<< (((nI (cdm m) >>> (3 &&& 31)) &&& 7) &&& 31))) ||| ((1 : Int32) <<< ((nI (cdm m) &&& 7) &&& 31)) = nI m := by decide +kernel
theorem r_bitsOf {d : Nat} {M : Mem} {K : Int32 → Mem → Prop} {m : Nat} (hm : T3 m) (h : K (nI m) M) : CI d μX9_bitsOf [.int (nI (cdm m))] M K := by
  refine sg_X9_bitsOf_0 ?_
  rw [bitsB m hm.1 hm.2]
  exact h
theorem r_truth {d : Nat} {M : Mem} {K : Int32 → Mem → Prop} {b : Bool} (h : K (bI b) M) : CI d μX9_truth [.int (bI b)] M K := by
  refine sg_X9_truth_0 ?_
  cases b with
  | false => rw [if_pos (by decide)]; exact h
  | true => rw [if_neg (by decide)]; exact h
theorem r_lesser {d : Nat} {M : Mem} {K : Int32 → Mem → Prop} {a b : Nat} (ha : a < 2 ^ 31) (hb : b < 2 ^ 31) (h : K (nI (if b ≤ a then b else a)) M) : CI d μX9_lesser [.int (nI a), .int (nI b)] M K := by
  refine sg_X9_lesser_0 ?_
  by_cases c : b ≤ a
  · rw [if_pos ((nI_leI hb ha).mpr c)]; rw [if_pos c] at h; exact h
  · rw [if_neg (fun z => c ((nI_leI hb ha).mp z))]; rw [if_neg c] at h; exact h
theorem r_greater {d : Nat} {M : Mem} {K : Int32 → Mem → Prop} {a b : Nat} (ha : a < 2 ^ 31) (hb : b < 2 ^ 31) (h : K (nI (if a ≤ b then b else a)) M) : CI d μX9_greater [.int (nI a), .int (nI b)] M K := by
  refine sg_X9_greater_0 ?_
  by_cases c : a ≤ b
  · rw [if_pos ((nI_leI ha hb).mpr c)]; rw [if_pos c] at h; exact h
  · rw [if_neg (fun z => c ((nI_leI ha hb).mp z))]; rw [if_neg c] at h; exact h
def tri (a b c : Nat) : Nat := 2 ^ a ||| 2 ^ b ||| 2 ^ c
theorem corB : ((List.range 8).all fun a => (List.range 8).all fun b => (List.range 8).all fun c => a == b || a == c || b == c || (let lo := if (if c ≤ b then c else b) ≤ a then (if c ≤ b then c else b) else a; let hi := if a ≤ (if b ≤ c then c else b) then (if b ≤ c then c else b) else a; decide (((64 * nI lo) + (8 * ((((nI a + nI b) + nI c) - nI lo) - nI hi))) + nI hi = nI (cdm (tri a b c))) && decide (tri a b c < 256) && (pc8 (tri a b c) == 3))) = true := by decide +kernel
theorem tri_ok {a b c : Nat} (ha : a < 8) (hb : b < 8) (hc : c < 8) (h1 : a ≠ b) (h2 : a ≠ c) (h3 : b ≠ c) : ((64 * nI (if (if c ≤ b then c else b) ≤ a then (if c ≤ b then c else b) else a)) + (8 * ((((nI a + nI b) + nI c) - nI (if (if c ≤ b then c else b) ≤ a then (if c ≤ b then c else b) else a)) - nI (if a ≤ (if b ≤ c then c else b) then (if b ≤ c then c else b) else a)))) + nI (if a ≤ (if b ≤ c then c else b) then (if b ≤ c then c else b) else a) = nI (cdm (tri a b c)) ∧ T3 (tri a b c) := by
  have g1 := List.all_eq_true.mp corB a (List.mem_range.mpr ha)
  have g2 := List.all_eq_true.mp g1 b (List.mem_range.mpr hb)
  have g3 := List.all_eq_true.mp g2 c (List.mem_range.mpr hc)
  rw [show (a == b) = false by simp [h1], show (a == c) = false by simp [h2], show (b == c) = false by simp [h3]] at g3
  simp only [Bool.false_or, Bool.and_eq_true, decide_eq_true_eq, beq_iff_eq] at g3
  exact ⟨g3.1.1, g3.1.2, g3.2⟩
theorem r_cornerOf {d : Nat} {M : Mem} {K : Int32 → Mem → Prop} {a b c : Nat} (ha : a < 8) (hb : b < 8) (hc : c < 8) (h1 : a ≠ b) (h2 : a ≠ c) (h3 : b ≠ c) (h : K (nI (cdm (tri a b c))) M) : CI (d + 1) μX9_cornerOf [.int (nI a), .int (nI b), .int (nI c)] M K := by
  refine sg_X9_cornerOf_0 ?_
  refine r_lesser (by omega) (by omega) ?_
  refine r_lesser (by omega) (by split <;> omega) ?_
  refine r_greater (by omega) (by omega) ?_
  refine r_greater (by omega) (by split <;> omega) ?_
  rw [(tri_ok ha hb hc h1 h2 h3).1]
  exact h
theorem pc8_sum : ∀ x, x < 256 → pc8 x = ((List.range 8).map fun k => if x.testBit k then 1 else 0).sum := by decide +kernel
def pcF (x : Nat) : Nat → Nat
  | 0 => 0
  | k + 1 => pcF x k + if x.testBit k then 1 else 0
theorem pcF_8 : ∀ x, x < 256 → pcF x 8 = pc8 x := by decide +kernel
theorem r_members {d : Nat} {M : Mem} {K : Int32 → Mem → Prop} {x : Nat} (hx : x < 256) (h : K (nI (pc8 x)) M) : CI d μX9_members [.int (nI x)] M K := by
  refine sg_X9_members_0 ?_
  have loop : ∀ (f k : Nat), f + k = 8 → RI d μX9_members 4 [(0, .int (nI x)), (1, .int (nI (pcF x k))), (2, .int (nI k))] [] M K := by
    intro f
    induction f with
    | zero =>
      intro k hk
      have : k = 8 := by omega
      subst this
      refine sg_X9_members_4 ?_
      rw [if_pos (by rw [l_8, nI_leI (by omega) (by omega)]; omega), pcF_8 x hx]
      exact h
    | succ f ih =>
      intro k hk
      refine sg_X9_members_4 ?_
      rw [if_neg (by rw [l_8, nI_leI (by omega) (by omega)]; omega), n_bit (by omega) (by omega)]
      have hrec := ih (k + 1) (by omega)
      unfold pcF at hrec
      rw [nI_1]
      by_cases ht : x.testBit k = true
      · rw [if_pos ht] at hrec ⊢; rw [nI_1]; exact hrec
      · rw [if_neg ht] at hrec ⊢; rw [l_0, nI_add]; exact hrec
  exact loop 8 0 rfl
theorem r_isThere {d : Nat} {M : Mem} {K : Int32 → Mem → Prop} {S : Sh} {p : Nat} (hp : p < 31) (hb : sb S < 256) (hA : Ar M 69 S) (h : K (bI ((sb S).testBit p)) M) : CI d μX9_isThere [.ref 58, .int (nI p)] M K := by
  refine sg_X9_isThere_0 ?_
  rw [x_13, hA.2.2.1, n_bit (by omega) hp]
  by_cases ht : (sb S).testBit p = true
  · rw [if_pos ht, if_pos rfl]; rw [ht] at h; exact h
  · rw [if_neg ht, if_neg (by decide)]; rw [Bool.not_eq_true] at ht; rw [ht] at h; exact h
theorem r_sidesOf {d : Nat} {M : Mem} {K : Int32 → Mem → Prop} {S : Sh} {p : Nat} (hp : p < 8) (hS : SOk S) (hA : Ar M 69 S) (h : K (nI (dgm (sc S) p)) M) : CI (d + 1) μX9_sidesOf [.ref 58, .int (nI p)] M K := by
  have h12 := hS.2.2.1
  refine sg_X9_sidesOf_0 ?_
  have loop : ∀ (f i : Nat), f + i = (sc S).length → RI (d + 1) μX9_sidesOf 4 [(0, .ref 58), (1, .int (nI p)), (2, .int (nI (dgm ((sc S).take i) p))), (3, .int (nI i))] [] M K := by
    intro f
    induction f with
    | zero =>
      intro i hi
      have hi : i = (sc S).length := by omega
      subst hi
      refine sg_X9_sidesOf_4 ?_
      rw [x_12, hA.2.1, if_pos (by rw [nI_leI (by omega) (by omega)]; omega), List.take_length]
      exact h
    | succ f ih =>
      intro i hi
      have hlt : i < (sc S).length := by omega
      have hmem : (sc S)[i]?.getD 0 ∈ sc S := by rw [List.getElem?_eq_getElem hlt]; exact List.getElem_mem _
      refine sg_X9_sidesOf_4 ?_
      rw [x_12, hA.2.1, if_neg (by rw [nI_leI (by omega) (by omega)]; omega)]
      refine ⟨n_in (by omega) (by decide), ?_⟩
      rw [show nx (nI i) = i from nI_clamp (by omega), hA.1 i hlt]
      refine r_has (hS.2.2.2.1 _ hmem) hp ?_
      refine r_truth ?_
      have hrec := ih (i + 1) (by omega)
      rw [dgm_take_succ hlt] at hrec
      rw [nI_1]
      cases ht : ((sc S)[i]?.getD 0).testBit p with
      | true => rw [ht, if_pos rfl] at hrec; show RI _ _ _ [_, _, (2, .int (nI _ + 1)), _] _ _ _; rw [nI_1]; exact hrec
      | false => rw [ht, if_neg (by decide)] at hrec; show RI _ _ _ [_, _, (2, .int (nI _ + 0)), _] _ _ _; rw [l_0, nI_add]; exact hrec
  exact loop (sc S).length 0 rfl
theorem r_bordersOf {d : Nat} {M : Mem} {K : Int32 → Mem → Prop} {S : Sh} {p : Nat} (hp : p < 8) (hS : SOk S) (hA : Ar M 69 S) (h : K (nI (nbm (sc S) p)) M) : CI (d + 1) μX9_bordersOf [.ref 58, .int (nI p)] M K := by
  have h12 := hS.2.2.1
  refine sg_X9_bordersOf_0 ?_
  have loop : ∀ (f i : Nat), f + i = (sc S).length → RI (d + 1) μX9_bordersOf 4 [(0, .ref 58), (1, .int (nI p)), (2, .int (nI (orm p ((sc S).take i)))), (3, .int (nI i))] [] M K := by
    intro f
    induction f with
    | zero =>
      intro i hi
      have hi : i = (sc S).length := by omega
      subst hi
      refine sg_X9_bordersOf_4 ?_
      rw [x_12, hA.2.1, if_pos (by rw [nI_leI (by omega) (by omega)]; omega), List.take_length, n_shl (by omega), n_clr]
      exact h
    | succ f ih =>
      intro i hi
      have hlt : i < (sc S).length := by omega
      have hmem : (sc S)[i]?.getD 0 ∈ sc S := by rw [List.getElem?_eq_getElem hlt]; exact List.getElem_mem _
      refine sg_X9_bordersOf_4 ?_
      rw [x_12, hA.2.1, if_neg (by rw [nI_leI (by omega) (by omega)]; omega)]
      have hin : vp_in (nI i) 24 := n_in (by omega) (by decide)
      refine ⟨hin, ?_⟩
      rw [show nx (nI i) = i from nI_clamp (by omega), hA.1 i hlt]
      refine r_has (hS.2.2.2.1 _ hmem) hp ?_
      have hrec := ih (i + 1) (by omega)
      rw [orm_take_succ hlt] at hrec
      rw [nI_1]
      cases ht : ((sc S)[i]?.getD 0).testBit p with
      | true =>
        rw [ht, if_pos rfl] at hrec
        rw [if_neg (by decide)]
        refine ⟨hin, ?_⟩
        rw [hA.1 i hlt]
        refine r_bitsOf (hS.2.2.2.1 _ hmem) ?_
        rw [n_or]; exact hrec
      | false =>
        rw [ht, if_neg (by decide)] at hrec
        rw [if_pos (by decide)]
        exact hrec
  exact loop (sc S).length 0 rfl
