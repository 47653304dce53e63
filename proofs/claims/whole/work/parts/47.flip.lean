/-! a wall is flipped -/
def enm (b : Nat) : List Nat → Nat
  | [] => 0
  | m :: l => if m &&& b = b then clr m b ||| enm b l else enm b l
def cnm (b : Nat) (C : List Nat) : Nat := C.countP (fun m => decide (m &&& b = b))
theorem enm_take_succ {C : List Nat} {b i : Nat} (hi : i < C.length) : enm b (C.take (i + 1)) = if (C[i]?.getD 0) &&& b = b then enm b (C.take i) ||| clr (C[i]?.getD 0) b else enm b (C.take i) := by
  have app : ∀ (A : List Nat) (m : Nat), enm b (A ++ [m]) = if m &&& b = b then enm b A ||| clr m b else enm b A := by
    intro A m
    induction A with
    | nil => simp only [List.nil_append, enm]; split <;> simp
    | cons a l ih =>
      simp only [List.cons_append, enm, ih]
      by_cases h1 : a &&& b = b <;> by_cases h2 : m &&& b = b <;> simp [h1, h2, Nat.or_assoc]
  rw [List.take_add_one, List.getElem?_eq_getElem hi]
  exact app _ _
theorem cnm_take_succ {C : List Nat} {b i : Nat} (hi : i < C.length) : cnm b (C.take (i + 1)) = cnm b (C.take i) + if (C[i]?.getD 0) &&& b = b then 1 else 0 := by
  unfold cnm
  rw [List.take_add_one, List.getElem?_eq_getElem hi, List.countP_append]
  simp [List.countP_cons]
theorem cnm_le (b : Nat) (C : List Nat) : cnm b C ≤ C.length := List.countP_le_length
theorem enm_lt {b n : Nat} : ∀ {C : List Nat}, (∀ m ∈ C, m < 2 ^ n) → enm b C < 2 ^ n := by
  intro C
  induction C with
  | nil => intro _; exact Nat.two_pow_pos n
  | cons m l ih =>
    intro h
    unfold enm
    have h1 := ih (fun x hx => h x (List.mem_cons_of_mem _ hx))
    split
    · exact Nat.or_lt_two_pow (clr_lt (h m List.mem_cons_self)) h1
    · exact h1
theorem enm_off {b j : Nat} (hj : b.testBit j = true) : ∀ (C : List Nat), (enm b C).testBit j = false := by
  intro C
  induction C with
  | nil => exact Nat.zero_testBit j
  | cons m l ih =>
    unfold enm
    split
    · rw [Nat.testBit_or, ih, clr_tb, hj]; simp
    · exact ih
def pr (a b : Nat) : Nat := 2 ^ a ||| 2 ^ b
theorem pr_lt {a b : Nat} (ha : a < 8) (hb : b < 8) : pr a b < 256 := by
  unfold pr
  exact Nat.or_lt_two_pow (n := 8) (Nat.pow_lt_pow_right (by decide) ha) (Nat.pow_lt_pow_right (by decide) hb)
/-- between whom the wall of a and b would be (bits); 0 if it can't be flipped -/
def fe (S : Sh) (a b : Nat) : Nat :=
  if mtI S (nI a) (nI b) = false then 0 else if dgm (sc S) a < 4 ∨ dgm (sc S) b < 4 then 0
  else if cnm (pr a b) (sc S) = 2 ∧ pc8 (enm (pr a b) (sc S)) = 2 ∧ mtI S (nI (low8 (enm (pr a b) (sc S)))) (nI (low8 (enm (pr a b) (sc S) &&& (enm (pr a b) (sc S) - 1)))) = false then enm (pr a b) (sc S) else 0
def feI (S : Sh) (a b : Int32) : Nat := if mtI S a b then fe S (nx a) (nx b) else 0
theorem mtI_in {S : Sh} (hS : SOk S) {a b : Int32} (h : mtI S a b = true) : ∃ i j, i < sn S ∧ j < sn S ∧ a = nI i ∧ b = nI j := by
  unfold mtI at h
  rw [Bool.and_eq_true] at h
  have h1 := of_decide_eq_true h.1
  have h8 := hS.1
  obtain ⟨i, hi, rfl⟩ := n_nat h1.1 h1.2.1 (by omega)
  obtain ⟨j, hj, rfl⟩ := n_nat h1.2.2.1 h1.2.2.2 (by omega)
  exact ⟨i, j, hi, hj, rfl, rfl⟩
theorem two_bits : ∀ e, e < 256 → pc8 e = 2 → 0 < e ∧ ¬ (e &&& (e - 1)) = 0 ∧ (e &&& (e - 1)) < 256 := by decide +kernel
theorem fe_loop {d o : Nat} (ho : kd o = (0, 2)) {K : Int32 → Mem → Prop} {S : Sh} {M : Mem} {a b : Nat} (ha : a < sn S) (hb : b < sn S) (hF : Fr M o S) (hd1 : ¬ dgm (sc S) a < 4) (hd2 : ¬ dgm (sc S) b < 4) (hm : mtI S (nI a) (nI b) = true) (hK : K (nI (fe S a b)) M) :
    ∀ (f i : Nat), f + i = (sc S).length → RI (d + 1) μX2_flippedEnds 48 [(0, .ref o), (1, .int (nI a)), (2, .int (nI b)), (3, .int (nI (pr a b))), (4, .int (nI (enm (pr a b) ((sc S).take i)))), (5, .int (nI (cnm (pr a b) ((sc S).take i)))), (6, .int (nI i))] [] M K := by
  have hS := hF.2.2
  have h12 : (sc S).length ≤ 12 := hS.2.2.1
  have h8 : sn S ≤ 8 := hS.1
  have hpr : pr a b < 256 := pr_lt (by omega) (by omega)
  have hcl : ∀ i, cnm (pr a b) ((sc S).take i) ≤ 12 := fun i => Nat.le_trans (cnm_le _ _) (by rw [List.length_take]; omega)
  intro f
  induction f with
  | zero =>
    intro i hi
    have hi : i = (sc S).length := by omega
    subst hi
    have hc0 := hcl (sc S).length
    rw [List.take_length] at hc0 ⊢
    refine sg_X2_flippedEnds_48 ho ?_
    rw [hF.1.2.2.2.2.1, if_pos (by rw [nI_leI (by omega) (by omega)]; omega), l_2]
    have hfe : fe S a b = if cnm (pr a b) (sc S) = 2 ∧ pc8 (enm (pr a b) (sc S)) = 2 ∧ mtI S (nI (low8 (enm (pr a b) (sc S)))) (nI (low8 (enm (pr a b) (sc S) &&& (enm (pr a b) (sc S) - 1)))) = false then enm (pr a b) (sc S) else 0 := by
      unfold fe
      rw [hm, if_neg (by decide), if_neg (by omega)]
    have he : enm (pr a b) (sc S) < 256 := enm_lt (n := 8) (fun m hm => (hS.2.2.2.1 m hm).1)
    by_cases c1 : cnm (pr a b) (sc S) = 2
    · rw [c1, if_pos rfl]
      refine c_bitCount he ?_
      have hpc : pc8 (enm (pr a b) (sc S)) ≤ 8 := by unfold pc8 bitsL; exact Nat.le_trans (List.length_filter_le _ _) (by simp)
      by_cases c2 : pc8 (enm (pr a b) (sc S)) = 2
      · rw [c2, if_pos rfl]
        obtain ⟨t1, t2, t3⟩ := two_bits _ he c2
        refine c_lowest he ?_
        rw [if_neg (by omega)]
        have e1 : nI (enm (pr a b) (sc S)) - 1 = nI (enm (pr a b) (sc S) - 1) := by
          obtain ⟨z, hz⟩ : ∃ z, enm (pr a b) (sc S) = z + 1 := ⟨enm (pr a b) (sc S) - 1, by omega⟩
          rw [hz]; exact nI_pred z
        rw [e1, n_and]
        refine c_lowest t3 ?_
        rw [if_neg t2]
        refine c_meets ho hF ?_
        cases hq : mtI S (nI (low8 (enm (pr a b) (sc S)))) (nI (low8 (enm (pr a b) (sc S) &&& (enm (pr a b) (sc S) - 1)))) with
        | false =>
          rw [if_pos (by decide)]
          rw [hfe, if_pos ⟨c1, c2, hq⟩] at hK
          exact hK
        | true =>
          rw [if_neg (by decide)]
          rw [hfe, if_neg (fun q => by rw [hq] at q; exact absurd q.2.2 (by decide))] at hK
          exact hK
      · rw [if_neg (by rw [nI_eq (by omega) (by omega)]; exact c2)]
        rw [hfe, if_neg (fun q => c2 q.2.1)] at hK
        exact hK
    · rw [if_neg (by rw [nI_eq (by omega) (by omega)]; exact c1)]
      rw [hfe, if_neg (fun q => c1 q.1)] at hK
      exact hK
  | succ f ih =>
    intro i hi
    have hlt : i < (sc S).length := by omega
    refine sg_X2_flippedEnds_48 ho ?_
    rw [hF.1.2.2.2.2.1, if_neg (by rw [nI_leI (by omega) (by omega)]; omega)]
    have hin : vp_in (nI i) 12 := n_in (by omega) (by decide)
    have hrd : ri M (o + 2) (nx (nI i)) = nI ((sc S)[i]?.getD 0) := by
      rw [show nx (nI i) = i from nI_clamp (by omega)]; exact hF.1.2.2.2.2.2.2 i hlt
    refine ⟨hin, ?_⟩
    rw [hrd, n_and]
    have hm2 : (sc S)[i]?.getD 0 < 256 := by
      rw [List.getElem?_eq_getElem hlt]; exact (hS.2.2.2.1 _ (List.getElem_mem _)).1
    have hmb : ((sc S)[i]?.getD 0) &&& pr a b < 2 ^ 31 := Nat.lt_of_le_of_lt Nat.and_le_left (by omega)
    have hrec := ih (i + 1) (by omega)
    rw [enm_take_succ hlt, cnm_take_succ hlt] at hrec
    by_cases hc : ((sc S)[i]?.getD 0) &&& pr a b = pr a b
    · rw [if_pos (by rw [nI_eq hmb (by omega)]; exact hc)]
      rw [if_pos hc, if_pos hc] at hrec
      refine ⟨hin, ?_⟩
      rw [n_clr, n_or, nI_1, nI_1]
      exact hrec
    · rw [if_neg (by rw [nI_eq hmb (by omega)]; exact hc)]
      rw [if_neg hc, if_neg hc] at hrec
      rw [nI_1]
      exact hrec
theorem c_flippedEnds {d o : Nat} (ho : kd o = (0, 2)) {K : Int32 → Mem → Prop} {S : Sh} {M : Mem} {a b : Int32} (hF : Fr M o S) (hK : K (nI (feI S a b)) M) : CI (d + 1) μX2_flippedEnds [.ref o, .int a, .int b] M K := by
  have hS := hF.2.2
  have h8 : sn S ≤ 8 := hS.1
  refine sg_X2_flippedEnds_0 ho ?_
  refine c_meets ho hF ?_
  cases hm : mtI S a b with
  | false =>
    rw [if_pos (by decide)]
    unfold feI at hK
    rw [hm, if_neg (by decide)] at hK
    exact hK
  | true =>
    obtain ⟨i, j, hi, hj, rfl, rfl⟩ := mtI_in hS hm
    have e1 : nx (nI i) = i := nI_clamp (by omega)
    have e2 : nx (nI j) = j := nI_clamp (by omega)
    unfold feI at hK
    rw [hm, if_pos rfl, e1, e2] at hK
    have g1 := Nat.le_trans (dgm_le (sc S) i) hS.2.2.1
    have g2 := Nat.le_trans (dgm_le (sc S) j) hS.2.2.1
    rw [if_neg (by decide), e1, e2, hF.2.1.2 i (by omega), hF.2.1.2 j (by omega), l_4]
    refine ⟨n_in (by omega) (by decide), ?_⟩
    by_cases c1 : dgm (sc S) i < 4
    · rw [if_pos (by rw [nI_ltI (by omega) (by omega)]; exact c1)]
      unfold fe at hK
      rw [hm, if_neg (by decide), if_pos (Or.inl c1)] at hK
      exact hK
    · rw [if_neg (by rw [nI_ltI (by omega) (by omega)]; exact c1)]
      refine ⟨n_in (by omega) (by decide), ?_⟩
      by_cases c2 : dgm (sc S) j < 4
      · rw [if_neg (by rw [nI_leI (by omega) (by omega)]; omega)]
        unfold fe at hK
        rw [hm, if_neg (by decide), if_pos (Or.inr c2)] at hK
        exact hK
      · rw [if_pos (by rw [nI_leI (by omega) (by omega)]; omega), n_shl (by omega), n_shl (by omega), n_or]
        exact fe_loop ho hi hj hF c1 c2 hm hK (sc S).length 0 rfl
