/-! what the Statement gives of the start: the two String constants and two statics -/
def tmS (i : Nat) : Term := if i = 0 then .string "FrothShire$Reader" 95 else .string "FrothShire$Reader" 108
def fl : List Cond := flatC (Jvm.Cond.and given_1 narrow_1)
theorem fl_ex : ∀ i, i < 2 → fl[if i = 0 then 125 else 9]? = some (Cond.exactly (tmS i) "java/lang/String") := by decide +kernel
theorem fl_co : ∀ i, i < 2 → fl[if i = 0 then 126 else 10]? = some (Cond.eq (.field (tmS i) "java/lang/String" "coder" "B") (.int 0)) := by decide +kernel
theorem fl_ar : ∀ i, i < 2 → fl[if i = 0 then 127 else 11]? = some (Cond.arrayOf (.field (tmS i) "java/lang/String" "value" "[B") .byte) := by decide +kernel
theorem fl_le : ∀ i, i < 2 → fl[if i = 0 then 128 else 12]? = some (Cond.eq (.length (.field (tmS i) "java/lang/String" "value" "[B")) (.int (Int32.ofNat (lenS.getD i 0)))) := by decide +kernel
theorem fl_el : ∀ i, i < 2 → ∀ j, j < lenS.getD i 0 → fl[(if i = 0 then 129 else 13) + j]? = some (Cond.eq (.elem (.field (tmS i) "java/lang/String" "value" "[B") (.int (Int32.ofNat j))) (.int ((bytS.getD i []).getD j 0))) := by decide +kernel
theorem fl_ne : fl[140]? = some (Cond.not (Cond.eq (tmS 1) (tmS 0))) := by decide +kernel
theorem fl_cs : fl[4]? = some (Cond.eq (.static "java/lang/String" "COMPACT_STRINGS" "Z") (.int 1)) := by decide +kernel
theorem fl_sf : fl[5]? = some (Cond.isRef (.static "jdk/internal/util/Preconditions" "SIOOBE_FORMATTER" "Ljava/util/function/BiFunction;")) := by decide +kernel
theorem tb_r1 : Cond.stringRef "FrothShire$Reader" 95 txS ∈ lw_tbl := by decide +kernel
theorem tb_r2 : Cond.stringRef "FrothShire$Reader" 108 txW ∈ lw_tbl := by decide +kernel
theorem tb_l1 : Cond.laysStatic "java/lang/String" "COMPACT_STRINGS" "Z" ∈ lw_tbl := by decide +kernel
theorem tb_l2 : Cond.laysStatic "jdk/internal/util/Preconditions" "SIOOBE_FORMATTER" "Ljava/util/function/BiFunction;" ∈ lw_tbl := by decide +kernel
theorem tb_i1 : Cond.initialized "java/lang/String" ∈ lw_tbl := by decide +kernel
theorem tb_i2 : Cond.initialized "jdk/internal/util/Preconditions" ∈ lw_tbl := by decide +kernel
theorem tb_n1 : Cond.methodLinkNest RX2 72 yX8_lowest "FrothShire" ∈ lw_tbl := by decide +kernel
theorem tb_n2 : Cond.methodLinkNest RX5 66 yX8_lowest "FrothShire" ∈ lw_tbl := by decide +kernel
theorem tb_ns : ∀ q ∈ nst, Cond.methodLinkNest q.1 q.2.1 q.2.2 "FrothShire" ∈ lw_tbl := by decide +kernel
theorem OS_at {b : Nat} {s : State} (hts : ∀ w ∈ lw_tbl, w.before #[Value.ref b] s = true) (hgv : (Jvm.Cond.and given_1 narrow_1).before #[Value.ref b] s = true) : ∃ ad : Nat → Nat, ad 100 = b ∧ ∀ ad' : Nat → Nat, (∀ k, 88 ≤ k → ad' k = ad k) → OS s.heap.size ad' s := by
  have hf : ∀ w ∈ fl, w.before #[Value.ref b] s = true := flat_of_before _ hgv
  have hA : ∀ a : Nat, a < s.heap.size → ¬ (fun q : Nat => s.heap.size ≤ q) a := fun a h => Nat.not_le.mpr h
  have hat : ∀ (i : Nat) (w : Cond), fl[i]? = some w → w.before #[Value.ref b] s = true := fun i w h => hf w (List.mem_of_getElem? h)
  obtain ⟨adK, adV, hS, hT⟩ := vk_Sof (tm := tmS) (N := 2) (len := lenS) (byt := bytS) (A := fun q : Nat => s.heap.size ≤ q) (by decide +kernel) (fun i hi => hat _ _ (fl_ex i hi)) (fun i hi => hat _ _ (fl_co i hi)) (fun i hi => hat _ _ (fl_ar i hi)) (fun i hi => hat _ _ (fl_le i hi)) (fun i hi j hj => hat _ _ (fl_el i hi j hj)) (fun i j hi hj hij => by
    rcases (show (i = 0 ∧ j = 1) ∨ (i = 1 ∧ j = 0) by omega) with ⟨rfl, rfl⟩ | ⟨rfl, rfl⟩
    · exact Or.inr (hat _ _ fl_ne)
    · exact Or.inl (hat _ _ fl_ne)) hA
  have z1 := va_Zof (hts _ tb_l1) (hts _ tb_i1) (va_eqi (hat _ _ fl_cs)) hA
  have z2 := va_Zqof (hts _ tb_l2) (hts _ tb_i2) (hat _ _ fl_sf) hA
  obtain ⟨v, t, hv, z3⟩ : ∃ (v : Value) (t : Nat), (v = .null ∨ v = .ref t) ∧ va_Z "jdk/internal/util/Preconditions" "SIOOBE_FORMATTER" "Ljava/util/function/BiFunction;" v (fun q : Nat => s.heap.size ≤ q) s s.heap := by
    rcases z2 with h | ⟨t, h⟩
    · exact ⟨.null, 0, Or.inl rfl, h⟩
    · exact ⟨.ref t, t, Or.inr rfl, h⟩
  refine ⟨fun k => if k = 100 then b else if k = 102 then adK 0 else if k = 103 then adV 0 else if k = 104 then adK 1 else if k = 105 then adV 1 else t, rfl, fun ad' h => ?_⟩
  have e2 : ad' 102 = adK 0 := h 102 (by omega)
  have e3 : ad' 103 = adV 0 := h 103 (by omega)
  have e4 : ad' 104 = adK 1 := h 104 (by omega)
  have e5 : ad' 105 = adV 1 := h 105 (by omega)
  have e6 : ad' 106 = t := h 106 (by omega)
  have eK : ∀ i, i < 2 → ad' (102 + 2 * i) = adK i := fun i hi => by
    rcases (show i = 0 ∨ i = 1 by omega) with rfl | rfl
    · exact e2
    · exact e4
  have eV : ∀ i, i < 2 → ad' (103 + 2 * i) = adV i := fun i hi => by
    rcases (show i = 0 ∨ i = 1 by omega) with rfl | rfl
    · exact e3
    · exact e5
  refine ⟨?_, ?_, ⟨fun i hi => ?_, fun i j hi hj q => ?_⟩, z1, ?_⟩
  · rw [e2]; exact vk_R.of (hts _ tb_r1) (hT 0 (by omega))
  · rw [e4]; exact vk_R.of (hts _ tb_r2) (hT 1 (by omega))
  · have := hS.1 i hi
    rw [← eK i hi, ← eV i hi] at this
    exact this
  · refine hS.2 i j hi hj ?_
    rw [← eK i hi, ← eK j hj]; exact q
  · rcases hv with rfl | rfl
    · exact ⟨.null, rfl, z3⟩
    · refine ⟨.ref 106, rfl, ?_⟩
      rw [cv_ref, e6]; exact z3
theorem know {b : Nat} {s : State} (hg : ∀ w ∈ gtb, w.before #[Value.ref b] s = true) : ∃ (dC : Nat → ClassId) (dI : Nat → Nat → Nat) (cA : Nat → ClassId), va_K (dC, dI) classes (tysA cA) s := by
  obtain ⟨c0, i0, h0⟩ := u_known (C := RX0) (T := TX0) (N := 6) (n := 6) hg in_X0 (hg _ it_X0)
  obtain ⟨c1, i1, h1⟩ := u_known (C := RX1) (T := TX1) (N := 5) (n := 5) hg in_X1 (hg _ it_X1)
  obtain ⟨c2, i2, h2⟩ := u_known (C := RX2) (T := TX2) (N := 10) (n := 10) hg in_X2 (hg _ it_X2)
  obtain ⟨c3, i3, h3⟩ := u_known (C := RX3) (T := TX3) (N := 4) (n := 4) hg in_X3 (hg _ it_X3)
  obtain ⟨c4, i4, h4⟩ := u_known (C := RX4) (T := TX4) (N := 10) (n := 10) hg in_X4 (hg _ it_X4)
  obtain ⟨c5, i5, h5⟩ := u_known (C := RX5) (T := TX5) (N := 3) (n := 3) hg in_X5 (hg _ it_X5)
  obtain ⟨c6, i6, h6⟩ := u_known (C := RX6) (T := TX6) (N := 12) (n := 12) hg in_X6 (hg _ it_X6)
  obtain ⟨c7, i7, h7⟩ := u_known (C := RX7) (T := TX7) (N := 8) (n := 8) hg in_X7 (hg _ it_X7)
  obtain ⟨c8, i8, h8⟩ := u_known (C := RX8) (T := TX8) (N := 13) (n := 13) hg in_X8 (hg _ it_X8)
  obtain ⟨c9, i9, h9⟩ := u_known (C := RX9) (T := TX9) (N := 62) (n := 62) hg in_X9 (hg _ it_X9)
  obtain ⟨a0, k0, m0, p0, q0, r0⟩ := Cond.arrayClass_spec (hg _ ac_int)
  obtain ⟨a1, k1, m1, p1, q1, r1⟩ := Cond.arrayClass_spec (hg _ ac_long)
  obtain ⟨a2, k2, m2, p2, q2, r2⟩ := Cond.arrayClass_spec (hg _ ac_byte)
  obtain ⟨a3, k3, m3, p3, q3, r3⟩ := Cond.arrayClass_spec (hg _ ac_boolean)
  refine ⟨fun k => match k with | 0 => c0 | 1 => c1 | 2 => c2 | 3 => c3 | 4 => c4 | 5 => c5 | 6 => c6 | 7 => c7 | 8 => c8 | _ => c9, fun k => match k with | 0 => i0 | 1 => i1 | 2 => i2 | 3 => i3 | 4 => i4 | 5 => i5 | 6 => i6 | 7 => i7 | 8 => i8 | _ => i9, fun k => match k with | 0 => a0 | 1 => a1 | 2 => a2 | _ => a3, ?_, ?_⟩
  · intro k q hq
    match k, hq with
    | 0, hq => cases hq; exact h0
    | 1, hq => cases hq; exact h1
    | 2, hq => cases hq; exact h2
    | 3, hq => cases hq; exact h3
    | 4, hq => cases hq; exact h4
    | 5, hq => cases hq; exact h5
    | 6, hq => cases hq; exact h6
    | 7, hq => cases hq; exact h7
    | 8, hq => cases hq; exact h8
    | 9, hq => cases hq; exact h9
    | k + 10, hq => simp [classes] at hq
  · intro k q hq
    match k, hq with
    | 0, hq => cases hq; exact ⟨fun n z => ⟨fun k h => (by cases h), k0, q0, m0, r0⟩, p0⟩
    | 1, hq => cases hq; exact ⟨fun n z => ⟨fun k h => (by cases h), k1, q1, m1, r1⟩, p1⟩
    | 2, hq => cases hq; exact ⟨fun n z => ⟨fun k h => (by cases h), k2, q2, m2, r2⟩, p2⟩
    | 3, hq => cases hq; exact ⟨fun n z => ⟨fun k h => (by cases h), k3, q3, m3, r3⟩, p3⟩
    | k + 4, hq => simp [tysA] at hq
theorem Wq_0 : Wq 0 pm0 := ⟨fun k j => by
  show okv 0 (dfv (kd k).2 j) = true
  unfold dfv
  split <;> rfl, fun _ _ _ => rfl⟩
