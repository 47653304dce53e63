theorem dX7_empty_0 : decode μX7_empty.2.1 0 = .ok (.aload_n 0, 1) := by decide +kernel
theorem dX7_empty_1 : decode μX7_empty.2.1 1 = .ok (.getfield 12, 3) := by decide +kernel
theorem dX7_empty_4 : decode μX7_empty.2.1 4 = .ok (.invokevirtual 46, 3) := by decide +kernel
theorem dX7_empty_7 : decode μX7_empty.2.1 7 = .ok (.aload_n 0, 1) := by decide +kernel
theorem dX7_empty_8 : decode μX7_empty.2.1 8 = .ok (.getfield 21, 3) := by decide +kernel
theorem dX7_empty_11 : decode μX7_empty.2.1 11 = .ok (.invokevirtual 49, 3) := by decide +kernel
theorem dX7_empty_14 : decode μX7_empty.2.1 14 = .ok (.aload_n 0, 1) := by decide +kernel
theorem dX7_empty_15 : decode μX7_empty.2.1 15 = .ok (.iconst 0, 1) := by decide +kernel
theorem dX7_empty_16 : decode μX7_empty.2.1 16 = .ok (.putfield 29, 3) := by decide +kernel
theorem dX7_empty_19 : decode μX7_empty.2.1 19 = .ok (.aload_n 0, 1) := by decide +kernel
theorem dX7_empty_20 : decode μX7_empty.2.1 20 = .ok (.iconst 0, 1) := by decide +kernel
theorem dX7_empty_21 : decode μX7_empty.2.1 21 = .ok (.putfield 33, 3) := by decide +kernel
theorem dX7_empty_24 : decode μX7_empty.2.1 24 = .ok (.aload_n 0, 1) := by decide +kernel
theorem dX7_empty_25 : decode μX7_empty.2.1 25 = .ok (.iconst 0, 1) := by decide +kernel
theorem dX7_empty_26 : decode μX7_empty.2.1 26 = .ok (.putfield 36, 3) := by decide +kernel
theorem dX7_empty_29 : decode μX7_empty.2.1 29 = .ok (.aload_n 0, 1) := by decide +kernel
theorem dX7_empty_30 : decode μX7_empty.2.1 30 = .ok (.iconst 0, 1) := by decide +kernel
theorem dX7_empty_31 : decode μX7_empty.2.1 31 = .ok (.putfield 40, 3) := by decide +kernel
theorem dX7_empty_34 : decode μX7_empty.2.1 34 = .ok (.aload_n 0, 1) := by decide +kernel
theorem dX7_empty_35 : decode μX7_empty.2.1 35 = .ok (.iconst 0, 1) := by decide +kernel
theorem dX7_empty_36 : decode μX7_empty.2.1 36 = .ok (.putfield 43, 3) := by decide +kernel
theorem dX7_empty_39 : decode μX7_empty.2.1 39 = .ok (.return_, 1) := by decide +kernel
set_option maxRecDepth 20000 in
theorem sg_X7_empty_0 {d : Nat} {t : Nat} {M : Mem} {K : (Mem → Prop)} (ht : kd t = (0, 7)) (h : (CV d μX2_empty [.ref (t + 1)] M (fun M1 => (CV d μX1_empty [.ref (t + 7)] M1 (fun M2 => (∀ M3, M3 = wi M2 t 3 0 → (∀ M4, M4 = wi M3 t 4 0 → (∀ M5, M5 = wi M4 t 5 0 → (∀ M6, M6 = wi M5 t 6 0 → (∀ M7, M7 = wi M6 t 7 0 → K M7)))))))))) : CV (d + 1) μX7_empty [.ref t] M K := by
  show Rn (d + 1) μX7_empty 0 [(0, .ref t)] [] M _
  refine rn_aload_n (i := 0) (x := t) dX7_empty_0 rfl (by simp) ?_
  refine rn_getr (t := t + 1) dX7_empty_1 ht gf_X7_12 rfl (telling_refs _ ht).1.1 ?_
  refine rn_callVv (as := []) (st := []) dX7_empty_4 mf_X2_empty lk_X7_46 im_X2_empty (telling_refs _ ht).1.2 rfl rfl rfl (Nat.le_of_ble_eq_true rfl) (Nat.le_of_ble_eq_true rfl) rfl (RV.mono h (fun M1 h => ?_))
  refine rn_aload_n (i := 0) (x := t) dX7_empty_7 rfl (by simp) ?_
  refine rn_getr (t := t + 7) dX7_empty_8 ht gf_X7_21 rfl (telling_refs _ ht).2.1.1 ?_
  refine rn_callVv (as := []) (st := []) dX7_empty_11 mf_X1_empty lk_X7_49 im_X1_empty (telling_refs _ ht).2.1.2 rfl rfl rfl (Nat.le_of_ble_eq_true rfl) (Nat.le_of_ble_eq_true rfl) rfl (RV.mono h (fun M2 h => ?_))
  refine rn_aload_n (i := 0) (x := t) dX7_empty_14 rfl (by simp) ?_
  refine rn_iconst (v := 0) dX7_empty_15 rfl ?_
  have h := h _ rfl
  refine rn_puti dX7_empty_16 ht pf_X7_29 (by decide) rfl rfl ?_
  generalize wi M2 t 3 0 = M3 at h ⊢
  refine rn_aload_n (i := 0) (x := t) dX7_empty_19 rfl (by simp) ?_
  refine rn_iconst (v := 0) dX7_empty_20 rfl ?_
  have h := h _ rfl
  refine rn_puti dX7_empty_21 ht pf_X7_33 (by decide) rfl rfl ?_
  generalize wi M3 t 4 0 = M4 at h ⊢
  refine rn_aload_n (i := 0) (x := t) dX7_empty_24 rfl (by simp) ?_
  refine rn_iconst (v := 0) dX7_empty_25 rfl ?_
  have h := h _ rfl
  refine rn_puti dX7_empty_26 ht pf_X7_36 (by decide) rfl rfl ?_
  generalize wi M4 t 5 0 = M5 at h ⊢
  refine rn_aload_n (i := 0) (x := t) dX7_empty_29 rfl (by simp) ?_
  refine rn_iconst (v := 0) dX7_empty_30 rfl ?_
  have h := h _ rfl
  refine rn_puti dX7_empty_31 ht pf_X7_40 (by decide) rfl rfl ?_
  generalize wi M5 t 6 0 = M6 at h ⊢
  refine rn_aload_n (i := 0) (x := t) dX7_empty_34 rfl (by simp) ?_
  refine rn_iconst (v := 0) dX7_empty_35 rfl ?_
  have h := h _ rfl
  refine rn_puti dX7_empty_36 ht pf_X7_43 (by decide) rfl rfl ?_
  generalize wi M6 t 7 0 = M7 at h ⊢
  exact rn_ret dX7_empty_39 rfl ⟨rfl, h⟩
theorem dX7_addLord_0 : decode μX7_addLord.2.1 0 = .ok (.aload_n 0, 1) := by decide +kernel
theorem dX7_addLord_1 : decode μX7_addLord.2.1 1 = .ok (.getfield 12, 3) := by decide +kernel
theorem dX7_addLord_4 : decode μX7_addLord.2.1 4 = .ok (.getfield 50, 3) := by decide +kernel
theorem dX7_addLord_7 : decode μX7_addLord.2.1 7 = .ok (.bipush 8, 2) := by decide +kernel
theorem dX7_addLord_9 : decode μX7_addLord.2.1 9 = .ok (.if_icmp .ge 26, 3) := by decide +kernel
theorem dX7_addLord_12 : decode μX7_addLord.2.1 12 = .ok (.aload_n 0, 1) := by decide +kernel
theorem dX7_addLord_13 : decode μX7_addLord.2.1 13 = .ok (.getfield 25, 3) := by decide +kernel
theorem dX7_addLord_16 : decode μX7_addLord.2.1 16 = .ok (.aload_n 0, 1) := by decide +kernel
theorem dX7_addLord_17 : decode μX7_addLord.2.1 17 = .ok (.getfield 12, 3) := by decide +kernel
theorem dX7_addLord_20 : decode μX7_addLord.2.1 20 = .ok (.getfield 50, 3) := by decide +kernel
theorem dX7_addLord_23 : decode μX7_addLord.2.1 23 = .ok (.lload_n 1, 1) := by decide +kernel
theorem dX7_addLord_24 : decode μX7_addLord.2.1 24 = .ok (.lastore, 1) := by decide +kernel
theorem dX7_addLord_25 : decode μX7_addLord.2.1 25 = .ok (.aload_n 0, 1) := by decide +kernel
theorem dX7_addLord_26 : decode μX7_addLord.2.1 26 = .ok (.getfield 12, 3) := by decide +kernel
theorem dX7_addLord_29 : decode μX7_addLord.2.1 29 = .ok (.iload_n 3, 1) := by decide +kernel
theorem dX7_addLord_30 : decode μX7_addLord.2.1 30 = .ok (.iload 4, 2) := by decide +kernel
theorem dX7_addLord_32 : decode μX7_addLord.2.1 32 = .ok (.invokevirtual 53, 3) := by decide +kernel
theorem dX7_addLord_35 : decode μX7_addLord.2.1 35 = .ok (.return_, 1) := by decide +kernel
set_option maxRecDepth 20000 in
theorem sg_X7_addLord_0 {d : Nat} {t : Nat} {x1 : Int64} {x3 : Int32} {x4 : Int32} {M : Mem} {K : (Mem → Prop)} (ht : kd t = (0, 7)) (h : (if 8 ≤ ri M (t + 1) 0 then K M else (vp_in (ri M (t + 1) 0) 8 ∧ ∀ M1, M1 = wl M (t + 11) (nx (ri M (t + 1) 0)) x1 → (CV d μX2_bear [.ref (t + 1), .int x3, .int x4] M1 (fun M2 => K M2))))) : CV (d + 1) μX7_addLord [.ref t, .long x1, .int x3, .int x4] M K := by
  show Rn (d + 1) μX7_addLord 0 [(0, .ref t), (1, .long x1), (3, .int x3), (4, .int x4)] [] M _
  refine rn_aload_n (i := 0) (x := t) dX7_addLord_0 rfl (by simp) ?_
  refine rn_getr (t := t + 1) dX7_addLord_1 ht gf_X7_12 rfl (telling_refs _ ht).1.1 ?_
  refine rn_geti dX7_addLord_4 (telling_refs _ ht).1.2 gf_X7_50 (by decide) ?_
  refine rn_bipush (v := 8) dX7_addLord_7 rfl ?_
  refine rn_icmp_ge (tgt := 35) dX7_addLord_9 (by decide) (ite_go h (fun hc h => ?_) (fun hc h => ?_))
  · exact rn_ret dX7_addLord_35 rfl ⟨rfl, h⟩
  · refine rn_aload_n (i := 0) (x := t) dX7_addLord_12 rfl (by simp) ?_
    refine rn_getr (t := t + 11) dX7_addLord_13 ht gf_X7_25 rfl (telling_refs _ ht).2.2.1 ?_
    refine rn_aload_n (i := 0) (x := t) dX7_addLord_16 rfl (by simp) ?_
    refine rn_getr (t := t + 1) dX7_addLord_17 ht gf_X7_12 rfl (telling_refs _ ht).1.1 ?_
    refine rn_geti dX7_addLord_20 (telling_refs _ ht).1.2 gf_X7_50 (by decide) ?_
    refine rn_lload_n (i := 1) (x := x1) dX7_addLord_23 rfl (by simp) ?_
    obtain ⟨hi, h⟩ := h
    have h := h _ rfl
    refine rn_lastore dX7_addLord_24 (telling_refs _ ht).2.2.2 hi ?_
    generalize wl M (t + 11) (nx (ri M (t + 1) 0)) x1 = M1 at h ⊢
    refine rn_aload_n (i := 0) (x := t) dX7_addLord_25 rfl (by simp) ?_
    refine rn_getr (t := t + 1) dX7_addLord_26 ht gf_X7_12 rfl (telling_refs _ ht).1.1 ?_
    refine rn_iload_n (i := 3) (x := x3) dX7_addLord_29 rfl (by simp) ?_
    refine rn_iload (x := x4) dX7_addLord_30 (by simp) ?_
    refine rn_callVv (as := [.int x3, .int x4]) (st := []) dX7_addLord_32 mf_X2_bear lk_X7_53 im_X2_bear (telling_refs _ ht).1.2 rfl rfl rfl (Nat.le_of_ble_eq_true rfl) (Nat.le_of_ble_eq_true rfl) rfl (RV.mono h (fun M2 h => ?_))
    exact rn_ret dX7_addLord_35 rfl ⟨rfl, h⟩
theorem dX7_lordNamed_0 : decode μX7_lordNamed.2.1 0 = .ok (.iconst 0, 1) := by decide +kernel
theorem dX7_lordNamed_1 : decode μX7_lordNamed.2.1 1 = .ok (.istore_n 3, 1) := by decide +kernel
theorem dX7_lordNamed_2 : decode μX7_lordNamed.2.1 2 = .ok (.iload_n 3, 1) := by decide +kernel
theorem dX7_lordNamed_3 : decode μX7_lordNamed.2.1 3 = .ok (.aload_n 0, 1) := by decide +kernel
theorem dX7_lordNamed_4 : decode μX7_lordNamed.2.1 4 = .ok (.getfield 12, 3) := by decide +kernel
theorem dX7_lordNamed_7 : decode μX7_lordNamed.2.1 7 = .ok (.getfield 50, 3) := by decide +kernel
theorem dX7_lordNamed_10 : decode μX7_lordNamed.2.1 10 = .ok (.if_icmp .ge 22, 3) := by decide +kernel
theorem dX7_lordNamed_13 : decode μX7_lordNamed.2.1 13 = .ok (.aload_n 0, 1) := by decide +kernel
theorem dX7_lordNamed_14 : decode μX7_lordNamed.2.1 14 = .ok (.getfield 25, 3) := by decide +kernel
theorem dX7_lordNamed_17 : decode μX7_lordNamed.2.1 17 = .ok (.iload_n 3, 1) := by decide +kernel
theorem dX7_lordNamed_18 : decode μX7_lordNamed.2.1 18 = .ok (.laload, 1) := by decide +kernel
theorem dX7_lordNamed_19 : decode μX7_lordNamed.2.1 19 = .ok (.lload_n 1, 1) := by decide +kernel
theorem dX7_lordNamed_20 : decode μX7_lordNamed.2.1 20 = .ok (.lcmp, 1) := by decide +kernel
theorem dX7_lordNamed_21 : decode μX7_lordNamed.2.1 21 = .ok (.ifCond .ne 5, 3) := by decide +kernel
theorem dX7_lordNamed_24 : decode μX7_lordNamed.2.1 24 = .ok (.iload_n 3, 1) := by decide +kernel
theorem dX7_lordNamed_25 : decode μX7_lordNamed.2.1 25 = .ok (.ireturn, 1) := by decide +kernel
theorem dX7_lordNamed_26 : decode μX7_lordNamed.2.1 26 = .ok (.iinc 3 1, 3) := by decide +kernel
theorem dX7_lordNamed_29 : decode μX7_lordNamed.2.1 29 = .ok (.goto (-27), 3) := by decide +kernel
theorem dX7_lordNamed_32 : decode μX7_lordNamed.2.1 32 = .ok (.iconst (-1), 1) := by decide +kernel
theorem dX7_lordNamed_33 : decode μX7_lordNamed.2.1 33 = .ok (.ireturn, 1) := by decide +kernel
set_option maxRecDepth 20000 in
theorem sg_X7_lordNamed_0 {d : Nat} {t : Nat} {x1 : Int64} {M : Mem} {K : (Int32 → Mem → Prop)} (ht : kd t = (0, 7)) (h : RI d μX7_lordNamed 2 [(0, .ref t), (1, .long x1), (3, .int 0)] [] M K) : CI d μX7_lordNamed [.ref t, .long x1] M K := by
  show Rn d μX7_lordNamed 0 [(0, .ref t), (1, .long x1)] [] M _
  refine rn_iconst (v := 0) dX7_lordNamed_0 rfl ?_
  refine rn_istore_n (lv' := [(0, .ref t), (1, .long x1), (3, .int 0)]) (hd := dX7_lordNamed_1) (i := 3) (hi := rfl) (hn := by decide) (hf := rfl) (hl := rfl) ?_
  exact h
set_option maxRecDepth 20000 in
theorem sg_X7_lordNamed_2 {d : Nat} {t : Nat} {x1 : Int64} {x3 : Int32} {M : Mem} {K : (Int32 → Mem → Prop)} (ht : kd t = (0, 7)) (h : (if ri M (t + 1) 0 ≤ x3 then K ((-1)) M else (vp_in x3 8 ∧ (if lg_cmp (rl M (t + 11) (nx x3)) x1 = 0 then K x3 M else RI d μX7_lordNamed 2 [(0, .ref t), (1, .long x1), (3, .int (x3 + 1))] [] M K)))) : RI d μX7_lordNamed 2 [(0, .ref t), (1, .long x1), (3, .int x3)] [] M K := by
  show Rn d μX7_lordNamed 2 [(0, .ref t), (1, .long x1), (3, .int x3)] [] M _
  refine rn_iload_n (i := 3) (x := x3) dX7_lordNamed_2 rfl (by simp) ?_
  refine rn_aload_n (i := 0) (x := t) dX7_lordNamed_3 rfl (by simp) ?_
  refine rn_getr (t := t + 1) dX7_lordNamed_4 ht gf_X7_12 rfl (telling_refs _ ht).1.1 ?_
  refine rn_geti dX7_lordNamed_7 (telling_refs _ ht).1.2 gf_X7_50 (by decide) ?_
  refine rn_icmp_ge (tgt := 32) dX7_lordNamed_10 (by decide) (ite_go h (fun hc h => ?_) (fun hc h => ?_))
  · refine rn_iconst (v := -1) dX7_lordNamed_32 rfl ?_
    exact rn_iret dX7_lordNamed_33 rfl ⟨_, rfl, h⟩
  · refine rn_aload_n (i := 0) (x := t) dX7_lordNamed_13 rfl (by simp) ?_
    refine rn_getr (t := t + 11) dX7_lordNamed_14 ht gf_X7_25 rfl (telling_refs _ ht).2.2.1 ?_
    refine rn_iload_n (i := 3) (x := x3) dX7_lordNamed_17 rfl (by simp) ?_
    obtain ⟨hi, h⟩ := h
    refine rn_laload dX7_lordNamed_18 (telling_refs _ ht).2.2.2 hi ?_
    refine rn_lload_n (i := 1) (x := x1) dX7_lordNamed_19 rfl (by simp) ?_
    refine rn_lcmp dX7_lordNamed_20 ?_
    refine rn_if_ne (tgt := 26) dX7_lordNamed_21 (by decide) (ite_go h (fun hc h => ?_) (fun hc h => ?_))
    · refine rn_iload_n (i := 3) (x := x3) dX7_lordNamed_24 rfl (by simp) ?_
      exact rn_iret dX7_lordNamed_25 rfl ⟨_, rfl, h⟩
    · refine rn_iinc (x := x3) (v := x3 + 1) (lv' := [(0, .ref t), (1, .long x1), (3, .int (x3 + 1))]) dX7_lordNamed_26 (by simp) rfl (by decide) rfl rfl ?_
      refine rn_goto (tgt := 2) dX7_lordNamed_29 (by decide) ?_
      exact h
