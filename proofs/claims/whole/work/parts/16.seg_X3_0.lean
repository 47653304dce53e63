theorem dX3_startFrom_0 : decode μX3_startFrom.2.1 0 = .ok (.aload_n 0, 1) := by decide +kernel
theorem dX3_startFrom_1 : decode μX3_startFrom.2.1 1 = .ok (.iconst 0, 1) := by decide +kernel
theorem dX3_startFrom_2 : decode μX3_startFrom.2.1 2 = .ok (.putfield 9, 3) := by decide +kernel
theorem dX3_startFrom_5 : decode μX3_startFrom.2.1 5 = .ok (.aload_n 0, 1) := by decide +kernel
theorem dX3_startFrom_6 : decode μX3_startFrom.2.1 6 = .ok (.iconst 0, 1) := by decide +kernel
theorem dX3_startFrom_7 : decode μX3_startFrom.2.1 7 = .ok (.putfield 15, 3) := by decide +kernel
theorem dX3_startFrom_10 : decode μX3_startFrom.2.1 10 = .ok (.aload_n 0, 1) := by decide +kernel
theorem dX3_startFrom_11 : decode μX3_startFrom.2.1 11 = .ok (.iconst 0, 1) := by decide +kernel
theorem dX3_startFrom_12 : decode μX3_startFrom.2.1 12 = .ok (.putfield 24, 3) := by decide +kernel
theorem dX3_startFrom_15 : decode μX3_startFrom.2.1 15 = .ok (.aload_n 1, 1) := by decide +kernel
theorem dX3_startFrom_16 : decode μX3_startFrom.2.1 16 = .ok (.aload_n 0, 1) := by decide +kernel
theorem dX3_startFrom_17 : decode μX3_startFrom.2.1 17 = .ok (.getfield 20, 3) := by decide +kernel
theorem dX3_startFrom_20 : decode μX3_startFrom.2.1 20 = .ok (.iconst 0, 1) := by decide +kernel
theorem dX3_startFrom_21 : decode μX3_startFrom.2.1 21 = .ok (.invokevirtual 27, 3) := by decide +kernel
theorem dX3_startFrom_24 : decode μX3_startFrom.2.1 24 = .ok (.return_, 1) := by decide +kernel
set_option maxRecDepth 20000 in
theorem sg_X3_startFrom_0 {d : Nat} {o : Nat} {M : Mem} {K : (Mem → Prop)} (ho : kd o = (0, 2)) (h : (∀ M1, M1 = wi M 39 0 0 → (∀ M2, M2 = wi M1 39 1 0 → (∀ M3, M3 = wi M2 39 3 0 → (CV d μX2_writeTo [.ref o, .ref 40, .int 0] M3 (fun M4 => K M4)))))) : CV (d + 1) μX3_startFrom [.ref 39, .ref o] M K := by
  show Rn (d + 1) μX3_startFrom 0 [(0, .ref 39), (1, .ref o)] [] M _
  refine rn_aload_n (i := 0) (x := 39) dX3_startFrom_0 rfl (by simp) ?_
  refine rn_iconst (v := 0) dX3_startFrom_1 rfl ?_
  have h := h _ rfl
  refine rn_puti dX3_startFrom_2 rfl pf_X3_9 (by decide) rfl rfl ?_
  generalize wi M 39 0 0 = M1 at h ⊢
  refine rn_aload_n (i := 0) (x := 39) dX3_startFrom_5 rfl (by simp) ?_
  refine rn_iconst (v := 0) dX3_startFrom_6 rfl ?_
  have h := h _ rfl
  refine rn_puti dX3_startFrom_7 rfl pf_X3_15 (by decide) rfl rfl ?_
  generalize wi M1 39 1 0 = M2 at h ⊢
  refine rn_aload_n (i := 0) (x := 39) dX3_startFrom_10 rfl (by simp) ?_
  refine rn_iconst (v := 0) dX3_startFrom_11 rfl ?_
  have h := h _ rfl
  refine rn_puti dX3_startFrom_12 rfl pf_X3_24 (by decide) rfl rfl ?_
  generalize wi M2 39 3 0 = M3 at h ⊢
  refine rn_aload_n (i := 1) (x := o) dX3_startFrom_15 rfl (by simp) ?_
  refine rn_aload_n (i := 0) (x := 39) dX3_startFrom_16 rfl (by simp) ?_
  refine rn_getr (t := 40) dX3_startFrom_17 rfl gf_X3_20 rfl rfl ?_
  refine rn_iconst (v := 0) dX3_startFrom_20 rfl ?_
  refine rn_callVv (as := [.ref 40, .int 0]) (st := []) dX3_startFrom_21 mf_X2_writeTo lk_X3_27 im_X2_writeTo ho rfl rfl rfl (Nat.le_of_ble_eq_true rfl) (Nat.le_of_ble_eq_true rfl) rfl (RV.mono h (fun M4 h => ?_))
  exact rn_ret dX3_startFrom_24 rfl ⟨rfl, h⟩
theorem dX3_keep_0 : decode μX3_keep.2.1 0 = .ok (.aload_n 0, 1) := by decide +kernel
theorem dX3_keep_1 : decode μX3_keep.2.1 1 = .ok (.aload_n 0, 1) := by decide +kernel
theorem dX3_keep_2 : decode μX3_keep.2.1 2 = .ok (.getfield 24, 3) := by decide +kernel
theorem dX3_keep_5 : decode μX3_keep.2.1 5 = .ok (.iconst 1, 1) := by decide +kernel
theorem dX3_keep_6 : decode μX3_keep.2.1 6 = .ok (.iadd, 1) := by decide +kernel
theorem dX3_keep_7 : decode μX3_keep.2.1 7 = .ok (.bipush 41, 2) := by decide +kernel
theorem dX3_keep_9 : decode μX3_keep.2.1 9 = .ok (.irem, 1) := by decide +kernel
theorem dX3_keep_10 : decode μX3_keep.2.1 10 = .ok (.putfield 24, 3) := by decide +kernel
theorem dX3_keep_13 : decode μX3_keep.2.1 13 = .ok (.aload_n 1, 1) := by decide +kernel
theorem dX3_keep_14 : decode μX3_keep.2.1 14 = .ok (.aload_n 0, 1) := by decide +kernel
theorem dX3_keep_15 : decode μX3_keep.2.1 15 = .ok (.getfield 20, 3) := by decide +kernel
theorem dX3_keep_18 : decode μX3_keep.2.1 18 = .ok (.aload_n 0, 1) := by decide +kernel
theorem dX3_keep_19 : decode μX3_keep.2.1 19 = .ok (.getfield 24, 3) := by decide +kernel
theorem dX3_keep_22 : decode μX3_keep.2.1 22 = .ok (.bipush 24, 2) := by decide +kernel
theorem dX3_keep_24 : decode μX3_keep.2.1 24 = .ok (.imul, 1) := by decide +kernel
theorem dX3_keep_25 : decode μX3_keep.2.1 25 = .ok (.invokevirtual 27, 3) := by decide +kernel
theorem dX3_keep_28 : decode μX3_keep.2.1 28 = .ok (.aload_n 0, 1) := by decide +kernel
theorem dX3_keep_29 : decode μX3_keep.2.1 29 = .ok (.bipush 40, 2) := by decide +kernel
theorem dX3_keep_31 : decode μX3_keep.2.1 31 = .ok (.aload_n 0, 1) := by decide +kernel
theorem dX3_keep_32 : decode μX3_keep.2.1 32 = .ok (.getfield 9, 3) := by decide +kernel
theorem dX3_keep_35 : decode μX3_keep.2.1 35 = .ok (.iconst 1, 1) := by decide +kernel
theorem dX3_keep_36 : decode μX3_keep.2.1 36 = .ok (.iadd, 1) := by decide +kernel
theorem dX3_keep_37 : decode μX3_keep.2.1 37 = .ok (.invokestatic 31, 3) := by decide +kernel
theorem dX3_keep_40 : decode μX3_keep.2.1 40 = .ok (.putfield 9, 3) := by decide +kernel
theorem dX3_keep_43 : decode μX3_keep.2.1 43 = .ok (.aload_n 0, 1) := by decide +kernel
theorem dX3_keep_44 : decode μX3_keep.2.1 44 = .ok (.iconst 0, 1) := by decide +kernel
theorem dX3_keep_45 : decode μX3_keep.2.1 45 = .ok (.putfield 15, 3) := by decide +kernel
theorem dX3_keep_48 : decode μX3_keep.2.1 48 = .ok (.return_, 1) := by decide +kernel
set_option maxRecDepth 20000 in
theorem sg_X3_keep_0 {d : Nat} {o : Nat} {M : Mem} {K : (Mem → Prop)} (ho : kd o = (0, 2)) (h : (∀ M1, M1 = wi M 39 3 (((ri M 39 3) + 1) - ((ri M 39 3) + 1) / 41 * 41) → (CV d μX2_writeTo [.ref o, .ref 40, .int ((ri M1 39 3) * 24)] M1 (fun M2 => (∀ M3, M3 = wi M2 39 0 (if (ri M2 39 0) + 1 < 40 then (ri M2 39 0) + 1 else 40) → (∀ M4, M4 = wi M3 39 1 0 → K M4)))))) : CV (d + 1) μX3_keep [.ref 39, .ref o] M K := by
  show Rn (d + 1) μX3_keep 0 [(0, .ref 39), (1, .ref o)] [] M _
  refine rn_aload_n (i := 0) (x := 39) dX3_keep_0 rfl (by simp) ?_
  refine rn_aload_n (i := 0) (x := 39) dX3_keep_1 rfl (by simp) ?_
  refine rn_geti dX3_keep_2 rfl gf_X3_24 (by decide) ?_
  refine rn_iconst (v := 1) dX3_keep_5 rfl ?_
  refine rn_iadd dX3_keep_6 ?_
  refine rn_bipush (v := 41) dX3_keep_7 rfl ?_
  refine rn_irem dX3_keep_9 (by decide) ?_
  have h := h _ rfl
  refine rn_puti dX3_keep_10 rfl pf_X3_24 (by decide) rfl rfl ?_
  generalize wi M 39 3 (((ri M 39 3) + 1) - ((ri M 39 3) + 1) / 41 * 41) = M1 at h ⊢
  refine rn_aload_n (i := 1) (x := o) dX3_keep_13 rfl (by simp) ?_
  refine rn_aload_n (i := 0) (x := 39) dX3_keep_14 rfl (by simp) ?_
  refine rn_getr (t := 40) dX3_keep_15 rfl gf_X3_20 rfl rfl ?_
  refine rn_aload_n (i := 0) (x := 39) dX3_keep_18 rfl (by simp) ?_
  refine rn_geti dX3_keep_19 rfl gf_X3_24 (by decide) ?_
  refine rn_bipush (v := 24) dX3_keep_22 rfl ?_
  refine rn_imul dX3_keep_24 ?_
  refine rn_callVv (as := [.ref 40, .int ((ri M1 39 3) * 24)]) (st := []) dX3_keep_25 mf_X2_writeTo lk_X3_27 im_X2_writeTo ho rfl rfl rfl (Nat.le_of_ble_eq_true rfl) (Nat.le_of_ble_eq_true rfl) rfl (RV.mono h (fun M2 h => ?_))
  refine rn_aload_n (i := 0) (x := 39) dX3_keep_28 rfl (by simp) ?_
  refine rn_bipush (v := 40) dX3_keep_29 rfl ?_
  refine rn_aload_n (i := 0) (x := 39) dX3_keep_31 rfl (by simp) ?_
  refine rn_geti dX3_keep_32 rfl gf_X3_9 (by decide) ?_
  refine rn_iconst (v := 1) dX3_keep_35 rfl ?_
  refine rn_iadd dX3_keep_36 ?_
  refine rn_mmin dX3_keep_37 mi_X3_31 (Nat.le_of_ble_eq_true rfl) ?_
  have h := h _ rfl
  refine rn_puti dX3_keep_40 rfl pf_X3_9 (by decide) rfl rfl ?_
  generalize wi M2 39 0 (if (ri M2 39 0) + 1 < 40 then (ri M2 39 0) + 1 else 40) = M3 at h ⊢
  refine rn_aload_n (i := 0) (x := 39) dX3_keep_43 rfl (by simp) ?_
  refine rn_iconst (v := 0) dX3_keep_44 rfl ?_
  have h := h _ rfl
  refine rn_puti dX3_keep_45 rfl pf_X3_15 (by decide) rfl rfl ?_
  generalize wi M3 39 1 0 = M4 at h ⊢
  exact rn_ret dX3_keep_48 rfl ⟨rfl, h⟩
theorem dX3_stepBack_0 : decode μX3_stepBack.2.1 0 = .ok (.aload_n 0, 1) := by decide +kernel
theorem dX3_stepBack_1 : decode μX3_stepBack.2.1 1 = .ok (.getfield 9, 3) := by decide +kernel
theorem dX3_stepBack_4 : decode μX3_stepBack.2.1 4 = .ok (.ifCond .ne 5, 3) := by decide +kernel
theorem dX3_stepBack_7 : decode μX3_stepBack.2.1 7 = .ok (.iconst 0, 1) := by decide +kernel
theorem dX3_stepBack_8 : decode μX3_stepBack.2.1 8 = .ok (.ireturn, 1) := by decide +kernel
theorem dX3_stepBack_9 : decode μX3_stepBack.2.1 9 = .ok (.aload_n 0, 1) := by decide +kernel
theorem dX3_stepBack_10 : decode μX3_stepBack.2.1 10 = .ok (.aload_n 0, 1) := by decide +kernel
theorem dX3_stepBack_11 : decode μX3_stepBack.2.1 11 = .ok (.getfield 24, 3) := by decide +kernel
theorem dX3_stepBack_14 : decode μX3_stepBack.2.1 14 = .ok (.bipush 41, 2) := by decide +kernel
theorem dX3_stepBack_16 : decode μX3_stepBack.2.1 16 = .ok (.iadd, 1) := by decide +kernel
theorem dX3_stepBack_17 : decode μX3_stepBack.2.1 17 = .ok (.iconst 1, 1) := by decide +kernel
theorem dX3_stepBack_18 : decode μX3_stepBack.2.1 18 = .ok (.isub, 1) := by decide +kernel
theorem dX3_stepBack_19 : decode μX3_stepBack.2.1 19 = .ok (.bipush 41, 2) := by decide +kernel
theorem dX3_stepBack_21 : decode μX3_stepBack.2.1 21 = .ok (.irem, 1) := by decide +kernel
theorem dX3_stepBack_22 : decode μX3_stepBack.2.1 22 = .ok (.putfield 24, 3) := by decide +kernel
theorem dX3_stepBack_25 : decode μX3_stepBack.2.1 25 = .ok (.aload_n 1, 1) := by decide +kernel
theorem dX3_stepBack_26 : decode μX3_stepBack.2.1 26 = .ok (.aload_n 0, 1) := by decide +kernel
theorem dX3_stepBack_27 : decode μX3_stepBack.2.1 27 = .ok (.getfield 20, 3) := by decide +kernel
theorem dX3_stepBack_30 : decode μX3_stepBack.2.1 30 = .ok (.aload_n 0, 1) := by decide +kernel
theorem dX3_stepBack_31 : decode μX3_stepBack.2.1 31 = .ok (.getfield 24, 3) := by decide +kernel
theorem dX3_stepBack_34 : decode μX3_stepBack.2.1 34 = .ok (.bipush 24, 2) := by decide +kernel
theorem dX3_stepBack_36 : decode μX3_stepBack.2.1 36 = .ok (.imul, 1) := by decide +kernel
theorem dX3_stepBack_37 : decode μX3_stepBack.2.1 37 = .ok (.invokevirtual 37, 3) := by decide +kernel
theorem dX3_stepBack_40 : decode μX3_stepBack.2.1 40 = .ok (.aload_n 0, 1) := by decide +kernel
theorem dX3_stepBack_41 : decode μX3_stepBack.2.1 41 = .ok (.dup, 1) := by decide +kernel
theorem dX3_stepBack_42 : decode μX3_stepBack.2.1 42 = .ok (.getfield 9, 3) := by decide +kernel
theorem dX3_stepBack_45 : decode μX3_stepBack.2.1 45 = .ok (.iconst 1, 1) := by decide +kernel
theorem dX3_stepBack_46 : decode μX3_stepBack.2.1 46 = .ok (.isub, 1) := by decide +kernel
theorem dX3_stepBack_47 : decode μX3_stepBack.2.1 47 = .ok (.putfield 9, 3) := by decide +kernel
theorem dX3_stepBack_50 : decode μX3_stepBack.2.1 50 = .ok (.aload_n 0, 1) := by decide +kernel
theorem dX3_stepBack_51 : decode μX3_stepBack.2.1 51 = .ok (.dup, 1) := by decide +kernel
theorem dX3_stepBack_52 : decode μX3_stepBack.2.1 52 = .ok (.getfield 15, 3) := by decide +kernel
theorem dX3_stepBack_55 : decode μX3_stepBack.2.1 55 = .ok (.iconst 1, 1) := by decide +kernel
theorem dX3_stepBack_56 : decode μX3_stepBack.2.1 56 = .ok (.iadd, 1) := by decide +kernel
theorem dX3_stepBack_57 : decode μX3_stepBack.2.1 57 = .ok (.putfield 15, 3) := by decide +kernel
theorem dX3_stepBack_60 : decode μX3_stepBack.2.1 60 = .ok (.iconst 1, 1) := by decide +kernel
theorem dX3_stepBack_61 : decode μX3_stepBack.2.1 61 = .ok (.ireturn, 1) := by decide +kernel
set_option maxRecDepth 20000 in
theorem sg_X3_stepBack_0 {d : Nat} {o : Nat} {M : Mem} {K : (Int32 → Mem → Prop)} (ho : kd o = (0, 2)) (h : (if ri M 39 0 = 0 then K 0 M else (∀ M1, M1 = wi M 39 3 ((((ri M 39 3) + 41) - 1) - (((ri M 39 3) + 41) - 1) / 41 * 41) → (CV d μX2_readFrom [.ref o, .ref 40, .int ((ri M1 39 3) * 24)] M1 (fun M2 => (∀ M3, M3 = wi M2 39 0 ((ri M2 39 0) - 1) → (∀ M4, M4 = wi M3 39 1 ((ri M3 39 1) + 1) → K 1 M4))))))) : CI (d + 1) μX3_stepBack [.ref 39, .ref o] M K := by
  show Rn (d + 1) μX3_stepBack 0 [(0, .ref 39), (1, .ref o)] [] M _
  refine rn_aload_n (i := 0) (x := 39) dX3_stepBack_0 rfl (by simp) ?_
  refine rn_geti dX3_stepBack_1 rfl gf_X3_9 (by decide) ?_
  refine rn_if_ne (tgt := 9) dX3_stepBack_4 (by decide) (ite_go h (fun hc h => ?_) (fun hc h => ?_))
  · refine rn_iconst (v := 0) dX3_stepBack_7 rfl ?_
    exact rn_zret dX3_stepBack_8 rfl (by decide) ⟨_, rfl, h⟩
  · refine rn_aload_n (i := 0) (x := 39) dX3_stepBack_9 rfl (by simp) ?_
    refine rn_aload_n (i := 0) (x := 39) dX3_stepBack_10 rfl (by simp) ?_
    refine rn_geti dX3_stepBack_11 rfl gf_X3_24 (by decide) ?_
    refine rn_bipush (v := 41) dX3_stepBack_14 rfl ?_
    refine rn_iadd dX3_stepBack_16 ?_
    refine rn_iconst (v := 1) dX3_stepBack_17 rfl ?_
    refine rn_isub dX3_stepBack_18 ?_
    refine rn_bipush (v := 41) dX3_stepBack_19 rfl ?_
    refine rn_irem dX3_stepBack_21 (by decide) ?_
    have h := h _ rfl
    refine rn_puti dX3_stepBack_22 rfl pf_X3_24 (by decide) rfl rfl ?_
    generalize wi M 39 3 ((((ri M 39 3) + 41) - 1) - (((ri M 39 3) + 41) - 1) / 41 * 41) = M1 at h ⊢
    refine rn_aload_n (i := 1) (x := o) dX3_stepBack_25 rfl (by simp) ?_
    refine rn_aload_n (i := 0) (x := 39) dX3_stepBack_26 rfl (by simp) ?_
    refine rn_getr (t := 40) dX3_stepBack_27 rfl gf_X3_20 rfl rfl ?_
    refine rn_aload_n (i := 0) (x := 39) dX3_stepBack_30 rfl (by simp) ?_
    refine rn_geti dX3_stepBack_31 rfl gf_X3_24 (by decide) ?_
    refine rn_bipush (v := 24) dX3_stepBack_34 rfl ?_
    refine rn_imul dX3_stepBack_36 ?_
    refine rn_callVv (as := [.ref 40, .int ((ri M1 39 3) * 24)]) (st := []) dX3_stepBack_37 mf_X2_readFrom lk_X3_37 im_X2_readFrom ho rfl rfl rfl (Nat.le_of_ble_eq_true rfl) (Nat.le_of_ble_eq_true rfl) rfl (RV.mono h (fun M2 h => ?_))
    refine rn_aload_n (i := 0) (x := 39) dX3_stepBack_40 rfl (by simp) ?_
    refine rn_dup dX3_stepBack_41 rfl ?_
    refine rn_geti dX3_stepBack_42 rfl gf_X3_9 (by decide) ?_
    refine rn_iconst (v := 1) dX3_stepBack_45 rfl ?_
    refine rn_isub dX3_stepBack_46 ?_
    have h := h _ rfl
    refine rn_puti dX3_stepBack_47 rfl pf_X3_9 (by decide) rfl rfl ?_
    generalize wi M2 39 0 ((ri M2 39 0) - 1) = M3 at h ⊢
    refine rn_aload_n (i := 0) (x := 39) dX3_stepBack_50 rfl (by simp) ?_
    refine rn_dup dX3_stepBack_51 rfl ?_
    refine rn_geti dX3_stepBack_52 rfl gf_X3_15 (by decide) ?_
    refine rn_iconst (v := 1) dX3_stepBack_55 rfl ?_
    refine rn_iadd dX3_stepBack_56 ?_
    have h := h _ rfl
    refine rn_puti dX3_stepBack_57 rfl pf_X3_15 (by decide) rfl rfl ?_
    generalize wi M3 39 1 ((ri M3 39 1) + 1) = M4 at h ⊢
    refine rn_iconst (v := 1) dX3_stepBack_60 rfl ?_
    exact rn_zret dX3_stepBack_61 rfl (by decide) ⟨_, rfl, h⟩
theorem dX3_stepOn_0 : decode μX3_stepOn.2.1 0 = .ok (.aload_n 0, 1) := by decide +kernel
theorem dX3_stepOn_1 : decode μX3_stepOn.2.1 1 = .ok (.getfield 15, 3) := by decide +kernel
theorem dX3_stepOn_4 : decode μX3_stepOn.2.1 4 = .ok (.ifCond .ne 5, 3) := by decide +kernel
theorem dX3_stepOn_7 : decode μX3_stepOn.2.1 7 = .ok (.iconst 0, 1) := by decide +kernel
theorem dX3_stepOn_8 : decode μX3_stepOn.2.1 8 = .ok (.ireturn, 1) := by decide +kernel
theorem dX3_stepOn_9 : decode μX3_stepOn.2.1 9 = .ok (.aload_n 0, 1) := by decide +kernel
theorem dX3_stepOn_10 : decode μX3_stepOn.2.1 10 = .ok (.aload_n 0, 1) := by decide +kernel
theorem dX3_stepOn_11 : decode μX3_stepOn.2.1 11 = .ok (.getfield 24, 3) := by decide +kernel
theorem dX3_stepOn_14 : decode μX3_stepOn.2.1 14 = .ok (.iconst 1, 1) := by decide +kernel
theorem dX3_stepOn_15 : decode μX3_stepOn.2.1 15 = .ok (.iadd, 1) := by decide +kernel
theorem dX3_stepOn_16 : decode μX3_stepOn.2.1 16 = .ok (.bipush 41, 2) := by decide +kernel
theorem dX3_stepOn_18 : decode μX3_stepOn.2.1 18 = .ok (.irem, 1) := by decide +kernel
theorem dX3_stepOn_19 : decode μX3_stepOn.2.1 19 = .ok (.putfield 24, 3) := by decide +kernel
theorem dX3_stepOn_22 : decode μX3_stepOn.2.1 22 = .ok (.aload_n 1, 1) := by decide +kernel
theorem dX3_stepOn_23 : decode μX3_stepOn.2.1 23 = .ok (.aload_n 0, 1) := by decide +kernel
theorem dX3_stepOn_24 : decode μX3_stepOn.2.1 24 = .ok (.getfield 20, 3) := by decide +kernel
theorem dX3_stepOn_27 : decode μX3_stepOn.2.1 27 = .ok (.aload_n 0, 1) := by decide +kernel
theorem dX3_stepOn_28 : decode μX3_stepOn.2.1 28 = .ok (.getfield 24, 3) := by decide +kernel
theorem dX3_stepOn_31 : decode μX3_stepOn.2.1 31 = .ok (.bipush 24, 2) := by decide +kernel
theorem dX3_stepOn_33 : decode μX3_stepOn.2.1 33 = .ok (.imul, 1) := by decide +kernel
theorem dX3_stepOn_34 : decode μX3_stepOn.2.1 34 = .ok (.invokevirtual 37, 3) := by decide +kernel
theorem dX3_stepOn_37 : decode μX3_stepOn.2.1 37 = .ok (.aload_n 0, 1) := by decide +kernel
theorem dX3_stepOn_38 : decode μX3_stepOn.2.1 38 = .ok (.dup, 1) := by decide +kernel
theorem dX3_stepOn_39 : decode μX3_stepOn.2.1 39 = .ok (.getfield 9, 3) := by decide +kernel
theorem dX3_stepOn_42 : decode μX3_stepOn.2.1 42 = .ok (.iconst 1, 1) := by decide +kernel
theorem dX3_stepOn_43 : decode μX3_stepOn.2.1 43 = .ok (.iadd, 1) := by decide +kernel
theorem dX3_stepOn_44 : decode μX3_stepOn.2.1 44 = .ok (.putfield 9, 3) := by decide +kernel
theorem dX3_stepOn_47 : decode μX3_stepOn.2.1 47 = .ok (.aload_n 0, 1) := by decide +kernel
theorem dX3_stepOn_48 : decode μX3_stepOn.2.1 48 = .ok (.dup, 1) := by decide +kernel
theorem dX3_stepOn_49 : decode μX3_stepOn.2.1 49 = .ok (.getfield 15, 3) := by decide +kernel
theorem dX3_stepOn_52 : decode μX3_stepOn.2.1 52 = .ok (.iconst 1, 1) := by decide +kernel
theorem dX3_stepOn_53 : decode μX3_stepOn.2.1 53 = .ok (.isub, 1) := by decide +kernel
theorem dX3_stepOn_54 : decode μX3_stepOn.2.1 54 = .ok (.putfield 15, 3) := by decide +kernel
theorem dX3_stepOn_57 : decode μX3_stepOn.2.1 57 = .ok (.iconst 1, 1) := by decide +kernel
theorem dX3_stepOn_58 : decode μX3_stepOn.2.1 58 = .ok (.ireturn, 1) := by decide +kernel
set_option maxRecDepth 20000 in
theorem sg_X3_stepOn_0 {d : Nat} {o : Nat} {M : Mem} {K : (Int32 → Mem → Prop)} (ho : kd o = (0, 2)) (h : (if ri M 39 1 = 0 then K 0 M else (∀ M1, M1 = wi M 39 3 (((ri M 39 3) + 1) - ((ri M 39 3) + 1) / 41 * 41) → (CV d μX2_readFrom [.ref o, .ref 40, .int ((ri M1 39 3) * 24)] M1 (fun M2 => (∀ M3, M3 = wi M2 39 0 ((ri M2 39 0) + 1) → (∀ M4, M4 = wi M3 39 1 ((ri M3 39 1) - 1) → K 1 M4))))))) : CI (d + 1) μX3_stepOn [.ref 39, .ref o] M K := by
  show Rn (d + 1) μX3_stepOn 0 [(0, .ref 39), (1, .ref o)] [] M _
  refine rn_aload_n (i := 0) (x := 39) dX3_stepOn_0 rfl (by simp) ?_
  refine rn_geti dX3_stepOn_1 rfl gf_X3_15 (by decide) ?_
  refine rn_if_ne (tgt := 9) dX3_stepOn_4 (by decide) (ite_go h (fun hc h => ?_) (fun hc h => ?_))
  · refine rn_iconst (v := 0) dX3_stepOn_7 rfl ?_
    exact rn_zret dX3_stepOn_8 rfl (by decide) ⟨_, rfl, h⟩
  · refine rn_aload_n (i := 0) (x := 39) dX3_stepOn_9 rfl (by simp) ?_
    refine rn_aload_n (i := 0) (x := 39) dX3_stepOn_10 rfl (by simp) ?_
    refine rn_geti dX3_stepOn_11 rfl gf_X3_24 (by decide) ?_
    refine rn_iconst (v := 1) dX3_stepOn_14 rfl ?_
    refine rn_iadd dX3_stepOn_15 ?_
    refine rn_bipush (v := 41) dX3_stepOn_16 rfl ?_
    refine rn_irem dX3_stepOn_18 (by decide) ?_
    have h := h _ rfl
    refine rn_puti dX3_stepOn_19 rfl pf_X3_24 (by decide) rfl rfl ?_
    generalize wi M 39 3 (((ri M 39 3) + 1) - ((ri M 39 3) + 1) / 41 * 41) = M1 at h ⊢
    refine rn_aload_n (i := 1) (x := o) dX3_stepOn_22 rfl (by simp) ?_
    refine rn_aload_n (i := 0) (x := 39) dX3_stepOn_23 rfl (by simp) ?_
    refine rn_getr (t := 40) dX3_stepOn_24 rfl gf_X3_20 rfl rfl ?_
    refine rn_aload_n (i := 0) (x := 39) dX3_stepOn_27 rfl (by simp) ?_
    refine rn_geti dX3_stepOn_28 rfl gf_X3_24 (by decide) ?_
    refine rn_bipush (v := 24) dX3_stepOn_31 rfl ?_
    refine rn_imul dX3_stepOn_33 ?_
    refine rn_callVv (as := [.ref 40, .int ((ri M1 39 3) * 24)]) (st := []) dX3_stepOn_34 mf_X2_readFrom lk_X3_37 im_X2_readFrom ho rfl rfl rfl (Nat.le_of_ble_eq_true rfl) (Nat.le_of_ble_eq_true rfl) rfl (RV.mono h (fun M2 h => ?_))
    refine rn_aload_n (i := 0) (x := 39) dX3_stepOn_37 rfl (by simp) ?_
    refine rn_dup dX3_stepOn_38 rfl ?_
    refine rn_geti dX3_stepOn_39 rfl gf_X3_9 (by decide) ?_
    refine rn_iconst (v := 1) dX3_stepOn_42 rfl ?_
    refine rn_iadd dX3_stepOn_43 ?_
    have h := h _ rfl
    refine rn_puti dX3_stepOn_44 rfl pf_X3_9 (by decide) rfl rfl ?_
    generalize wi M2 39 0 ((ri M2 39 0) + 1) = M3 at h ⊢
    refine rn_aload_n (i := 0) (x := 39) dX3_stepOn_47 rfl (by simp) ?_
    refine rn_dup dX3_stepOn_48 rfl ?_
    refine rn_geti dX3_stepOn_49 rfl gf_X3_15 (by decide) ?_
    refine rn_iconst (v := 1) dX3_stepOn_52 rfl ?_
    refine rn_isub dX3_stepOn_53 ?_
    have h := h _ rfl
    refine rn_puti dX3_stepOn_54 rfl pf_X3_15 (by decide) rfl rfl ?_
    generalize wi M3 39 1 ((ri M3 39 1) - 1) = M4 at h ⊢
    refine rn_iconst (v := 1) dX3_stepOn_57 rfl ?_
    exact rn_zret dX3_stepOn_58 rfl (by decide) ⟨_, rfl, h⟩
