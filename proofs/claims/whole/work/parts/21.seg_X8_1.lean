theorem dX8_back_0 : decode μX8_back.2.1 0 = .ok (.iload_n 1, 1) := by decide +kernel
theorem dX8_back_1 : decode μX8_back.2.1 1 = .ok (.ifCond .lt 19, 3) := by decide +kernel
theorem dX8_back_4 : decode μX8_back.2.1 4 = .ok (.iload_n 1, 1) := by decide +kernel
theorem dX8_back_5 : decode μX8_back.2.1 5 = .ok (.iconst 3, 1) := by decide +kernel
theorem dX8_back_6 : decode μX8_back.2.1 6 = .ok (.if_icmp .ge 14, 3) := by decide +kernel
theorem dX8_back_9 : decode μX8_back.2.1 9 = .ok (.aload_n 0, 1) := by decide +kernel
theorem dX8_back_10 : decode μX8_back.2.1 10 = .ok (.getfield 44, 3) := by decide +kernel
theorem dX8_back_13 : decode μX8_back.2.1 13 = .ok (.iload_n 1, 1) := by decide +kernel
theorem dX8_back_14 : decode μX8_back.2.1 14 = .ok (.ishr, 1) := by decide +kernel
theorem dX8_back_15 : decode μX8_back.2.1 15 = .ok (.iconst 1, 1) := by decide +kernel
theorem dX8_back_16 : decode μX8_back.2.1 16 = .ok (.iand, 1) := by decide +kernel
theorem dX8_back_17 : decode μX8_back.2.1 17 = .ok (.ifCond .ne 5, 3) := by decide +kernel
theorem dX8_back_20 : decode μX8_back.2.1 20 = .ok (.iconst (-1), 1) := by decide +kernel
theorem dX8_back_21 : decode μX8_back.2.1 21 = .ok (.ireturn, 1) := by decide +kernel
theorem dX8_back_22 : decode μX8_back.2.1 22 = .ok (.aload_n 0, 1) := by decide +kernel
theorem dX8_back_23 : decode μX8_back.2.1 23 = .ok (.getfield 26, 3) := by decide +kernel
theorem dX8_back_26 : decode μX8_back.2.1 26 = .ok (.aload_n 0, 1) := by decide +kernel
theorem dX8_back_27 : decode μX8_back.2.1 27 = .ok (.getfield 40, 3) := by decide +kernel
theorem dX8_back_30 : decode μX8_back.2.1 30 = .ok (.iload_n 1, 1) := by decide +kernel
theorem dX8_back_31 : decode μX8_back.2.1 31 = .ok (.bipush 24, 2) := by decide +kernel
theorem dX8_back_33 : decode μX8_back.2.1 33 = .ok (.imul, 1) := by decide +kernel
theorem dX8_back_34 : decode μX8_back.2.1 34 = .ok (.invokevirtual 214, 3) := by decide +kernel
theorem dX8_back_37 : decode μX8_back.2.1 37 = .ok (.aload_n 0, 1) := by decide +kernel
theorem dX8_back_38 : decode μX8_back.2.1 38 = .ok (.getfield 36, 3) := by decide +kernel
theorem dX8_back_41 : decode μX8_back.2.1 41 = .ok (.aload_n 0, 1) := by decide +kernel
theorem dX8_back_42 : decode μX8_back.2.1 42 = .ok (.getfield 26, 3) := by decide +kernel
theorem dX8_back_45 : decode μX8_back.2.1 45 = .ok (.invokevirtual 101, 3) := by decide +kernel
theorem dX8_back_48 : decode μX8_back.2.1 48 = .ok (.aload_n 0, 1) := by decide +kernel
theorem dX8_back_49 : decode μX8_back.2.1 49 = .ok (.getfield 26, 3) := by decide +kernel
theorem dX8_back_52 : decode μX8_back.2.1 52 = .ok (.getfield 170, 3) := by decide +kernel
theorem dX8_back_55 : decode μX8_back.2.1 55 = .ok (.ireturn, 1) := by decide +kernel
set_option maxRecDepth 20000 in
theorem sg_X8_back_0 {d : Nat} {x1 : Int32} {M : Mem} {K : (Int32 → Mem → Prop)}  (h : (if x1 < 0 then K ((-1)) M else (if 3 ≤ x1 then K ((-1)) M else (if ((ri M 0 6) >>> (x1 &&& 31)) &&& 1 = 0 then K ((-1)) M else (CV d μX2_readFrom [.ref 27, .ref 41, .int (x1 * 24)] M (fun M1 => (CV d μX3_startFrom [.ref 39, .ref 27] M1 (fun M2 => K (ri M2 27 2) M2)))))))) : CI (d + 1) μX8_back [.ref 0, .int x1] M K := by
  show Rn (d + 1) μX8_back 0 [(0, .ref 0), (1, .int x1)] [] M _
  refine rn_iload_n (i := 1) (x := x1) dX8_back_0 rfl (by simp) ?_
  refine rn_if_lt (tgt := 20) dX8_back_1 (by decide) (ite_go h (fun hc h => ?_) (fun hc h => ?_))
  · refine rn_iconst (v := -1) dX8_back_20 rfl ?_
    exact rn_iret dX8_back_21 rfl ⟨_, rfl, h⟩
  · refine rn_iload_n (i := 1) (x := x1) dX8_back_4 rfl (by simp) ?_
    refine rn_iconst (v := 3) dX8_back_5 rfl ?_
    refine rn_icmp_ge (tgt := 20) dX8_back_6 (by decide) (ite_go h (fun hc h => ?_) (fun hc h => ?_))
    · refine rn_iconst (v := -1) dX8_back_20 rfl ?_
      exact rn_iret dX8_back_21 rfl ⟨_, rfl, h⟩
    · refine rn_aload_n (i := 0) (x := 0) dX8_back_9 rfl (by simp) ?_
      refine rn_geti dX8_back_10 rfl gf_X8_44 (by decide) ?_
      refine rn_iload_n (i := 1) (x := x1) dX8_back_13 rfl (by simp) ?_
      refine rn_ishr dX8_back_14 ?_
      refine rn_iconst (v := 1) dX8_back_15 rfl ?_
      refine rn_iand dX8_back_16 ?_
      refine rn_if_ne (tgt := 22) dX8_back_17 (by decide) (ite_go h (fun hc h => ?_) (fun hc h => ?_))
      · refine rn_iconst (v := -1) dX8_back_20 rfl ?_
        exact rn_iret dX8_back_21 rfl ⟨_, rfl, h⟩
      · refine rn_aload_n (i := 0) (x := 0) dX8_back_22 rfl (by simp) ?_
        refine rn_getr (t := 27) dX8_back_23 rfl gf_X8_26 rfl rfl ?_
        refine rn_aload_n (i := 0) (x := 0) dX8_back_26 rfl (by simp) ?_
        refine rn_getr (t := 41) dX8_back_27 rfl gf_X8_40 rfl rfl ?_
        refine rn_iload_n (i := 1) (x := x1) dX8_back_30 rfl (by simp) ?_
        refine rn_bipush (v := 24) dX8_back_31 rfl ?_
        refine rn_imul dX8_back_33 ?_
        refine rn_callVv (as := [.ref 41, .int (x1 * 24)]) (st := []) dX8_back_34 mf_X2_readFrom lk_X8_214 im_X2_readFrom rfl rfl rfl rfl (Nat.le_of_ble_eq_true rfl) (Nat.le_of_ble_eq_true rfl) rfl (RV.mono h (fun M1 h => ?_))
        refine rn_aload_n (i := 0) (x := 0) dX8_back_37 rfl (by simp) ?_
        refine rn_getr (t := 39) dX8_back_38 rfl gf_X8_36 rfl rfl ?_
        refine rn_aload_n (i := 0) (x := 0) dX8_back_41 rfl (by simp) ?_
        refine rn_getr (t := 27) dX8_back_42 rfl gf_X8_26 rfl rfl ?_
        refine rn_callVv (as := [.ref 27]) (st := []) dX8_back_45 mf_X3_startFrom lk_X8_101 im_X3_startFrom rfl rfl rfl rfl (Nat.le_of_ble_eq_true rfl) (Nat.le_of_ble_eq_true rfl) rfl (RV.mono h (fun M2 h => ?_))
        refine rn_aload_n (i := 0) (x := 0) dX8_back_48 rfl (by simp) ?_
        refine rn_getr (t := 27) dX8_back_49 rfl gf_X8_26 rfl rfl ?_
        refine rn_geti dX8_back_52 rfl gf_X8_170 (by decide) ?_
        exact rn_iret dX8_back_55 rfl ⟨_, rfl, h⟩
theorem dX8_will_0 : decode μX8_will.2.1 0 = .ok (.aload_n 0, 1) := by decide +kernel
theorem dX8_will_1 : decode μX8_will.2.1 1 = .ok (.getfield 26, 3) := by decide +kernel
theorem dX8_will_4 : decode μX8_will.2.1 4 = .ok (.iload_n 1, 1) := by decide +kernel
theorem dX8_will_5 : decode μX8_will.2.1 5 = .ok (.invokevirtual 113, 3) := by decide +kernel
theorem dX8_will_8 : decode μX8_will.2.1 8 = .ok (.ifCond .eq 22, 3) := by decide +kernel
theorem dX8_will_11 : decode μX8_will.2.1 11 = .ok (.iload_n 2, 1) := by decide +kernel
theorem dX8_will_12 : decode μX8_will.2.1 12 = .ok (.ifCond .lt 18, 3) := by decide +kernel
theorem dX8_will_15 : decode μX8_will.2.1 15 = .ok (.iload_n 2, 1) := by decide +kernel
theorem dX8_will_16 : decode μX8_will.2.1 16 = .ok (.bipush 60, 2) := by decide +kernel
theorem dX8_will_18 : decode μX8_will.2.1 18 = .ok (.if_icmp .gt 12, 3) := by decide +kernel
theorem dX8_will_21 : decode μX8_will.2.1 21 = .ok (.iload_n 3, 1) := by decide +kernel
theorem dX8_will_22 : decode μX8_will.2.1 22 = .ok (.ifCond .lt 8, 3) := by decide +kernel
theorem dX8_will_25 : decode μX8_will.2.1 25 = .ok (.iload_n 3, 1) := by decide +kernel
theorem dX8_will_26 : decode μX8_will.2.1 26 = .ok (.iconst 1, 1) := by decide +kernel
theorem dX8_will_27 : decode μX8_will.2.1 27 = .ok (.if_icmp .le 5, 3) := by decide +kernel
theorem dX8_will_30 : decode μX8_will.2.1 30 = .ok (.iconst (-1), 1) := by decide +kernel
theorem dX8_will_31 : decode μX8_will.2.1 31 = .ok (.ireturn, 1) := by decide +kernel
theorem dX8_will_32 : decode μX8_will.2.1 32 = .ok (.aload_n 0, 1) := by decide +kernel
theorem dX8_will_33 : decode μX8_will.2.1 33 = .ok (.iload_n 2, 1) := by decide +kernel
theorem dX8_will_34 : decode μX8_will.2.1 34 = .ok (.iload_n 3, 1) := by decide +kernel
theorem dX8_will_35 : decode μX8_will.2.1 35 = .ok (.iconst 1, 1) := by decide +kernel
theorem dX8_will_36 : decode μX8_will.2.1 36 = .ok (.if_icmp .ne 13, 3) := by decide +kernel
theorem dX8_will_39 : decode μX8_will.2.1 39 = .ok (.aload_n 0, 1) := by decide +kernel
theorem dX8_will_40 : decode μX8_will.2.1 40 = .ok (.getfield 19, 3) := by decide +kernel
theorem dX8_will_43 : decode μX8_will.2.1 43 = .ok (.getfield 182, 3) := by decide +kernel
theorem dX8_will_46 : decode μX8_will.2.1 46 = .ok (.goto 4, 3) := by decide +kernel
theorem dX8_will_49 : decode μX8_will.2.1 49 = .ok (.iconst 0, 1) := by decide +kernel
theorem dX8_will_50 : decode μX8_will.2.1 50 = .ok (.invokevirtual 217, 3) := by decide +kernel
theorem dX8_will_53 : decode μX8_will.2.1 53 = .ok (.aload_n 0, 1) := by decide +kernel
theorem dX8_will_54 : decode μX8_will.2.1 54 = .ok (.getfield 30, 3) := by decide +kernel
theorem dX8_will_57 : decode μX8_will.2.1 57 = .ok (.iload_n 1, 1) := by decide +kernel
theorem dX8_will_58 : decode μX8_will.2.1 58 = .ok (.invokevirtual 117, 3) := by decide +kernel
theorem dX8_will_61 : decode μX8_will.2.1 61 = .ok (.ifCond .eq 15, 3) := by decide +kernel
theorem dX8_will_64 : decode μX8_will.2.1 64 = .ok (.aload_n 0, 1) := by decide +kernel
theorem dX8_will_65 : decode μX8_will.2.1 65 = .ok (.getfield 30, 3) := by decide +kernel
theorem dX8_will_68 : decode μX8_will.2.1 68 = .ok (.getfield 120, 3) := by decide +kernel
theorem dX8_will_71 : decode μX8_will.2.1 71 = .ok (.iload_n 1, 1) := by decide +kernel
theorem dX8_will_72 : decode μX8_will.2.1 72 = .ok (.iaload, 1) := by decide +kernel
theorem dX8_will_73 : decode μX8_will.2.1 73 = .ok (.goto 5, 3) := by decide +kernel
theorem dX8_will_76 : decode μX8_will.2.1 76 = .ok (.bipush (-2), 2) := by decide +kernel
theorem dX8_will_78 : decode μX8_will.2.1 78 = .ok (.ireturn, 1) := by decide +kernel
set_option maxRecDepth 20000 in
theorem sg_X8_will_0 {d : Nat} {x1 : Int32} {x2 : Int32} {x3 : Int32} {M : Mem} {K : (Int32 → Mem → Prop)}  (h : (CI d μX2_isTold [.ref 27, .int x1] M (fun r2 M1 => (if r2 = 0 then K ((-1)) M1 else (if x2 < 0 then K ((-1)) M1 else (if 60 < x2 then K ((-1)) M1 else (if x3 < 0 then K ((-1)) M1 else (if x3 ≤ 1 then (if x3 = 1 then (∃ t3, nx (ri M1 0 1) = t3 ∧ kd t3 = (0, 7) ∧ RI (d + 1) μX8_will 50 [(0, .ref 0), (1, .int x1), (2, .int x2), (3, .int x3)] [.int (ri M1 t3 3), .int x2, .ref 0] M1 K) else RI (d + 1) μX8_will 50 [(0, .ref 0), (1, .int x1), (2, .int x2), (3, .int x3)] [.int 0, .int x2, .ref 0] M1 K) else K ((-1)) M1)))))))) : CI (d + 1) μX8_will [.ref 0, .int x1, .int x2, .int x3] M K := by
  show Rn (d + 1) μX8_will 0 [(0, .ref 0), (1, .int x1), (2, .int x2), (3, .int x3)] [] M _
  refine rn_aload_n (i := 0) (x := 0) dX8_will_0 rfl (by simp) ?_
  refine rn_getr (t := 27) dX8_will_1 rfl gf_X8_26 rfl rfl ?_
  refine rn_iload_n (i := 1) (x := x1) dX8_will_4 rfl (by simp) ?_
  refine rn_callVi (as := [.int x1]) (st := []) dX8_will_5 mf_X2_isTold lk_X8_113 im_X2_isTold rfl rfl rfl rfl (Nat.le_of_ble_eq_true rfl) (Nat.le_of_ble_eq_true rfl) rfl (RI.mono h (fun r2 M1 h => ?_))
  refine rn_if_eq (tgt := 30) dX8_will_8 (by decide) (ite_go h (fun hc h => ?_) (fun hc h => ?_))
  · refine rn_iconst (v := -1) dX8_will_30 rfl ?_
    exact rn_iret dX8_will_31 rfl ⟨_, rfl, h⟩
  · refine rn_iload_n (i := 2) (x := x2) dX8_will_11 rfl (by simp) ?_
    refine rn_if_lt (tgt := 30) dX8_will_12 (by decide) (ite_go h (fun hc h => ?_) (fun hc h => ?_))
    · refine rn_iconst (v := -1) dX8_will_30 rfl ?_
      exact rn_iret dX8_will_31 rfl ⟨_, rfl, h⟩
    · refine rn_iload_n (i := 2) (x := x2) dX8_will_15 rfl (by simp) ?_
      refine rn_bipush (v := 60) dX8_will_16 rfl ?_
      refine rn_icmp_gt (tgt := 30) dX8_will_18 (by decide) (ite_go h (fun hc h => ?_) (fun hc h => ?_))
      · refine rn_iconst (v := -1) dX8_will_30 rfl ?_
        exact rn_iret dX8_will_31 rfl ⟨_, rfl, h⟩
      · refine rn_iload_n (i := 3) (x := x3) dX8_will_21 rfl (by simp) ?_
        refine rn_if_lt (tgt := 30) dX8_will_22 (by decide) (ite_go h (fun hc h => ?_) (fun hc h => ?_))
        · refine rn_iconst (v := -1) dX8_will_30 rfl ?_
          exact rn_iret dX8_will_31 rfl ⟨_, rfl, h⟩
        · refine rn_iload_n (i := 3) (x := x3) dX8_will_25 rfl (by simp) ?_
          refine rn_iconst (v := 1) dX8_will_26 rfl ?_
          refine rn_icmp_le (tgt := 32) dX8_will_27 (by decide) (ite_go h (fun hc h => ?_) (fun hc h => ?_))
          · refine rn_aload_n (i := 0) (x := 0) dX8_will_32 rfl (by simp) ?_
            refine rn_iload_n (i := 2) (x := x2) dX8_will_33 rfl (by simp) ?_
            refine rn_iload_n (i := 3) (x := x3) dX8_will_34 rfl (by simp) ?_
            refine rn_iconst (v := 1) dX8_will_35 rfl ?_
            refine rn_icmp_ne (tgt := 49) dX8_will_36 (by decide) (ite_go h (fun hc h => ?_) (fun hc h => ?_))
            · refine rn_aload_n (i := 0) (x := 0) dX8_will_39 rfl (by simp) ?_
              obtain ⟨t3, ht3e, ht3, h⟩ := h
              refine rn_getd dX8_will_40 rfl gf_X8_19 rfl ht3e ?_
              refine rn_geti dX8_will_43 ht3 gf_X8_182 (by decide) ?_
              refine rn_goto (tgt := 50) dX8_will_46 (by decide) ?_
              exact h
            · refine rn_iconst (v := 0) dX8_will_49 rfl ?_
              exact h
          · refine rn_iconst (v := -1) dX8_will_30 rfl ?_
            exact rn_iret dX8_will_31 rfl ⟨_, rfl, h⟩
set_option maxRecDepth 20000 in
theorem sg_X8_will_50 {d : Nat} {x1 : Int32} {x2 : Int32} {x3 : Int32} {y1 : Int32} {y2 : Int32} {M : Mem} {K : (Int32 → Mem → Prop)}  (h : (CV d μX8_lookAhead [.ref 0, .int y1, .int y2] M (fun M1 => (CI d μX2_isThere [.ref 33, .int x1] M1 (fun r3 M2 => (if r3 = 0 then K ((-2)) M2 else (vp_in x1 8 ∧ K (ri M2 34 (nx x1)) M2))))))) : RI (d + 1) μX8_will 50 [(0, .ref 0), (1, .int x1), (2, .int x2), (3, .int x3)] [.int y2, .int y1, .ref 0] M K := by
  show Rn (d + 1) μX8_will 50 [(0, .ref 0), (1, .int x1), (2, .int x2), (3, .int x3)] [.int y2, .int y1, .ref 0] M _
  refine rn_callVv (as := [.int y1, .int y2]) (st := []) dX8_will_50 mf_X8_lookAhead lk_X8_217 im_X8_lookAhead rfl rfl rfl rfl (Nat.le_of_ble_eq_true rfl) (Nat.le_of_ble_eq_true rfl) rfl (RV.mono h (fun M1 h => ?_))
  refine rn_aload_n (i := 0) (x := 0) dX8_will_53 rfl (by simp) ?_
  refine rn_getr (t := 33) dX8_will_54 rfl gf_X8_30 rfl rfl ?_
  refine rn_iload_n (i := 1) (x := x1) dX8_will_57 rfl (by simp) ?_
  refine rn_callVi (as := [.int x1]) (st := []) dX8_will_58 mf_X2_isThere lk_X8_117 im_X2_isThere rfl rfl rfl rfl (Nat.le_of_ble_eq_true rfl) (Nat.le_of_ble_eq_true rfl) rfl (RI.mono h (fun r3 M2 h => ?_))
  refine rn_if_eq (tgt := 76) dX8_will_61 (by decide) (ite_go h (fun hc h => ?_) (fun hc h => ?_))
  · refine rn_bipush (v := -2) dX8_will_76 rfl ?_
    exact rn_iret dX8_will_78 rfl ⟨_, rfl, h⟩
  · refine rn_aload_n (i := 0) (x := 0) dX8_will_64 rfl (by simp) ?_
    refine rn_getr (t := 33) dX8_will_65 rfl gf_X8_30 rfl rfl ?_
    refine rn_getr (t := 34) dX8_will_68 rfl gf_X8_120 rfl rfl ?_
    refine rn_iload_n (i := 1) (x := x1) dX8_will_71 rfl (by simp) ?_
    obtain ⟨hi, h⟩ := h
    refine rn_iaload dX8_will_72 rfl hi ?_
    refine rn_goto (tgt := 78) dX8_will_73 (by decide) ?_
    exact rn_iret dX8_will_78 rfl ⟨_, rfl, h⟩
theorem dX8_sides_0 : decode μX8_sides.2.1 0 = .ok (.aload_n 0, 1) := by decide +kernel
theorem dX8_sides_1 : decode μX8_sides.2.1 1 = .ok (.getfield 26, 3) := by decide +kernel
theorem dX8_sides_4 : decode μX8_sides.2.1 4 = .ok (.iload_n 1, 1) := by decide +kernel
theorem dX8_sides_5 : decode μX8_sides.2.1 5 = .ok (.invokevirtual 113, 3) := by decide +kernel
theorem dX8_sides_8 : decode μX8_sides.2.1 8 = .ok (.ifCond .eq 13, 3) := by decide +kernel
theorem dX8_sides_11 : decode μX8_sides.2.1 11 = .ok (.iload_n 2, 1) := by decide +kernel
theorem dX8_sides_12 : decode μX8_sides.2.1 12 = .ok (.ifCond .lt 9, 3) := by decide +kernel
theorem dX8_sides_15 : decode μX8_sides.2.1 15 = .ok (.iload_n 2, 1) := by decide +kernel
theorem dX8_sides_16 : decode μX8_sides.2.1 16 = .ok (.bipush 60, 2) := by decide +kernel
theorem dX8_sides_18 : decode μX8_sides.2.1 18 = .ok (.if_icmp .le 5, 3) := by decide +kernel
theorem dX8_sides_21 : decode μX8_sides.2.1 21 = .ok (.iconst (-1), 1) := by decide +kernel
theorem dX8_sides_22 : decode μX8_sides.2.1 22 = .ok (.ireturn, 1) := by decide +kernel
theorem dX8_sides_23 : decode μX8_sides.2.1 23 = .ok (.aload_n 0, 1) := by decide +kernel
theorem dX8_sides_24 : decode μX8_sides.2.1 24 = .ok (.iload_n 2, 1) := by decide +kernel
theorem dX8_sides_25 : decode μX8_sides.2.1 25 = .ok (.iconst 0, 1) := by decide +kernel
theorem dX8_sides_26 : decode μX8_sides.2.1 26 = .ok (.invokevirtual 217, 3) := by decide +kernel
theorem dX8_sides_29 : decode μX8_sides.2.1 29 = .ok (.aload_n 0, 1) := by decide +kernel
theorem dX8_sides_30 : decode μX8_sides.2.1 30 = .ok (.getfield 30, 3) := by decide +kernel
theorem dX8_sides_33 : decode μX8_sides.2.1 33 = .ok (.getfield 123, 3) := by decide +kernel
theorem dX8_sides_36 : decode μX8_sides.2.1 36 = .ok (.iload_n 1, 1) := by decide +kernel
theorem dX8_sides_37 : decode μX8_sides.2.1 37 = .ok (.iaload, 1) := by decide +kernel
theorem dX8_sides_38 : decode μX8_sides.2.1 38 = .ok (.ireturn, 1) := by decide +kernel
set_option maxRecDepth 20000 in
theorem sg_X8_sides_0 {d : Nat} {x1 : Int32} {x2 : Int32} {M : Mem} {K : (Int32 → Mem → Prop)}  (h : (CI d μX2_isTold [.ref 27, .int x1] M (fun r2 M1 => (if r2 = 0 then K ((-1)) M1 else (if x2 < 0 then K ((-1)) M1 else (if x2 ≤ 60 then (CV d μX8_lookAhead [.ref 0, .int x2, .int 0] M1 (fun M3 => (vp_in x1 8 ∧ K (ri M3 37 (nx x1)) M3))) else K ((-1)) M1)))))) : CI (d + 1) μX8_sides [.ref 0, .int x1, .int x2] M K := by
  show Rn (d + 1) μX8_sides 0 [(0, .ref 0), (1, .int x1), (2, .int x2)] [] M _
  refine rn_aload_n (i := 0) (x := 0) dX8_sides_0 rfl (by simp) ?_
  refine rn_getr (t := 27) dX8_sides_1 rfl gf_X8_26 rfl rfl ?_
  refine rn_iload_n (i := 1) (x := x1) dX8_sides_4 rfl (by simp) ?_
  refine rn_callVi (as := [.int x1]) (st := []) dX8_sides_5 mf_X2_isTold lk_X8_113 im_X2_isTold rfl rfl rfl rfl (Nat.le_of_ble_eq_true rfl) (Nat.le_of_ble_eq_true rfl) rfl (RI.mono h (fun r2 M1 h => ?_))
  refine rn_if_eq (tgt := 21) dX8_sides_8 (by decide) (ite_go h (fun hc h => ?_) (fun hc h => ?_))
  · refine rn_iconst (v := -1) dX8_sides_21 rfl ?_
    exact rn_iret dX8_sides_22 rfl ⟨_, rfl, h⟩
  · refine rn_iload_n (i := 2) (x := x2) dX8_sides_11 rfl (by simp) ?_
    refine rn_if_lt (tgt := 21) dX8_sides_12 (by decide) (ite_go h (fun hc h => ?_) (fun hc h => ?_))
    · refine rn_iconst (v := -1) dX8_sides_21 rfl ?_
      exact rn_iret dX8_sides_22 rfl ⟨_, rfl, h⟩
    · refine rn_iload_n (i := 2) (x := x2) dX8_sides_15 rfl (by simp) ?_
      refine rn_bipush (v := 60) dX8_sides_16 rfl ?_
      refine rn_icmp_le (tgt := 23) dX8_sides_18 (by decide) (ite_go h (fun hc h => ?_) (fun hc h => ?_))
      · refine rn_aload_n (i := 0) (x := 0) dX8_sides_23 rfl (by simp) ?_
        refine rn_iload_n (i := 2) (x := x2) dX8_sides_24 rfl (by simp) ?_
        refine rn_iconst (v := 0) dX8_sides_25 rfl ?_
        refine rn_callVv (as := [.int x2, .int 0]) (st := []) dX8_sides_26 mf_X8_lookAhead lk_X8_217 im_X8_lookAhead rfl rfl rfl rfl (Nat.le_of_ble_eq_true rfl) (Nat.le_of_ble_eq_true rfl) rfl (RV.mono h (fun M3 h => ?_))
        refine rn_aload_n (i := 0) (x := 0) dX8_sides_29 rfl (by simp) ?_
        refine rn_getr (t := 33) dX8_sides_30 rfl gf_X8_30 rfl rfl ?_
        refine rn_getr (t := 37) dX8_sides_33 rfl gf_X8_123 rfl rfl ?_
        refine rn_iload_n (i := 1) (x := x1) dX8_sides_36 rfl (by simp) ?_
        obtain ⟨hi, h⟩ := h
        refine rn_iaload dX8_sides_37 rfl hi ?_
        exact rn_iret dX8_sides_38 rfl ⟨_, rfl, h⟩
      · refine rn_iconst (v := -1) dX8_sides_21 rfl ?_
        exact rn_iret dX8_sides_22 rfl ⟨_, rfl, h⟩
theorem dX8_left_0 : decode μX8_left.2.1 0 = .ok (.iload_n 1, 1) := by decide +kernel
theorem dX8_left_1 : decode μX8_left.2.1 1 = .ok (.ifCond .lt 9, 3) := by decide +kernel
theorem dX8_left_4 : decode μX8_left.2.1 4 = .ok (.iload_n 1, 1) := by decide +kernel
theorem dX8_left_5 : decode μX8_left.2.1 5 = .ok (.bipush 60, 2) := by decide +kernel
theorem dX8_left_7 : decode μX8_left.2.1 7 = .ok (.if_icmp .le 5, 3) := by decide +kernel
theorem dX8_left_10 : decode μX8_left.2.1 10 = .ok (.iconst (-1), 1) := by decide +kernel
theorem dX8_left_11 : decode μX8_left.2.1 11 = .ok (.ireturn, 1) := by decide +kernel
theorem dX8_left_12 : decode μX8_left.2.1 12 = .ok (.aload_n 0, 1) := by decide +kernel
theorem dX8_left_13 : decode μX8_left.2.1 13 = .ok (.iload_n 1, 1) := by decide +kernel
theorem dX8_left_14 : decode μX8_left.2.1 14 = .ok (.iconst 0, 1) := by decide +kernel
theorem dX8_left_15 : decode μX8_left.2.1 15 = .ok (.invokevirtual 217, 3) := by decide +kernel
theorem dX8_left_18 : decode μX8_left.2.1 18 = .ok (.aload_n 0, 1) := by decide +kernel
theorem dX8_left_19 : decode μX8_left.2.1 19 = .ok (.getfield 30, 3) := by decide +kernel
theorem dX8_left_22 : decode μX8_left.2.1 22 = .ok (.getfield 179, 3) := by decide +kernel
theorem dX8_left_25 : decode μX8_left.2.1 25 = .ok (.ireturn, 1) := by decide +kernel
set_option maxRecDepth 20000 in
theorem sg_X8_left_0 {d : Nat} {x1 : Int32} {M : Mem} {K : (Int32 → Mem → Prop)}  (h : (if x1 < 0 then K ((-1)) M else (if x1 ≤ 60 then (CV d μX8_lookAhead [.ref 0, .int x1, .int 0] M (fun M1 => K (ri M1 33 1) M1)) else K ((-1)) M))) : CI (d + 1) μX8_left [.ref 0, .int x1] M K := by
  show Rn (d + 1) μX8_left 0 [(0, .ref 0), (1, .int x1)] [] M _
  refine rn_iload_n (i := 1) (x := x1) dX8_left_0 rfl (by simp) ?_
  refine rn_if_lt (tgt := 10) dX8_left_1 (by decide) (ite_go h (fun hc h => ?_) (fun hc h => ?_))
  · refine rn_iconst (v := -1) dX8_left_10 rfl ?_
    exact rn_iret dX8_left_11 rfl ⟨_, rfl, h⟩
  · refine rn_iload_n (i := 1) (x := x1) dX8_left_4 rfl (by simp) ?_
    refine rn_bipush (v := 60) dX8_left_5 rfl ?_
    refine rn_icmp_le (tgt := 12) dX8_left_7 (by decide) (ite_go h (fun hc h => ?_) (fun hc h => ?_))
    · refine rn_aload_n (i := 0) (x := 0) dX8_left_12 rfl (by simp) ?_
      refine rn_iload_n (i := 1) (x := x1) dX8_left_13 rfl (by simp) ?_
      refine rn_iconst (v := 0) dX8_left_14 rfl ?_
      refine rn_callVv (as := [.int x1, .int 0]) (st := []) dX8_left_15 mf_X8_lookAhead lk_X8_217 im_X8_lookAhead rfl rfl rfl rfl (Nat.le_of_ble_eq_true rfl) (Nat.le_of_ble_eq_true rfl) rfl (RV.mono h (fun M1 h => ?_))
      refine rn_aload_n (i := 0) (x := 0) dX8_left_18 rfl (by simp) ?_
      refine rn_getr (t := 33) dX8_left_19 rfl gf_X8_30 rfl rfl ?_
      refine rn_geti dX8_left_22 rfl gf_X8_179 (by decide) ?_
      exact rn_iret dX8_left_25 rfl ⟨_, rfl, h⟩
    · refine rn_iconst (v := -1) dX8_left_10 rfl ?_
      exact rn_iret dX8_left_11 rfl ⟨_, rfl, h⟩
theorem dX8_lookAhead_0 : decode μX8_lookAhead.2.1 0 = .ok (.aload_n 0, 1) := by decide +kernel
theorem dX8_lookAhead_1 : decode μX8_lookAhead.2.1 1 = .ok (.getfield 30, 3) := by decide +kernel
theorem dX8_lookAhead_4 : decode μX8_lookAhead.2.1 4 = .ok (.aload_n 0, 1) := by decide +kernel
theorem dX8_lookAhead_5 : decode μX8_lookAhead.2.1 5 = .ok (.getfield 26, 3) := by decide +kernel
theorem dX8_lookAhead_8 : decode μX8_lookAhead.2.1 8 = .ok (.invokevirtual 97, 3) := by decide +kernel
theorem dX8_lookAhead_11 : decode μX8_lookAhead.2.1 11 = .ok (.aload_n 0, 1) := by decide +kernel
theorem dX8_lookAhead_12 : decode μX8_lookAhead.2.1 12 = .ok (.getfield 30, 3) := by decide +kernel
theorem dX8_lookAhead_15 : decode μX8_lookAhead.2.1 15 = .ok (.iload_n 1, 1) := by decide +kernel
theorem dX8_lookAhead_16 : decode μX8_lookAhead.2.1 16 = .ok (.aload_n 0, 1) := by decide +kernel
theorem dX8_lookAhead_17 : decode μX8_lookAhead.2.1 17 = .ok (.getfield 19, 3) := by decide +kernel
theorem dX8_lookAhead_20 : decode μX8_lookAhead.2.1 20 = .ok (.getfield 129, 3) := by decide +kernel
theorem dX8_lookAhead_23 : decode μX8_lookAhead.2.1 23 = .ok (.iload_n 2, 1) := by decide +kernel
theorem dX8_lookAhead_24 : decode μX8_lookAhead.2.1 24 = .ok (.invokevirtual 221, 3) := by decide +kernel
theorem dX8_lookAhead_27 : decode μX8_lookAhead.2.1 27 = .ok (.return_, 1) := by decide +kernel
set_option maxRecDepth 20000 in
theorem sg_X8_lookAhead_0 {d : Nat} {x1 : Int32} {x2 : Int32} {M : Mem} {K : (Mem → Prop)}  (h : (CV d μX2_copyFrom [.ref 33, .ref 27] M (fun M1 => (∃ t2, nx (ri M1 0 1) = t2 ∧ kd t2 = (0, 7) ∧ (CV d μX2_passSeasons [.ref 33, .int x1, .ref (t2 + 7), .int x2] M1 (fun M3 => K M3)))))) : CV (d + 1) μX8_lookAhead [.ref 0, .int x1, .int x2] M K := by
  show Rn (d + 1) μX8_lookAhead 0 [(0, .ref 0), (1, .int x1), (2, .int x2)] [] M _
  refine rn_aload_n (i := 0) (x := 0) dX8_lookAhead_0 rfl (by simp) ?_
  refine rn_getr (t := 33) dX8_lookAhead_1 rfl gf_X8_30 rfl rfl ?_
  refine rn_aload_n (i := 0) (x := 0) dX8_lookAhead_4 rfl (by simp) ?_
  refine rn_getr (t := 27) dX8_lookAhead_5 rfl gf_X8_26 rfl rfl ?_
  refine rn_callVv (as := [.ref 27]) (st := []) dX8_lookAhead_8 mf_X2_copyFrom lk_X8_97 im_X2_copyFrom rfl rfl rfl rfl (Nat.le_of_ble_eq_true rfl) (Nat.le_of_ble_eq_true rfl) rfl (RV.mono h (fun M1 h => ?_))
  refine rn_aload_n (i := 0) (x := 0) dX8_lookAhead_11 rfl (by simp) ?_
  refine rn_getr (t := 33) dX8_lookAhead_12 rfl gf_X8_30 rfl rfl ?_
  refine rn_iload_n (i := 1) (x := x1) dX8_lookAhead_15 rfl (by simp) ?_
  refine rn_aload_n (i := 0) (x := 0) dX8_lookAhead_16 rfl (by simp) ?_
  obtain ⟨t2, ht2e, ht2, h⟩ := h
  refine rn_getd dX8_lookAhead_17 rfl gf_X8_19 rfl ht2e ?_
  refine rn_getr (t := t2 + 7) dX8_lookAhead_20 ht2 gf_X8_129 rfl (telling_refs _ ht2).2.1.1 ?_
  refine rn_iload_n (i := 2) (x := x2) dX8_lookAhead_23 rfl (by simp) ?_
  refine rn_callVv (as := [.int x1, .ref (t2 + 7), .int x2]) (st := []) dX8_lookAhead_24 mf_X2_passSeasons lk_X8_221 im_X2_passSeasons rfl rfl rfl rfl (Nat.le_of_ble_eq_true rfl) (Nat.le_of_ble_eq_true rfl) rfl (RV.mono h (fun M3 h => ?_))
  exact rn_ret dX8_lookAhead_27 rfl ⟨rfl, h⟩
theorem dX8_ending_0 : decode μX8_ending.2.1 0 = .ok (.aload_n 0, 1) := by decide +kernel
theorem dX8_ending_1 : decode μX8_ending.2.1 1 = .ok (.getfield 26, 3) := by decide +kernel
theorem dX8_ending_4 : decode μX8_ending.2.1 4 = .ok (.iload_n 1, 1) := by decide +kernel
theorem dX8_ending_5 : decode μX8_ending.2.1 5 = .ok (.invokevirtual 113, 3) := by decide +kernel
theorem dX8_ending_8 : decode μX8_ending.2.1 8 = .ok (.ifCond .ne 5, 3) := by decide +kernel
theorem dX8_ending_11 : decode μX8_ending.2.1 11 = .ok (.iconst (-1), 1) := by decide +kernel
theorem dX8_ending_12 : decode μX8_ending.2.1 12 = .ok (.ireturn, 1) := by decide +kernel
theorem dX8_ending_13 : decode μX8_ending.2.1 13 = .ok (.aload_n 0, 1) := by decide +kernel
theorem dX8_ending_14 : decode μX8_ending.2.1 14 = .ok (.getfield 30, 3) := by decide +kernel
theorem dX8_ending_17 : decode μX8_ending.2.1 17 = .ok (.aload_n 0, 1) := by decide +kernel
theorem dX8_ending_18 : decode μX8_ending.2.1 18 = .ok (.getfield 26, 3) := by decide +kernel
theorem dX8_ending_21 : decode μX8_ending.2.1 21 = .ok (.invokevirtual 97, 3) := by decide +kernel
theorem dX8_ending_24 : decode μX8_ending.2.1 24 = .ok (.iconst 0, 1) := by decide +kernel
theorem dX8_ending_25 : decode μX8_ending.2.1 25 = .ok (.istore_n 2, 1) := by decide +kernel
theorem dX8_ending_26 : decode μX8_ending.2.1 26 = .ok (.iload_n 2, 1) := by decide +kernel
theorem dX8_ending_27 : decode μX8_ending.2.1 27 = .ok (.bipush 60, 2) := by decide +kernel
theorem dX8_ending_29 : decode μX8_ending.2.1 29 = .ok (.if_icmp .gt 37, 3) := by decide +kernel
theorem dX8_ending_32 : decode μX8_ending.2.1 32 = .ok (.aload_n 0, 1) := by decide +kernel
theorem dX8_ending_33 : decode μX8_ending.2.1 33 = .ok (.getfield 30, 3) := by decide +kernel
theorem dX8_ending_36 : decode μX8_ending.2.1 36 = .ok (.iload_n 1, 1) := by decide +kernel
theorem dX8_ending_37 : decode μX8_ending.2.1 37 = .ok (.invokevirtual 117, 3) := by decide +kernel
theorem dX8_ending_40 : decode μX8_ending.2.1 40 = .ok (.ifCond .ne 5, 3) := by decide +kernel
theorem dX8_ending_43 : decode μX8_ending.2.1 43 = .ok (.iload_n 2, 1) := by decide +kernel
theorem dX8_ending_44 : decode μX8_ending.2.1 44 = .ok (.ireturn, 1) := by decide +kernel
theorem dX8_ending_45 : decode μX8_ending.2.1 45 = .ok (.aload_n 0, 1) := by decide +kernel
theorem dX8_ending_46 : decode μX8_ending.2.1 46 = .ok (.getfield 30, 3) := by decide +kernel
theorem dX8_ending_49 : decode μX8_ending.2.1 49 = .ok (.aload_n 0, 1) := by decide +kernel
theorem dX8_ending_50 : decode μX8_ending.2.1 50 = .ok (.getfield 19, 3) := by decide +kernel
theorem dX8_ending_53 : decode μX8_ending.2.1 53 = .ok (.getfield 129, 3) := by decide +kernel
theorem dX8_ending_56 : decode μX8_ending.2.1 56 = .ok (.iconst 0, 1) := by decide +kernel
theorem dX8_ending_57 : decode μX8_ending.2.1 57 = .ok (.invokevirtual 185, 3) := by decide +kernel
theorem dX8_ending_60 : decode μX8_ending.2.1 60 = .ok (.iinc 2 1, 3) := by decide +kernel
theorem dX8_ending_63 : decode μX8_ending.2.1 63 = .ok (.goto (-37), 3) := by decide +kernel
theorem dX8_ending_66 : decode μX8_ending.2.1 66 = .ok (.iconst (-1), 1) := by decide +kernel
theorem dX8_ending_67 : decode μX8_ending.2.1 67 = .ok (.ireturn, 1) := by decide +kernel
set_option maxRecDepth 20000 in
theorem sg_X8_ending_0 {d : Nat} {x1 : Int32} {M : Mem} {K : (Int32 → Mem → Prop)}  (h : (CI d μX2_isTold [.ref 27, .int x1] M (fun r2 M1 => (if r2 = 0 then K ((-1)) M1 else (CV d μX2_copyFrom [.ref 33, .ref 27] M1 (fun M3 => RI (d + 1) μX8_ending 26 [(0, .ref 0), (1, .int x1), (2, .int 0)] [] M3 K)))))) : CI (d + 1) μX8_ending [.ref 0, .int x1] M K := by
  show Rn (d + 1) μX8_ending 0 [(0, .ref 0), (1, .int x1)] [] M _
  refine rn_aload_n (i := 0) (x := 0) dX8_ending_0 rfl (by simp) ?_
  refine rn_getr (t := 27) dX8_ending_1 rfl gf_X8_26 rfl rfl ?_
  refine rn_iload_n (i := 1) (x := x1) dX8_ending_4 rfl (by simp) ?_
  refine rn_callVi (as := [.int x1]) (st := []) dX8_ending_5 mf_X2_isTold lk_X8_113 im_X2_isTold rfl rfl rfl rfl (Nat.le_of_ble_eq_true rfl) (Nat.le_of_ble_eq_true rfl) rfl (RI.mono h (fun r2 M1 h => ?_))
  refine rn_if_ne (tgt := 13) dX8_ending_8 (by decide) (ite_go h (fun hc h => ?_) (fun hc h => ?_))
  · refine rn_iconst (v := -1) dX8_ending_11 rfl ?_
    exact rn_iret dX8_ending_12 rfl ⟨_, rfl, h⟩
  · refine rn_aload_n (i := 0) (x := 0) dX8_ending_13 rfl (by simp) ?_
    refine rn_getr (t := 33) dX8_ending_14 rfl gf_X8_30 rfl rfl ?_
    refine rn_aload_n (i := 0) (x := 0) dX8_ending_17 rfl (by simp) ?_
    refine rn_getr (t := 27) dX8_ending_18 rfl gf_X8_26 rfl rfl ?_
    refine rn_callVv (as := [.ref 27]) (st := []) dX8_ending_21 mf_X2_copyFrom lk_X8_97 im_X2_copyFrom rfl rfl rfl rfl (Nat.le_of_ble_eq_true rfl) (Nat.le_of_ble_eq_true rfl) rfl (RV.mono h (fun M3 h => ?_))
    refine rn_iconst (v := 0) dX8_ending_24 rfl ?_
    refine rn_istore_n (lv' := [(0, .ref 0), (1, .int x1), (2, .int 0)]) (hd := dX8_ending_25) (i := 2) (hi := rfl) (hn := by decide) (hf := rfl) (hl := rfl) ?_
    exact h
set_option maxRecDepth 20000 in
theorem sg_X8_ending_26 {d : Nat} {x1 : Int32} {x2 : Int32} {M : Mem} {K : (Int32 → Mem → Prop)}  (h : (if 60 < x2 then K ((-1)) M else (CI d μX2_isThere [.ref 33, .int x1] M (fun r2 M1 => (if r2 = 0 then K x2 M1 else (∃ t3, nx (ri M1 0 1) = t3 ∧ kd t3 = (0, 7) ∧ (CV d μX2_passSeason [.ref 33, .ref (t3 + 7), .int 0] M1 (fun M4 => RI (d + 1) μX8_ending 26 [(0, .ref 0), (1, .int x1), (2, .int (x2 + 1))] [] M4 K)))))))) : RI (d + 1) μX8_ending 26 [(0, .ref 0), (1, .int x1), (2, .int x2)] [] M K := by
  show Rn (d + 1) μX8_ending 26 [(0, .ref 0), (1, .int x1), (2, .int x2)] [] M _
  refine rn_iload_n (i := 2) (x := x2) dX8_ending_26 rfl (by simp) ?_
  refine rn_bipush (v := 60) dX8_ending_27 rfl ?_
  refine rn_icmp_gt (tgt := 66) dX8_ending_29 (by decide) (ite_go h (fun hc h => ?_) (fun hc h => ?_))
  · refine rn_iconst (v := -1) dX8_ending_66 rfl ?_
    exact rn_iret dX8_ending_67 rfl ⟨_, rfl, h⟩
  · refine rn_aload_n (i := 0) (x := 0) dX8_ending_32 rfl (by simp) ?_
    refine rn_getr (t := 33) dX8_ending_33 rfl gf_X8_30 rfl rfl ?_
    refine rn_iload_n (i := 1) (x := x1) dX8_ending_36 rfl (by simp) ?_
    refine rn_callVi (as := [.int x1]) (st := []) dX8_ending_37 mf_X2_isThere lk_X8_117 im_X2_isThere rfl rfl rfl rfl (Nat.le_of_ble_eq_true rfl) (Nat.le_of_ble_eq_true rfl) rfl (RI.mono h (fun r2 M1 h => ?_))
    refine rn_if_ne (tgt := 45) dX8_ending_40 (by decide) (ite_go h (fun hc h => ?_) (fun hc h => ?_))
    · refine rn_iload_n (i := 2) (x := x2) dX8_ending_43 rfl (by simp) ?_
      exact rn_iret dX8_ending_44 rfl ⟨_, rfl, h⟩
    · refine rn_aload_n (i := 0) (x := 0) dX8_ending_45 rfl (by simp) ?_
      refine rn_getr (t := 33) dX8_ending_46 rfl gf_X8_30 rfl rfl ?_
      refine rn_aload_n (i := 0) (x := 0) dX8_ending_49 rfl (by simp) ?_
      obtain ⟨t3, ht3e, ht3, h⟩ := h
      refine rn_getd dX8_ending_50 rfl gf_X8_19 rfl ht3e ?_
      refine rn_getr (t := t3 + 7) dX8_ending_53 ht3 gf_X8_129 rfl (telling_refs _ ht3).2.1.1 ?_
      refine rn_iconst (v := 0) dX8_ending_56 rfl ?_
      refine rn_callVv (as := [.ref (t3 + 7), .int 0]) (st := []) dX8_ending_57 mf_X2_passSeason lk_X8_185 im_X2_passSeason rfl rfl rfl rfl (Nat.le_of_ble_eq_true rfl) (Nat.le_of_ble_eq_true rfl) rfl (RV.mono h (fun M4 h => ?_))
      refine rn_iinc (x := x2) (v := x2 + 1) (lv' := [(0, .ref 0), (1, .int x1), (2, .int (x2 + 1))]) dX8_ending_60 (by simp) rfl (by decide) rfl rfl ?_
      refine rn_goto (tgt := 26) dX8_ending_63 (by decide) ?_
      exact h
theorem dX8_save_0 : decode μX8_save.2.1 0 = .ok (.aload_n 0, 1) := by decide +kernel
theorem dX8_save_1 : decode μX8_save.2.1 1 = .ok (.getfield 26, 3) := by decide +kernel
theorem dX8_save_4 : decode μX8_save.2.1 4 = .ok (.iload_n 1, 1) := by decide +kernel
theorem dX8_save_5 : decode μX8_save.2.1 5 = .ok (.invokevirtual 117, 3) := by decide +kernel
theorem dX8_save_8 : decode μX8_save.2.1 8 = .ok (.ifCond .eq 13, 3) := by decide +kernel
theorem dX8_save_11 : decode μX8_save.2.1 11 = .ok (.iload_n 2, 1) := by decide +kernel
theorem dX8_save_12 : decode μX8_save.2.1 12 = .ok (.ifCond .lt 9, 3) := by decide +kernel
theorem dX8_save_15 : decode μX8_save.2.1 15 = .ok (.iload_n 2, 1) := by decide +kernel
theorem dX8_save_16 : decode μX8_save.2.1 16 = .ok (.bipush 30, 2) := by decide +kernel
theorem dX8_save_18 : decode μX8_save.2.1 18 = .ok (.if_icmp .le 5, 3) := by decide +kernel
theorem dX8_save_21 : decode μX8_save.2.1 21 = .ok (.iconst (-1), 1) := by decide +kernel
theorem dX8_save_22 : decode μX8_save.2.1 22 = .ok (.ireturn, 1) := by decide +kernel
theorem dX8_save_23 : decode μX8_save.2.1 23 = .ok (.iconst 0, 1) := by decide +kernel
theorem dX8_save_24 : decode μX8_save.2.1 24 = .ok (.istore_n 3, 1) := by decide +kernel
theorem dX8_save_25 : decode μX8_save.2.1 25 = .ok (.iload_n 3, 1) := by decide +kernel
theorem dX8_save_26 : decode μX8_save.2.1 26 = .ok (.aload_n 0, 1) := by decide +kernel
theorem dX8_save_27 : decode μX8_save.2.1 27 = .ok (.getfield 26, 3) := by decide +kernel
theorem dX8_save_30 : decode μX8_save.2.1 30 = .ok (.getfield 107, 3) := by decide +kernel
theorem dX8_save_33 : decode μX8_save.2.1 33 = .ok (.if_icmp .ge 69, 3) := by decide +kernel
theorem dX8_save_36 : decode μX8_save.2.1 36 = .ok (.iconst 0, 1) := by decide +kernel
theorem dX8_save_37 : decode μX8_save.2.1 37 = .ok (.istore 4, 2) := by decide +kernel
theorem dX8_save_39 : decode μX8_save.2.1 39 = .ok (.iload 4, 2) := by decide +kernel
theorem dX8_save_41 : decode μX8_save.2.1 41 = .ok (.aload_n 0, 1) := by decide +kernel
theorem dX8_save_42 : decode μX8_save.2.1 42 = .ok (.getfield 26, 3) := by decide +kernel
theorem dX8_save_45 : decode μX8_save.2.1 45 = .ok (.getfield 107, 3) := by decide +kernel
theorem dX8_save_48 : decode μX8_save.2.1 48 = .ok (.if_icmp .ge 48, 3) := by decide +kernel
theorem dX8_save_51 : decode μX8_save.2.1 51 = .ok (.iload 4, 2) := by decide +kernel
theorem dX8_save_53 : decode μX8_save.2.1 53 = .ok (.iload_n 1, 1) := by decide +kernel
theorem dX8_save_54 : decode μX8_save.2.1 54 = .ok (.if_icmp .eq 36, 3) := by decide +kernel
theorem dX8_save_57 : decode μX8_save.2.1 57 = .ok (.aload_n 0, 1) := by decide +kernel
theorem dX8_save_58 : decode μX8_save.2.1 58 = .ok (.getfield 26, 3) := by decide +kernel
theorem dX8_save_61 : decode μX8_save.2.1 61 = .ok (.iload_n 3, 1) := by decide +kernel
theorem dX8_save_62 : decode μX8_save.2.1 62 = .ok (.iload 4, 2) := by decide +kernel
theorem dX8_save_64 : decode μX8_save.2.1 64 = .ok (.invokevirtual 158, 3) := by decide +kernel
theorem dX8_save_67 : decode μX8_save.2.1 67 = .ok (.ifCond .eq 23, 3) := by decide +kernel
theorem dX8_save_70 : decode μX8_save.2.1 70 = .ok (.aload_n 0, 1) := by decide +kernel
theorem dX8_save_71 : decode μX8_save.2.1 71 = .ok (.iload_n 1, 1) := by decide +kernel
theorem dX8_save_72 : decode μX8_save.2.1 72 = .ok (.iload_n 2, 1) := by decide +kernel
theorem dX8_save_73 : decode μX8_save.2.1 73 = .ok (.iload_n 3, 1) := by decide +kernel
theorem dX8_save_74 : decode μX8_save.2.1 74 = .ok (.iload 4, 2) := by decide +kernel
theorem dX8_save_76 : decode μX8_save.2.1 76 = .ok (.invokevirtual 225, 3) := by decide +kernel
theorem dX8_save_79 : decode μX8_save.2.1 79 = .ok (.ifCond .eq 11, 3) := by decide +kernel
theorem dX8_save_82 : decode μX8_save.2.1 82 = .ok (.iload_n 3, 1) := by decide +kernel
theorem dX8_save_83 : decode μX8_save.2.1 83 = .ok (.bipush 8, 2) := by decide +kernel
theorem dX8_save_85 : decode μX8_save.2.1 85 = .ok (.imul, 1) := by decide +kernel
theorem dX8_save_86 : decode μX8_save.2.1 86 = .ok (.iload 4, 2) := by decide +kernel
theorem dX8_save_88 : decode μX8_save.2.1 88 = .ok (.iadd, 1) := by decide +kernel
theorem dX8_save_89 : decode μX8_save.2.1 89 = .ok (.ireturn, 1) := by decide +kernel
theorem dX8_save_90 : decode μX8_save.2.1 90 = .ok (.iinc 4 1, 3) := by decide +kernel
theorem dX8_save_93 : decode μX8_save.2.1 93 = .ok (.goto (-54), 3) := by decide +kernel
theorem dX8_save_96 : decode μX8_save.2.1 96 = .ok (.iinc 3 1, 3) := by decide +kernel
theorem dX8_save_99 : decode μX8_save.2.1 99 = .ok (.goto (-74), 3) := by decide +kernel
theorem dX8_save_102 : decode μX8_save.2.1 102 = .ok (.iconst (-1), 1) := by decide +kernel
theorem dX8_save_103 : decode μX8_save.2.1 103 = .ok (.ireturn, 1) := by decide +kernel
set_option maxRecDepth 20000 in
theorem sg_X8_save_0 {d : Nat} {x1 : Int32} {x2 : Int32} {M : Mem} {K : (Int32 → Mem → Prop)}  (h : (CI d μX2_isThere [.ref 27, .int x1] M (fun r2 M1 => (if r2 = 0 then K ((-1)) M1 else (if x2 < 0 then K ((-1)) M1 else (if x2 ≤ 30 then RI (d + 1) μX8_save 25 [(0, .ref 0), (1, .int x1), (2, .int x2), (3, .int 0)] [] M1 K else K ((-1)) M1)))))) : CI (d + 1) μX8_save [.ref 0, .int x1, .int x2] M K := by
  show Rn (d + 1) μX8_save 0 [(0, .ref 0), (1, .int x1), (2, .int x2)] [] M _
  refine rn_aload_n (i := 0) (x := 0) dX8_save_0 rfl (by simp) ?_
  refine rn_getr (t := 27) dX8_save_1 rfl gf_X8_26 rfl rfl ?_
  refine rn_iload_n (i := 1) (x := x1) dX8_save_4 rfl (by simp) ?_
  refine rn_callVi (as := [.int x1]) (st := []) dX8_save_5 mf_X2_isThere lk_X8_117 im_X2_isThere rfl rfl rfl rfl (Nat.le_of_ble_eq_true rfl) (Nat.le_of_ble_eq_true rfl) rfl (RI.mono h (fun r2 M1 h => ?_))
  refine rn_if_eq (tgt := 21) dX8_save_8 (by decide) (ite_go h (fun hc h => ?_) (fun hc h => ?_))
  · refine rn_iconst (v := -1) dX8_save_21 rfl ?_
    exact rn_iret dX8_save_22 rfl ⟨_, rfl, h⟩
  · refine rn_iload_n (i := 2) (x := x2) dX8_save_11 rfl (by simp) ?_
    refine rn_if_lt (tgt := 21) dX8_save_12 (by decide) (ite_go h (fun hc h => ?_) (fun hc h => ?_))
    · refine rn_iconst (v := -1) dX8_save_21 rfl ?_
      exact rn_iret dX8_save_22 rfl ⟨_, rfl, h⟩
    · refine rn_iload_n (i := 2) (x := x2) dX8_save_15 rfl (by simp) ?_
      refine rn_bipush (v := 30) dX8_save_16 rfl ?_
      refine rn_icmp_le (tgt := 23) dX8_save_18 (by decide) (ite_go h (fun hc h => ?_) (fun hc h => ?_))
      · refine rn_iconst (v := 0) dX8_save_23 rfl ?_
        refine rn_istore_n (lv' := [(0, .ref 0), (1, .int x1), (2, .int x2), (3, .int 0)]) (hd := dX8_save_24) (i := 3) (hi := rfl) (hn := by decide) (hf := rfl) (hl := rfl) ?_
        exact h
      · refine rn_iconst (v := -1) dX8_save_21 rfl ?_
        exact rn_iret dX8_save_22 rfl ⟨_, rfl, h⟩
set_option maxRecDepth 20000 in
theorem sg_X8_save_25 {d : Nat} {x1 : Int32} {x2 : Int32} {x3 : Int32} {M : Mem} {K : (Int32 → Mem → Prop)}  (h : (if ri M 27 0 ≤ x3 then K ((-1)) M else RI (d + 1) μX8_save 39 [(0, .ref 0), (1, .int x1), (2, .int x2), (3, .int x3), (4, .int 0)] [] M K)) : RI (d + 1) μX8_save 25 [(0, .ref 0), (1, .int x1), (2, .int x2), (3, .int x3)] [] M K := by
  show Rn (d + 1) μX8_save 25 [(0, .ref 0), (1, .int x1), (2, .int x2), (3, .int x3)] [] M _
  refine rn_iload_n (i := 3) (x := x3) dX8_save_25 rfl (by simp) ?_
  refine rn_aload_n (i := 0) (x := 0) dX8_save_26 rfl (by simp) ?_
  refine rn_getr (t := 27) dX8_save_27 rfl gf_X8_26 rfl rfl ?_
  refine rn_geti dX8_save_30 rfl gf_X8_107 (by decide) ?_
  refine rn_icmp_ge (tgt := 102) dX8_save_33 (by decide) (ite_go h (fun hc h => ?_) (fun hc h => ?_))
  · refine rn_iconst (v := -1) dX8_save_102 rfl ?_
    exact rn_iret dX8_save_103 rfl ⟨_, rfl, h⟩
  · refine rn_iconst (v := 0) dX8_save_36 rfl ?_
    refine rn_istore (lv' := [(0, .ref 0), (1, .int x1), (2, .int x2), (3, .int x3), (4, .int 0)]) (hd := dX8_save_37) (hn := by decide) (hf := rfl) (hl := rfl) ?_
    exact h
set_option maxRecDepth 20000 in
theorem sg_X8_save_39 {d : Nat} {x1 : Int32} {x2 : Int32} {x3 : Int32} {x4 : Int32} {M : Mem} {K : (Int32 → Mem → Prop)}  (h : (if ri M 27 0 ≤ x4 then RI (d + 1) μX8_save 25 [(0, .ref 0), (1, .int x1), (2, .int x2), (3, .int (x3 + 1))] [] M K else (if x4 = x1 then RI (d + 1) μX8_save 39 [(0, .ref 0), (1, .int x1), (2, .int x2), (3, .int x3), (4, .int (x4 + 1))] [] M K else (CI d μX2_canMerge [.ref 27, .int x3, .int x4] M (fun r2 M1 => (if r2 = 0 then RI (d + 1) μX8_save 39 [(0, .ref 0), (1, .int x1), (2, .int x2), (3, .int x3), (4, .int (x4 + 1))] [] M1 K else (CI d μX8_isSavedBy [.ref 0, .int x1, .int x2, .int x3, .int x4] M1 (fun r4 M3 => (if r4 = 0 then RI (d + 1) μX8_save 39 [(0, .ref 0), (1, .int x1), (2, .int x2), (3, .int x3), (4, .int (x4 + 1))] [] M3 K else K ((x3 * 8) + x4) M3))))))))) : RI (d + 1) μX8_save 39 [(0, .ref 0), (1, .int x1), (2, .int x2), (3, .int x3), (4, .int x4)] [] M K := by
  show Rn (d + 1) μX8_save 39 [(0, .ref 0), (1, .int x1), (2, .int x2), (3, .int x3), (4, .int x4)] [] M _
  refine rn_iload (x := x4) dX8_save_39 (by simp) ?_
  refine rn_aload_n (i := 0) (x := 0) dX8_save_41 rfl (by simp) ?_
  refine rn_getr (t := 27) dX8_save_42 rfl gf_X8_26 rfl rfl ?_
  refine rn_geti dX8_save_45 rfl gf_X8_107 (by decide) ?_
  refine rn_icmp_ge (tgt := 96) dX8_save_48 (by decide) (ite_go h (fun hc h => ?_) (fun hc h => ?_))
  · refine rn_iinc (x := x3) (v := x3 + 1) (lv' := [(0, .ref 0), (1, .int x1), (2, .int x2), (3, .int (x3 + 1)), (4, .int x4)]) dX8_save_96 (by simp) rfl (by decide) rfl rfl ?_
    refine rn_goto (tgt := 25) dX8_save_99 (by decide) ?_
    refine Rn.sub (lv' := [(0, .ref 0), (1, .int x1), (2, .int x2), (3, .int (x3 + 1))]) (by simp) ?_
    exact h
  · refine rn_iload (x := x4) dX8_save_51 (by simp) ?_
    refine rn_iload_n (i := 1) (x := x1) dX8_save_53 rfl (by simp) ?_
    refine rn_icmp_eq (tgt := 90) dX8_save_54 (by decide) (ite_go h (fun hc h => ?_) (fun hc h => ?_))
    · refine rn_iinc (x := x4) (v := x4 + 1) (lv' := [(0, .ref 0), (1, .int x1), (2, .int x2), (3, .int x3), (4, .int (x4 + 1))]) dX8_save_90 (by simp) rfl (by decide) rfl rfl ?_
      refine rn_goto (tgt := 39) dX8_save_93 (by decide) ?_
      exact h
    · refine rn_aload_n (i := 0) (x := 0) dX8_save_57 rfl (by simp) ?_
      refine rn_getr (t := 27) dX8_save_58 rfl gf_X8_26 rfl rfl ?_
      refine rn_iload_n (i := 3) (x := x3) dX8_save_61 rfl (by simp) ?_
      refine rn_iload (x := x4) dX8_save_62 (by simp) ?_
      refine rn_callVi (as := [.int x3, .int x4]) (st := []) dX8_save_64 mf_X2_canMerge lk_X8_158 im_X2_canMerge rfl rfl rfl rfl (Nat.le_of_ble_eq_true rfl) (Nat.le_of_ble_eq_true rfl) rfl (RI.mono h (fun r2 M1 h => ?_))
      refine rn_if_eq (tgt := 90) dX8_save_67 (by decide) (ite_go h (fun hc h => ?_) (fun hc h => ?_))
      · refine rn_iinc (x := x4) (v := x4 + 1) (lv' := [(0, .ref 0), (1, .int x1), (2, .int x2), (3, .int x3), (4, .int (x4 + 1))]) dX8_save_90 (by simp) rfl (by decide) rfl rfl ?_
        refine rn_goto (tgt := 39) dX8_save_93 (by decide) ?_
        exact h
      · refine rn_aload_n (i := 0) (x := 0) dX8_save_70 rfl (by simp) ?_
        refine rn_iload_n (i := 1) (x := x1) dX8_save_71 rfl (by simp) ?_
        refine rn_iload_n (i := 2) (x := x2) dX8_save_72 rfl (by simp) ?_
        refine rn_iload_n (i := 3) (x := x3) dX8_save_73 rfl (by simp) ?_
        refine rn_iload (x := x4) dX8_save_74 (by simp) ?_
        refine rn_callVi (as := [.int x1, .int x2, .int x3, .int x4]) (st := []) dX8_save_76 mf_X8_isSavedBy lk_X8_225 im_X8_isSavedBy rfl rfl rfl rfl (Nat.le_of_ble_eq_true rfl) (Nat.le_of_ble_eq_true rfl) rfl (RI.mono h (fun r4 M3 h => ?_))
        refine rn_if_eq (tgt := 90) dX8_save_79 (by decide) (ite_go h (fun hc h => ?_) (fun hc h => ?_))
        · refine rn_iinc (x := x4) (v := x4 + 1) (lv' := [(0, .ref 0), (1, .int x1), (2, .int x2), (3, .int x3), (4, .int (x4 + 1))]) dX8_save_90 (by simp) rfl (by decide) rfl rfl ?_
          refine rn_goto (tgt := 39) dX8_save_93 (by decide) ?_
          exact h
        · refine rn_iload_n (i := 3) (x := x3) dX8_save_82 rfl (by simp) ?_
          refine rn_bipush (v := 8) dX8_save_83 rfl ?_
          refine rn_imul dX8_save_85 ?_
          refine rn_iload (x := x4) dX8_save_86 (by simp) ?_
          refine rn_iadd dX8_save_88 ?_
          exact rn_iret dX8_save_89 rfl ⟨_, rfl, h⟩
theorem dX8_isSavedBy_0 : decode μX8_isSavedBy.2.1 0 = .ok (.aload_n 0, 1) := by decide +kernel
theorem dX8_isSavedBy_1 : decode μX8_isSavedBy.2.1 1 = .ok (.getfield 30, 3) := by decide +kernel
theorem dX8_isSavedBy_4 : decode μX8_isSavedBy.2.1 4 = .ok (.aload_n 0, 1) := by decide +kernel
theorem dX8_isSavedBy_5 : decode μX8_isSavedBy.2.1 5 = .ok (.getfield 26, 3) := by decide +kernel
theorem dX8_isSavedBy_8 : decode μX8_isSavedBy.2.1 8 = .ok (.invokevirtual 97, 3) := by decide +kernel
theorem dX8_isSavedBy_11 : decode μX8_isSavedBy.2.1 11 = .ok (.aload_n 0, 1) := by decide +kernel
theorem dX8_isSavedBy_12 : decode μX8_isSavedBy.2.1 12 = .ok (.getfield 30, 3) := by decide +kernel
theorem dX8_isSavedBy_15 : decode μX8_isSavedBy.2.1 15 = .ok (.iload_n 3, 1) := by decide +kernel
theorem dX8_isSavedBy_16 : decode μX8_isSavedBy.2.1 16 = .ok (.iload 4, 2) := by decide +kernel
theorem dX8_isSavedBy_18 : decode μX8_isSavedBy.2.1 18 = .ok (.invokevirtual 195, 3) := by decide +kernel
theorem dX8_isSavedBy_21 : decode μX8_isSavedBy.2.1 21 = .ok (.pop, 1) := by decide +kernel
theorem dX8_isSavedBy_22 : decode μX8_isSavedBy.2.1 22 = .ok (.aload_n 0, 1) := by decide +kernel
theorem dX8_isSavedBy_23 : decode μX8_isSavedBy.2.1 23 = .ok (.getfield 30, 3) := by decide +kernel
theorem dX8_isSavedBy_26 : decode μX8_isSavedBy.2.1 26 = .ok (.iload_n 2, 1) := by decide +kernel
theorem dX8_isSavedBy_27 : decode μX8_isSavedBy.2.1 27 = .ok (.aload_n 0, 1) := by decide +kernel
theorem dX8_isSavedBy_28 : decode μX8_isSavedBy.2.1 28 = .ok (.getfield 19, 3) := by decide +kernel
theorem dX8_isSavedBy_31 : decode μX8_isSavedBy.2.1 31 = .ok (.getfield 129, 3) := by decide +kernel
theorem dX8_isSavedBy_34 : decode μX8_isSavedBy.2.1 34 = .ok (.iconst 0, 1) := by decide +kernel
theorem dX8_isSavedBy_35 : decode μX8_isSavedBy.2.1 35 = .ok (.invokevirtual 221, 3) := by decide +kernel
theorem dX8_isSavedBy_38 : decode μX8_isSavedBy.2.1 38 = .ok (.aload_n 0, 1) := by decide +kernel
theorem dX8_isSavedBy_39 : decode μX8_isSavedBy.2.1 39 = .ok (.getfield 30, 3) := by decide +kernel
theorem dX8_isSavedBy_42 : decode μX8_isSavedBy.2.1 42 = .ok (.iload_n 1, 1) := by decide +kernel
theorem dX8_isSavedBy_43 : decode μX8_isSavedBy.2.1 43 = .ok (.invokevirtual 117, 3) := by decide +kernel
theorem dX8_isSavedBy_46 : decode μX8_isSavedBy.2.1 46 = .ok (.ireturn, 1) := by decide +kernel
set_option maxRecDepth 20000 in
theorem sg_X8_isSavedBy_0 {d : Nat} {x1 : Int32} {x2 : Int32} {x3 : Int32} {x4 : Int32} {M : Mem} {K : (Int32 → Mem → Prop)}  (h : (CV d μX2_copyFrom [.ref 33, .ref 27] M (fun M1 => (CI d μX2_merge [.ref 33, .int x3, .int x4] M1 (fun r3 M2 => (∃ t4, nx (ri M2 0 1) = t4 ∧ kd t4 = (0, 7) ∧ (CV d μX2_passSeasons [.ref 33, .int x2, .ref (t4 + 7), .int 0] M2 (fun M5 => (CI d μX2_isThere [.ref 33, .int x1] M5 (fun r7 M6 => ((r7 = 0 ∨ r7 = 1) ∧ K r7 M6))))))))))) : CI (d + 1) μX8_isSavedBy [.ref 0, .int x1, .int x2, .int x3, .int x4] M K := by
  show Rn (d + 1) μX8_isSavedBy 0 [(0, .ref 0), (1, .int x1), (2, .int x2), (3, .int x3), (4, .int x4)] [] M _
  refine rn_aload_n (i := 0) (x := 0) dX8_isSavedBy_0 rfl (by simp) ?_
  refine rn_getr (t := 33) dX8_isSavedBy_1 rfl gf_X8_30 rfl rfl ?_
  refine rn_aload_n (i := 0) (x := 0) dX8_isSavedBy_4 rfl (by simp) ?_
  refine rn_getr (t := 27) dX8_isSavedBy_5 rfl gf_X8_26 rfl rfl ?_
  refine rn_callVv (as := [.ref 27]) (st := []) dX8_isSavedBy_8 mf_X2_copyFrom lk_X8_97 im_X2_copyFrom rfl rfl rfl rfl (Nat.le_of_ble_eq_true rfl) (Nat.le_of_ble_eq_true rfl) rfl (RV.mono h (fun M1 h => ?_))
  refine rn_aload_n (i := 0) (x := 0) dX8_isSavedBy_11 rfl (by simp) ?_
  refine rn_getr (t := 33) dX8_isSavedBy_12 rfl gf_X8_30 rfl rfl ?_
  refine rn_iload_n (i := 3) (x := x3) dX8_isSavedBy_15 rfl (by simp) ?_
  refine rn_iload (x := x4) dX8_isSavedBy_16 (by simp) ?_
  refine rn_callVi (as := [.int x3, .int x4]) (st := []) dX8_isSavedBy_18 mf_X2_merge lk_X8_195 im_X2_merge rfl rfl rfl rfl (Nat.le_of_ble_eq_true rfl) (Nat.le_of_ble_eq_true rfl) rfl (RI.mono h (fun r3 M2 h => ?_))
  refine rn_pop dX8_isSavedBy_21 rfl ?_
  refine rn_aload_n (i := 0) (x := 0) dX8_isSavedBy_22 rfl (by simp) ?_
  refine rn_getr (t := 33) dX8_isSavedBy_23 rfl gf_X8_30 rfl rfl ?_
  refine rn_iload_n (i := 2) (x := x2) dX8_isSavedBy_26 rfl (by simp) ?_
  refine rn_aload_n (i := 0) (x := 0) dX8_isSavedBy_27 rfl (by simp) ?_
  obtain ⟨t4, ht4e, ht4, h⟩ := h
  refine rn_getd dX8_isSavedBy_28 rfl gf_X8_19 rfl ht4e ?_
  refine rn_getr (t := t4 + 7) dX8_isSavedBy_31 ht4 gf_X8_129 rfl (telling_refs _ ht4).2.1.1 ?_
  refine rn_iconst (v := 0) dX8_isSavedBy_34 rfl ?_
  refine rn_callVv (as := [.int x2, .ref (t4 + 7), .int 0]) (st := []) dX8_isSavedBy_35 mf_X2_passSeasons lk_X8_221 im_X2_passSeasons rfl rfl rfl rfl (Nat.le_of_ble_eq_true rfl) (Nat.le_of_ble_eq_true rfl) rfl (RV.mono h (fun M5 h => ?_))
  refine rn_aload_n (i := 0) (x := 0) dX8_isSavedBy_38 rfl (by simp) ?_
  refine rn_getr (t := 33) dX8_isSavedBy_39 rfl gf_X8_30 rfl rfl ?_
  refine rn_iload_n (i := 1) (x := x1) dX8_isSavedBy_42 rfl (by simp) ?_
  refine rn_callVi (as := [.int x1]) (st := []) dX8_isSavedBy_43 mf_X2_isThere lk_X8_117 im_X2_isThere rfl rfl rfl rfl (Nat.le_of_ble_eq_true rfl) (Nat.le_of_ble_eq_true rfl) rfl (RI.mono h (fun r7 M6 h => ?_))
  exact rn_zret dX8_isSavedBy_46 rfl h.1 ⟨_, rfl, h.2⟩
theorem dX8_boost_0 : decode μX8_boost.2.1 0 = .ok (.aload_n 0, 1) := by decide +kernel
theorem dX8_boost_1 : decode μX8_boost.2.1 1 = .ok (.getfield 26, 3) := by decide +kernel
theorem dX8_boost_4 : decode μX8_boost.2.1 4 = .ok (.iload_n 1, 1) := by decide +kernel
theorem dX8_boost_5 : decode μX8_boost.2.1 5 = .ok (.invokevirtual 117, 3) := by decide +kernel
theorem dX8_boost_8 : decode μX8_boost.2.1 8 = .ok (.ifCond .eq 22, 3) := by decide +kernel
theorem dX8_boost_11 : decode μX8_boost.2.1 11 = .ok (.iload_n 2, 1) := by decide +kernel
theorem dX8_boost_12 : decode μX8_boost.2.1 12 = .ok (.ifCond .lt 18, 3) := by decide +kernel
theorem dX8_boost_15 : decode μX8_boost.2.1 15 = .ok (.iload_n 2, 1) := by decide +kernel
theorem dX8_boost_16 : decode μX8_boost.2.1 16 = .ok (.bipush 30, 2) := by decide +kernel
theorem dX8_boost_18 : decode μX8_boost.2.1 18 = .ok (.if_icmp .gt 12, 3) := by decide +kernel
theorem dX8_boost_21 : decode μX8_boost.2.1 21 = .ok (.iload_n 3, 1) := by decide +kernel
theorem dX8_boost_22 : decode μX8_boost.2.1 22 = .ok (.ifCond .lt 8, 3) := by decide +kernel
theorem dX8_boost_25 : decode μX8_boost.2.1 25 = .ok (.iload_n 3, 1) := by decide +kernel
theorem dX8_boost_26 : decode μX8_boost.2.1 26 = .ok (.iconst 1, 1) := by decide +kernel
theorem dX8_boost_27 : decode μX8_boost.2.1 27 = .ok (.if_icmp .le 5, 3) := by decide +kernel
theorem dX8_boost_30 : decode μX8_boost.2.1 30 = .ok (.iconst (-1), 1) := by decide +kernel
theorem dX8_boost_31 : decode μX8_boost.2.1 31 = .ok (.ireturn, 1) := by decide +kernel
theorem dX8_boost_32 : decode μX8_boost.2.1 32 = .ok (.iconst (-1), 1) := by decide +kernel
theorem dX8_boost_33 : decode μX8_boost.2.1 33 = .ok (.istore 4, 2) := by decide +kernel
theorem dX8_boost_35 : decode μX8_boost.2.1 35 = .ok (.iconst (-1), 1) := by decide +kernel
theorem dX8_boost_36 : decode μX8_boost.2.1 36 = .ok (.istore 5, 2) := by decide +kernel
theorem dX8_boost_38 : decode μX8_boost.2.1 38 = .ok (.iconst 0, 1) := by decide +kernel
theorem dX8_boost_39 : decode μX8_boost.2.1 39 = .ok (.istore 6, 2) := by decide +kernel
theorem dX8_boost_41 : decode μX8_boost.2.1 41 = .ok (.iload 6, 2) := by decide +kernel
theorem dX8_boost_43 : decode μX8_boost.2.1 43 = .ok (.aload_n 0, 1) := by decide +kernel
theorem dX8_boost_44 : decode μX8_boost.2.1 44 = .ok (.getfield 26, 3) := by decide +kernel
theorem dX8_boost_47 : decode μX8_boost.2.1 47 = .ok (.getfield 107, 3) := by decide +kernel
theorem dX8_boost_50 : decode μX8_boost.2.1 50 = .ok (.if_icmp .ge 66, 3) := by decide +kernel
theorem dX8_boost_53 : decode μX8_boost.2.1 53 = .ok (.iload 6, 2) := by decide +kernel
theorem dX8_boost_55 : decode μX8_boost.2.1 55 = .ok (.iconst 1, 1) := by decide +kernel
theorem dX8_boost_56 : decode μX8_boost.2.1 56 = .ok (.iadd, 1) := by decide +kernel
theorem dX8_boost_57 : decode μX8_boost.2.1 57 = .ok (.istore 7, 2) := by decide +kernel
theorem dX8_boost_59 : decode μX8_boost.2.1 59 = .ok (.iload 7, 2) := by decide +kernel
theorem dX8_boost_61 : decode μX8_boost.2.1 61 = .ok (.aload_n 0, 1) := by decide +kernel
theorem dX8_boost_62 : decode μX8_boost.2.1 62 = .ok (.getfield 26, 3) := by decide +kernel
theorem dX8_boost_65 : decode μX8_boost.2.1 65 = .ok (.getfield 107, 3) := by decide +kernel
theorem dX8_boost_68 : decode μX8_boost.2.1 68 = .ok (.if_icmp .ge 42, 3) := by decide +kernel
theorem dX8_boost_71 : decode μX8_boost.2.1 71 = .ok (.aload_n 0, 1) := by decide +kernel
theorem dX8_boost_72 : decode μX8_boost.2.1 72 = .ok (.iload_n 1, 1) := by decide +kernel
theorem dX8_boost_73 : decode μX8_boost.2.1 73 = .ok (.iload_n 2, 1) := by decide +kernel
theorem dX8_boost_74 : decode μX8_boost.2.1 74 = .ok (.iload 6, 2) := by decide +kernel
theorem dX8_boost_76 : decode μX8_boost.2.1 76 = .ok (.iload 7, 2) := by decide +kernel
theorem dX8_boost_78 : decode μX8_boost.2.1 78 = .ok (.invokevirtual 229, 3) := by decide +kernel
theorem dX8_boost_81 : decode μX8_boost.2.1 81 = .ok (.istore 8, 2) := by decide +kernel
theorem dX8_boost_83 : decode μX8_boost.2.1 83 = .ok (.iload 8, 2) := by decide +kernel
theorem dX8_boost_85 : decode μX8_boost.2.1 85 = .ok (.iload 5, 2) := by decide +kernel
theorem dX8_boost_87 : decode μX8_boost.2.1 87 = .ok (.if_icmp .le 17, 3) := by decide +kernel
theorem dX8_boost_90 : decode μX8_boost.2.1 90 = .ok (.iload 8, 2) := by decide +kernel
theorem dX8_boost_92 : decode μX8_boost.2.1 92 = .ok (.istore 5, 2) := by decide +kernel
theorem dX8_boost_94 : decode μX8_boost.2.1 94 = .ok (.iload 6, 2) := by decide +kernel
theorem dX8_boost_96 : decode μX8_boost.2.1 96 = .ok (.bipush 8, 2) := by decide +kernel
theorem dX8_boost_98 : decode μX8_boost.2.1 98 = .ok (.imul, 1) := by decide +kernel
theorem dX8_boost_99 : decode μX8_boost.2.1 99 = .ok (.iload 7, 2) := by decide +kernel
theorem dX8_boost_101 : decode μX8_boost.2.1 101 = .ok (.iadd, 1) := by decide +kernel
theorem dX8_boost_102 : decode μX8_boost.2.1 102 = .ok (.istore 4, 2) := by decide +kernel
theorem dX8_boost_104 : decode μX8_boost.2.1 104 = .ok (.iinc 7 1, 3) := by decide +kernel
theorem dX8_boost_107 : decode μX8_boost.2.1 107 = .ok (.goto (-48), 3) := by decide +kernel
theorem dX8_boost_110 : decode μX8_boost.2.1 110 = .ok (.iinc 6 1, 3) := by decide +kernel
theorem dX8_boost_113 : decode μX8_boost.2.1 113 = .ok (.goto (-72), 3) := by decide +kernel
theorem dX8_boost_116 : decode μX8_boost.2.1 116 = .ok (.iload_n 3, 1) := by decide +kernel
theorem dX8_boost_117 : decode μX8_boost.2.1 117 = .ok (.ifCond .ne 8, 3) := by decide +kernel
theorem dX8_boost_120 : decode μX8_boost.2.1 120 = .ok (.iload 4, 2) := by decide +kernel
theorem dX8_boost_122 : decode μX8_boost.2.1 122 = .ok (.goto 5, 3) := by decide +kernel
theorem dX8_boost_125 : decode μX8_boost.2.1 125 = .ok (.iload 5, 2) := by decide +kernel
theorem dX8_boost_127 : decode μX8_boost.2.1 127 = .ok (.ireturn, 1) := by decide +kernel
set_option maxRecDepth 20000 in
theorem sg_X8_boost_0 {d : Nat} {x1 : Int32} {x2 : Int32} {x3 : Int32} {M : Mem} {K : (Int32 → Mem → Prop)}  (h : (CI d μX2_isThere [.ref 27, .int x1] M (fun r2 M1 => (if r2 = 0 then K ((-1)) M1 else (if x2 < 0 then K ((-1)) M1 else (if 30 < x2 then K ((-1)) M1 else (if x3 < 0 then K ((-1)) M1 else (if x3 ≤ 1 then RI (d + 1) μX8_boost 41 [(0, .ref 0), (1, .int x1), (2, .int x2), (3, .int x3), (4, .int ((-1))), (5, .int ((-1))), (6, .int 0)] [] M1 K else K ((-1)) M1)))))))) : CI (d + 1) μX8_boost [.ref 0, .int x1, .int x2, .int x3] M K := by
  show Rn (d + 1) μX8_boost 0 [(0, .ref 0), (1, .int x1), (2, .int x2), (3, .int x3)] [] M _
  refine rn_aload_n (i := 0) (x := 0) dX8_boost_0 rfl (by simp) ?_
  refine rn_getr (t := 27) dX8_boost_1 rfl gf_X8_26 rfl rfl ?_
  refine rn_iload_n (i := 1) (x := x1) dX8_boost_4 rfl (by simp) ?_
  refine rn_callVi (as := [.int x1]) (st := []) dX8_boost_5 mf_X2_isThere lk_X8_117 im_X2_isThere rfl rfl rfl rfl (Nat.le_of_ble_eq_true rfl) (Nat.le_of_ble_eq_true rfl) rfl (RI.mono h (fun r2 M1 h => ?_))
  refine rn_if_eq (tgt := 30) dX8_boost_8 (by decide) (ite_go h (fun hc h => ?_) (fun hc h => ?_))
  · refine rn_iconst (v := -1) dX8_boost_30 rfl ?_
    exact rn_iret dX8_boost_31 rfl ⟨_, rfl, h⟩
  · refine rn_iload_n (i := 2) (x := x2) dX8_boost_11 rfl (by simp) ?_
    refine rn_if_lt (tgt := 30) dX8_boost_12 (by decide) (ite_go h (fun hc h => ?_) (fun hc h => ?_))
    · refine rn_iconst (v := -1) dX8_boost_30 rfl ?_
      exact rn_iret dX8_boost_31 rfl ⟨_, rfl, h⟩
    · refine rn_iload_n (i := 2) (x := x2) dX8_boost_15 rfl (by simp) ?_
      refine rn_bipush (v := 30) dX8_boost_16 rfl ?_
      refine rn_icmp_gt (tgt := 30) dX8_boost_18 (by decide) (ite_go h (fun hc h => ?_) (fun hc h => ?_))
      · refine rn_iconst (v := -1) dX8_boost_30 rfl ?_
        exact rn_iret dX8_boost_31 rfl ⟨_, rfl, h⟩
      · refine rn_iload_n (i := 3) (x := x3) dX8_boost_21 rfl (by simp) ?_
        refine rn_if_lt (tgt := 30) dX8_boost_22 (by decide) (ite_go h (fun hc h => ?_) (fun hc h => ?_))
        · refine rn_iconst (v := -1) dX8_boost_30 rfl ?_
          exact rn_iret dX8_boost_31 rfl ⟨_, rfl, h⟩
        · refine rn_iload_n (i := 3) (x := x3) dX8_boost_25 rfl (by simp) ?_
          refine rn_iconst (v := 1) dX8_boost_26 rfl ?_
          refine rn_icmp_le (tgt := 32) dX8_boost_27 (by decide) (ite_go h (fun hc h => ?_) (fun hc h => ?_))
          · refine rn_iconst (v := -1) dX8_boost_32 rfl ?_
            refine rn_istore (lv' := [(0, .ref 0), (1, .int x1), (2, .int x2), (3, .int x3), (4, .int ((-1)))]) (hd := dX8_boost_33) (hn := by decide) (hf := rfl) (hl := rfl) ?_
            refine rn_iconst (v := -1) dX8_boost_35 rfl ?_
            refine rn_istore (lv' := [(0, .ref 0), (1, .int x1), (2, .int x2), (3, .int x3), (4, .int ((-1))), (5, .int ((-1)))]) (hd := dX8_boost_36) (hn := by decide) (hf := rfl) (hl := rfl) ?_
            refine rn_iconst (v := 0) dX8_boost_38 rfl ?_
            refine rn_istore (lv' := [(0, .ref 0), (1, .int x1), (2, .int x2), (3, .int x3), (4, .int ((-1))), (5, .int ((-1))), (6, .int 0)]) (hd := dX8_boost_39) (hn := by decide) (hf := rfl) (hl := rfl) ?_
            exact h
          · refine rn_iconst (v := -1) dX8_boost_30 rfl ?_
            exact rn_iret dX8_boost_31 rfl ⟨_, rfl, h⟩
set_option maxRecDepth 20000 in
theorem sg_X8_boost_41 {d : Nat} {x1 : Int32} {x2 : Int32} {x3 : Int32} {x4 : Int32} {x5 : Int32} {x6 : Int32} {M : Mem} {K : (Int32 → Mem → Prop)}  (h : (if ri M 27 0 ≤ x6 then (if x3 = 0 then K x4 M else K x5 M) else RI (d + 1) μX8_boost 59 [(0, .ref 0), (1, .int x1), (2, .int x2), (3, .int x3), (4, .int x4), (5, .int x5), (6, .int x6), (7, .int (x6 + 1))] [] M K)) : RI (d + 1) μX8_boost 41 [(0, .ref 0), (1, .int x1), (2, .int x2), (3, .int x3), (4, .int x4), (5, .int x5), (6, .int x6)] [] M K := by
  show Rn (d + 1) μX8_boost 41 [(0, .ref 0), (1, .int x1), (2, .int x2), (3, .int x3), (4, .int x4), (5, .int x5), (6, .int x6)] [] M _
  refine rn_iload (x := x6) dX8_boost_41 (by simp) ?_
  refine rn_aload_n (i := 0) (x := 0) dX8_boost_43 rfl (by simp) ?_
  refine rn_getr (t := 27) dX8_boost_44 rfl gf_X8_26 rfl rfl ?_
  refine rn_geti dX8_boost_47 rfl gf_X8_107 (by decide) ?_
  refine rn_icmp_ge (tgt := 116) dX8_boost_50 (by decide) (ite_go h (fun hc h => ?_) (fun hc h => ?_))
  · refine rn_iload_n (i := 3) (x := x3) dX8_boost_116 rfl (by simp) ?_
    refine rn_if_ne (tgt := 125) dX8_boost_117 (by decide) (ite_go h (fun hc h => ?_) (fun hc h => ?_))
    · refine rn_iload (x := x4) dX8_boost_120 (by simp) ?_
      refine rn_goto (tgt := 127) dX8_boost_122 (by decide) ?_
      exact rn_iret dX8_boost_127 rfl ⟨_, rfl, h⟩
    · refine rn_iload (x := x5) dX8_boost_125 (by simp) ?_
      exact rn_iret dX8_boost_127 rfl ⟨_, rfl, h⟩
  · refine rn_iload (x := x6) dX8_boost_53 (by simp) ?_
    refine rn_iconst (v := 1) dX8_boost_55 rfl ?_
    refine rn_iadd dX8_boost_56 ?_
    refine rn_istore (lv' := [(0, .ref 0), (1, .int x1), (2, .int x2), (3, .int x3), (4, .int x4), (5, .int x5), (6, .int x6), (7, .int (x6 + 1))]) (hd := dX8_boost_57) (hn := by decide) (hf := rfl) (hl := rfl) ?_
    exact h
set_option maxRecDepth 20000 in
theorem sg_X8_boost_59 {d : Nat} {x1 : Int32} {x2 : Int32} {x3 : Int32} {x4 : Int32} {x5 : Int32} {x6 : Int32} {x7 : Int32} {M : Mem} {K : (Int32 → Mem → Prop)}  (h : (if ri M 27 0 ≤ x7 then RI (d + 1) μX8_boost 41 [(0, .ref 0), (1, .int x1), (2, .int x2), (3, .int x3), (4, .int x4), (5, .int x5), (6, .int (x6 + 1))] [] M K else (CI d μX8_sizeBehindFlip [.ref 0, .int x1, .int x2, .int x6, .int x7] M (fun r2 M1 => (if r2 ≤ x5 then RI (d + 1) μX8_boost 59 [(0, .ref 0), (1, .int x1), (2, .int x2), (3, .int x3), (4, .int x4), (5, .int x5), (6, .int x6), (7, .int (x7 + 1))] [] M1 K else RI (d + 1) μX8_boost 59 [(0, .ref 0), (1, .int x1), (2, .int x2), (3, .int x3), (4, .int ((x6 * 8) + x7)), (5, .int r2), (6, .int x6), (7, .int (x7 + 1))] [] M1 K))))) : RI (d + 1) μX8_boost 59 [(0, .ref 0), (1, .int x1), (2, .int x2), (3, .int x3), (4, .int x4), (5, .int x5), (6, .int x6), (7, .int x7)] [] M K := by
  show Rn (d + 1) μX8_boost 59 [(0, .ref 0), (1, .int x1), (2, .int x2), (3, .int x3), (4, .int x4), (5, .int x5), (6, .int x6), (7, .int x7)] [] M _
  refine rn_iload (x := x7) dX8_boost_59 (by simp) ?_
  refine rn_aload_n (i := 0) (x := 0) dX8_boost_61 rfl (by simp) ?_
  refine rn_getr (t := 27) dX8_boost_62 rfl gf_X8_26 rfl rfl ?_
  refine rn_geti dX8_boost_65 rfl gf_X8_107 (by decide) ?_
  refine rn_icmp_ge (tgt := 110) dX8_boost_68 (by decide) (ite_go h (fun hc h => ?_) (fun hc h => ?_))
  · refine rn_iinc (x := x6) (v := x6 + 1) (lv' := [(0, .ref 0), (1, .int x1), (2, .int x2), (3, .int x3), (4, .int x4), (5, .int x5), (6, .int (x6 + 1)), (7, .int x7)]) dX8_boost_110 (by simp) rfl (by decide) rfl rfl ?_
    refine rn_goto (tgt := 41) dX8_boost_113 (by decide) ?_
    refine Rn.sub (lv' := [(0, .ref 0), (1, .int x1), (2, .int x2), (3, .int x3), (4, .int x4), (5, .int x5), (6, .int (x6 + 1))]) (by simp) ?_
    exact h
  · refine rn_aload_n (i := 0) (x := 0) dX8_boost_71 rfl (by simp) ?_
    refine rn_iload_n (i := 1) (x := x1) dX8_boost_72 rfl (by simp) ?_
    refine rn_iload_n (i := 2) (x := x2) dX8_boost_73 rfl (by simp) ?_
    refine rn_iload (x := x6) dX8_boost_74 (by simp) ?_
    refine rn_iload (x := x7) dX8_boost_76 (by simp) ?_
    refine rn_callVi (as := [.int x1, .int x2, .int x6, .int x7]) (st := []) dX8_boost_78 mf_X8_sizeBehindFlip lk_X8_229 im_X8_sizeBehindFlip rfl rfl rfl rfl (Nat.le_of_ble_eq_true rfl) (Nat.le_of_ble_eq_true rfl) rfl (RI.mono h (fun r2 M1 h => ?_))
    refine rn_istore (lv' := [(0, .ref 0), (1, .int x1), (2, .int x2), (3, .int x3), (4, .int x4), (5, .int x5), (6, .int x6), (7, .int x7), (8, .int r2)]) (hd := dX8_boost_81) (hn := by decide) (hf := rfl) (hl := rfl) ?_
    refine rn_iload (x := r2) dX8_boost_83 (by simp) ?_
    refine rn_iload (x := x5) dX8_boost_85 (by simp) ?_
    refine rn_icmp_le (tgt := 104) dX8_boost_87 (by decide) (ite_go h (fun hc h => ?_) (fun hc h => ?_))
    · refine rn_iinc (x := x7) (v := x7 + 1) (lv' := [(0, .ref 0), (1, .int x1), (2, .int x2), (3, .int x3), (4, .int x4), (5, .int x5), (6, .int x6), (7, .int (x7 + 1)), (8, .int r2)]) dX8_boost_104 (by simp) rfl (by decide) rfl rfl ?_
      refine rn_goto (tgt := 59) dX8_boost_107 (by decide) ?_
      refine Rn.sub (lv' := [(0, .ref 0), (1, .int x1), (2, .int x2), (3, .int x3), (4, .int x4), (5, .int x5), (6, .int x6), (7, .int (x7 + 1))]) (by simp) ?_
      exact h
    · refine rn_iload (x := r2) dX8_boost_90 (by simp) ?_
      refine rn_istore (lv' := [(0, .ref 0), (1, .int x1), (2, .int x2), (3, .int x3), (4, .int x4), (5, .int r2), (6, .int x6), (7, .int x7), (8, .int r2)]) (hd := dX8_boost_92) (hn := by decide) (hf := rfl) (hl := rfl) ?_
      refine rn_iload (x := x6) dX8_boost_94 (by simp) ?_
      refine rn_bipush (v := 8) dX8_boost_96 rfl ?_
      refine rn_imul dX8_boost_98 ?_
      refine rn_iload (x := x7) dX8_boost_99 (by simp) ?_
      refine rn_iadd dX8_boost_101 ?_
      refine rn_istore (lv' := [(0, .ref 0), (1, .int x1), (2, .int x2), (3, .int x3), (4, .int ((x6 * 8) + x7)), (5, .int r2), (6, .int x6), (7, .int x7), (8, .int r2)]) (hd := dX8_boost_102) (hn := by decide) (hf := rfl) (hl := rfl) ?_
      refine rn_iinc (x := x7) (v := x7 + 1) (lv' := [(0, .ref 0), (1, .int x1), (2, .int x2), (3, .int x3), (4, .int ((x6 * 8) + x7)), (5, .int r2), (6, .int x6), (7, .int (x7 + 1)), (8, .int r2)]) dX8_boost_104 (by simp) rfl (by decide) rfl rfl ?_
      refine rn_goto (tgt := 59) dX8_boost_107 (by decide) ?_
      refine Rn.sub (lv' := [(0, .ref 0), (1, .int x1), (2, .int x2), (3, .int x3), (4, .int ((x6 * 8) + x7)), (5, .int r2), (6, .int x6), (7, .int (x7 + 1))]) (by simp) ?_
      exact h
theorem dX8_sizeBehindFlip_0 : decode μX8_sizeBehindFlip.2.1 0 = .ok (.aload_n 0, 1) := by decide +kernel
theorem dX8_sizeBehindFlip_1 : decode μX8_sizeBehindFlip.2.1 1 = .ok (.getfield 26, 3) := by decide +kernel
theorem dX8_sizeBehindFlip_4 : decode μX8_sizeBehindFlip.2.1 4 = .ok (.iload_n 3, 1) := by decide +kernel
theorem dX8_sizeBehindFlip_5 : decode μX8_sizeBehindFlip.2.1 5 = .ok (.iload 4, 2) := by decide +kernel
theorem dX8_sizeBehindFlip_7 : decode μX8_sizeBehindFlip.2.1 7 = .ok (.invokevirtual 154, 3) := by decide +kernel
theorem dX8_sizeBehindFlip_10 : decode μX8_sizeBehindFlip.2.1 10 = .ok (.ifCond .ne 5, 3) := by decide +kernel
theorem dX8_sizeBehindFlip_13 : decode μX8_sizeBehindFlip.2.1 13 = .ok (.iconst (-1), 1) := by decide +kernel
theorem dX8_sizeBehindFlip_14 : decode μX8_sizeBehindFlip.2.1 14 = .ok (.ireturn, 1) := by decide +kernel
theorem dX8_sizeBehindFlip_15 : decode μX8_sizeBehindFlip.2.1 15 = .ok (.aload_n 0, 1) := by decide +kernel
theorem dX8_sizeBehindFlip_16 : decode μX8_sizeBehindFlip.2.1 16 = .ok (.getfield 30, 3) := by decide +kernel
theorem dX8_sizeBehindFlip_19 : decode μX8_sizeBehindFlip.2.1 19 = .ok (.aload_n 0, 1) := by decide +kernel
theorem dX8_sizeBehindFlip_20 : decode μX8_sizeBehindFlip.2.1 20 = .ok (.getfield 26, 3) := by decide +kernel
theorem dX8_sizeBehindFlip_23 : decode μX8_sizeBehindFlip.2.1 23 = .ok (.invokevirtual 97, 3) := by decide +kernel
theorem dX8_sizeBehindFlip_26 : decode μX8_sizeBehindFlip.2.1 26 = .ok (.aload_n 0, 1) := by decide +kernel
theorem dX8_sizeBehindFlip_27 : decode μX8_sizeBehindFlip.2.1 27 = .ok (.getfield 30, 3) := by decide +kernel
theorem dX8_sizeBehindFlip_30 : decode μX8_sizeBehindFlip.2.1 30 = .ok (.iload_n 3, 1) := by decide +kernel
theorem dX8_sizeBehindFlip_31 : decode μX8_sizeBehindFlip.2.1 31 = .ok (.iload 4, 2) := by decide +kernel
theorem dX8_sizeBehindFlip_33 : decode μX8_sizeBehindFlip.2.1 33 = .ok (.invokevirtual 192, 3) := by decide +kernel
theorem dX8_sizeBehindFlip_36 : decode μX8_sizeBehindFlip.2.1 36 = .ok (.pop, 1) := by decide +kernel
theorem dX8_sizeBehindFlip_37 : decode μX8_sizeBehindFlip.2.1 37 = .ok (.aload_n 0, 1) := by decide +kernel
theorem dX8_sizeBehindFlip_38 : decode μX8_sizeBehindFlip.2.1 38 = .ok (.getfield 30, 3) := by decide +kernel
theorem dX8_sizeBehindFlip_41 : decode μX8_sizeBehindFlip.2.1 41 = .ok (.iload_n 2, 1) := by decide +kernel
theorem dX8_sizeBehindFlip_42 : decode μX8_sizeBehindFlip.2.1 42 = .ok (.aload_n 0, 1) := by decide +kernel
theorem dX8_sizeBehindFlip_43 : decode μX8_sizeBehindFlip.2.1 43 = .ok (.getfield 19, 3) := by decide +kernel
theorem dX8_sizeBehindFlip_46 : decode μX8_sizeBehindFlip.2.1 46 = .ok (.getfield 129, 3) := by decide +kernel
theorem dX8_sizeBehindFlip_49 : decode μX8_sizeBehindFlip.2.1 49 = .ok (.iconst 0, 1) := by decide +kernel
theorem dX8_sizeBehindFlip_50 : decode μX8_sizeBehindFlip.2.1 50 = .ok (.invokevirtual 221, 3) := by decide +kernel
theorem dX8_sizeBehindFlip_53 : decode μX8_sizeBehindFlip.2.1 53 = .ok (.aload_n 0, 1) := by decide +kernel
theorem dX8_sizeBehindFlip_54 : decode μX8_sizeBehindFlip.2.1 54 = .ok (.getfield 30, 3) := by decide +kernel
theorem dX8_sizeBehindFlip_57 : decode μX8_sizeBehindFlip.2.1 57 = .ok (.getfield 120, 3) := by decide +kernel
theorem dX8_sizeBehindFlip_60 : decode μX8_sizeBehindFlip.2.1 60 = .ok (.iload_n 1, 1) := by decide +kernel
theorem dX8_sizeBehindFlip_61 : decode μX8_sizeBehindFlip.2.1 61 = .ok (.iaload, 1) := by decide +kernel
theorem dX8_sizeBehindFlip_62 : decode μX8_sizeBehindFlip.2.1 62 = .ok (.ireturn, 1) := by decide +kernel
set_option maxRecDepth 20000 in
theorem sg_X8_sizeBehindFlip_0 {d : Nat} {x1 : Int32} {x2 : Int32} {x3 : Int32} {x4 : Int32} {M : Mem} {K : (Int32 → Mem → Prop)}  (h : (CI d μX2_flippedEnds [.ref 27, .int x3, .int x4] M (fun r2 M1 => (if r2 = 0 then K ((-1)) M1 else (CV d μX2_copyFrom [.ref 33, .ref 27] M1 (fun M3 => (CI d μX2_turnWall [.ref 33, .int x3, .int x4] M3 (fun r5 M4 => (∃ t6, nx (ri M4 0 1) = t6 ∧ kd t6 = (0, 7) ∧ (CV d μX2_passSeasons [.ref 33, .int x2, .ref (t6 + 7), .int 0] M4 (fun M7 => (vp_in x1 8 ∧ K (ri M7 34 (nx x1)) M7)))))))))))) : CI (d + 1) μX8_sizeBehindFlip [.ref 0, .int x1, .int x2, .int x3, .int x4] M K := by
  show Rn (d + 1) μX8_sizeBehindFlip 0 [(0, .ref 0), (1, .int x1), (2, .int x2), (3, .int x3), (4, .int x4)] [] M _
  refine rn_aload_n (i := 0) (x := 0) dX8_sizeBehindFlip_0 rfl (by simp) ?_
  refine rn_getr (t := 27) dX8_sizeBehindFlip_1 rfl gf_X8_26 rfl rfl ?_
  refine rn_iload_n (i := 3) (x := x3) dX8_sizeBehindFlip_4 rfl (by simp) ?_
  refine rn_iload (x := x4) dX8_sizeBehindFlip_5 (by simp) ?_
  refine rn_callVi (as := [.int x3, .int x4]) (st := []) dX8_sizeBehindFlip_7 mf_X2_flippedEnds lk_X8_154 im_X2_flippedEnds rfl rfl rfl rfl (Nat.le_of_ble_eq_true rfl) (Nat.le_of_ble_eq_true rfl) rfl (RI.mono h (fun r2 M1 h => ?_))
  refine rn_if_ne (tgt := 15) dX8_sizeBehindFlip_10 (by decide) (ite_go h (fun hc h => ?_) (fun hc h => ?_))
  · refine rn_iconst (v := -1) dX8_sizeBehindFlip_13 rfl ?_
    exact rn_iret dX8_sizeBehindFlip_14 rfl ⟨_, rfl, h⟩
  · refine rn_aload_n (i := 0) (x := 0) dX8_sizeBehindFlip_15 rfl (by simp) ?_
    refine rn_getr (t := 33) dX8_sizeBehindFlip_16 rfl gf_X8_30 rfl rfl ?_
    refine rn_aload_n (i := 0) (x := 0) dX8_sizeBehindFlip_19 rfl (by simp) ?_
    refine rn_getr (t := 27) dX8_sizeBehindFlip_20 rfl gf_X8_26 rfl rfl ?_
    refine rn_callVv (as := [.ref 27]) (st := []) dX8_sizeBehindFlip_23 mf_X2_copyFrom lk_X8_97 im_X2_copyFrom rfl rfl rfl rfl (Nat.le_of_ble_eq_true rfl) (Nat.le_of_ble_eq_true rfl) rfl (RV.mono h (fun M3 h => ?_))
    refine rn_aload_n (i := 0) (x := 0) dX8_sizeBehindFlip_26 rfl (by simp) ?_
    refine rn_getr (t := 33) dX8_sizeBehindFlip_27 rfl gf_X8_30 rfl rfl ?_
    refine rn_iload_n (i := 3) (x := x3) dX8_sizeBehindFlip_30 rfl (by simp) ?_
    refine rn_iload (x := x4) dX8_sizeBehindFlip_31 (by simp) ?_
    refine rn_callVi (as := [.int x3, .int x4]) (st := []) dX8_sizeBehindFlip_33 mf_X2_turnWall lk_X8_192 im_X2_turnWall rfl rfl rfl rfl (Nat.le_of_ble_eq_true rfl) (Nat.le_of_ble_eq_true rfl) rfl (RI.mono h (fun r5 M4 h => ?_))
    refine rn_pop dX8_sizeBehindFlip_36 rfl ?_
    refine rn_aload_n (i := 0) (x := 0) dX8_sizeBehindFlip_37 rfl (by simp) ?_
    refine rn_getr (t := 33) dX8_sizeBehindFlip_38 rfl gf_X8_30 rfl rfl ?_
    refine rn_iload_n (i := 2) (x := x2) dX8_sizeBehindFlip_41 rfl (by simp) ?_
    refine rn_aload_n (i := 0) (x := 0) dX8_sizeBehindFlip_42 rfl (by simp) ?_
    obtain ⟨t6, ht6e, ht6, h⟩ := h
    refine rn_getd dX8_sizeBehindFlip_43 rfl gf_X8_19 rfl ht6e ?_
    refine rn_getr (t := t6 + 7) dX8_sizeBehindFlip_46 ht6 gf_X8_129 rfl (telling_refs _ ht6).2.1.1 ?_
    refine rn_iconst (v := 0) dX8_sizeBehindFlip_49 rfl ?_
    refine rn_callVv (as := [.int x2, .ref (t6 + 7), .int 0]) (st := []) dX8_sizeBehindFlip_50 mf_X2_passSeasons lk_X8_221 im_X2_passSeasons rfl rfl rfl rfl (Nat.le_of_ble_eq_true rfl) (Nat.le_of_ble_eq_true rfl) rfl (RV.mono h (fun M7 h => ?_))
    refine rn_aload_n (i := 0) (x := 0) dX8_sizeBehindFlip_53 rfl (by simp) ?_
    refine rn_getr (t := 33) dX8_sizeBehindFlip_54 rfl gf_X8_30 rfl rfl ?_
    refine rn_getr (t := 34) dX8_sizeBehindFlip_57 rfl gf_X8_120 rfl rfl ?_
    refine rn_iload_n (i := 1) (x := x1) dX8_sizeBehindFlip_60 rfl (by simp) ?_
    obtain ⟨hi, h⟩ := h
    refine rn_iaload dX8_sizeBehindFlip_61 rfl hi ?_
    exact rn_iret dX8_sizeBehindFlip_62 rfl ⟨_, rfl, h⟩
theorem dX8_pricks_0 : decode μX8_pricks.2.1 0 = .ok (.aload_n 0, 1) := by decide +kernel
theorem dX8_pricks_1 : decode μX8_pricks.2.1 1 = .ok (.iconst 0, 1) := by decide +kernel
theorem dX8_pricks_2 : decode μX8_pricks.2.1 2 = .ok (.putfield 75, 3) := by decide +kernel
theorem dX8_pricks_5 : decode μX8_pricks.2.1 5 = .ok (.aload_n 0, 1) := by decide +kernel
theorem dX8_pricks_6 : decode μX8_pricks.2.1 6 = .ok (.iload_n 1, 1) := by decide +kernel
theorem dX8_pricks_7 : decode μX8_pricks.2.1 7 = .ok (.iload_n 2, 1) := by decide +kernel
theorem dX8_pricks_8 : decode μX8_pricks.2.1 8 = .ok (.invokevirtual 147, 3) := by decide +kernel
theorem dX8_pricks_11 : decode μX8_pricks.2.1 11 = .ok (.ifCond .ne 5, 3) := by decide +kernel
theorem dX8_pricks_14 : decode μX8_pricks.2.1 14 = .ok (.iconst (-1), 1) := by decide +kernel
theorem dX8_pricks_15 : decode μX8_pricks.2.1 15 = .ok (.ireturn, 1) := by decide +kernel
theorem dX8_pricks_16 : decode μX8_pricks.2.1 16 = .ok (.aload_n 0, 1) := by decide +kernel
theorem dX8_pricks_17 : decode μX8_pricks.2.1 17 = .ok (.getfield 58, 3) := by decide +kernel
theorem dX8_pricks_20 : decode μX8_pricks.2.1 20 = .ok (.aload_n 0, 1) := by decide +kernel
theorem dX8_pricks_21 : decode μX8_pricks.2.1 21 = .ok (.getfield 26, 3) := by decide +kernel
theorem dX8_pricks_24 : decode μX8_pricks.2.1 24 = .ok (.aload_n 0, 1) := by decide +kernel
theorem dX8_pricks_25 : decode μX8_pricks.2.1 25 = .ok (.getfield 30, 3) := by decide +kernel
theorem dX8_pricks_28 : decode μX8_pricks.2.1 28 = .ok (.iload_n 1, 1) := by decide +kernel
theorem dX8_pricks_29 : decode μX8_pricks.2.1 29 = .ok (.iload_n 2, 1) := by decide +kernel
theorem dX8_pricks_30 : decode μX8_pricks.2.1 30 = .ok (.invokevirtual 233, 3) := by decide +kernel
theorem dX8_pricks_33 : decode μX8_pricks.2.1 33 = .ok (.istore_n 3, 1) := by decide +kernel
theorem dX8_pricks_34 : decode μX8_pricks.2.1 34 = .ok (.iload_n 3, 1) := by decide +kernel
theorem dX8_pricks_35 : decode μX8_pricks.2.1 35 = .ok (.ifCond .le 34, 3) := by decide +kernel
theorem dX8_pricks_38 : decode μX8_pricks.2.1 38 = .ok (.aload_n 0, 1) := by decide +kernel
theorem dX8_pricks_39 : decode μX8_pricks.2.1 39 = .ok (.getfield 72, 3) := by decide +kernel
theorem dX8_pricks_42 : decode μX8_pricks.2.1 42 = .ok (.iconst 0, 1) := by decide +kernel
theorem dX8_pricks_43 : decode μX8_pricks.2.1 43 = .ok (.aload_n 0, 1) := by decide +kernel
theorem dX8_pricks_44 : decode μX8_pricks.2.1 44 = .ok (.getfield 58, 3) := by decide +kernel
theorem dX8_pricks_47 : decode μX8_pricks.2.1 47 = .ok (.getfield 237, 3) := by decide +kernel
theorem dX8_pricks_50 : decode μX8_pricks.2.1 50 = .ok (.iastore, 1) := by decide +kernel
theorem dX8_pricks_51 : decode μX8_pricks.2.1 51 = .ok (.aload_n 0, 1) := by decide +kernel
theorem dX8_pricks_52 : decode μX8_pricks.2.1 52 = .ok (.getfield 72, 3) := by decide +kernel
theorem dX8_pricks_55 : decode μX8_pricks.2.1 55 = .ok (.iconst 1, 1) := by decide +kernel
theorem dX8_pricks_56 : decode μX8_pricks.2.1 56 = .ok (.aload_n 0, 1) := by decide +kernel
theorem dX8_pricks_57 : decode μX8_pricks.2.1 57 = .ok (.getfield 58, 3) := by decide +kernel
theorem dX8_pricks_60 : decode μX8_pricks.2.1 60 = .ok (.getfield 240, 3) := by decide +kernel
theorem dX8_pricks_63 : decode μX8_pricks.2.1 63 = .ok (.iastore, 1) := by decide +kernel
theorem dX8_pricks_64 : decode μX8_pricks.2.1 64 = .ok (.aload_n 0, 1) := by decide +kernel
theorem dX8_pricks_65 : decode μX8_pricks.2.1 65 = .ok (.iconst 2, 1) := by decide +kernel
theorem dX8_pricks_66 : decode μX8_pricks.2.1 66 = .ok (.putfield 75, 3) := by decide +kernel
theorem dX8_pricks_69 : decode μX8_pricks.2.1 69 = .ok (.iload_n 3, 1) := by decide +kernel
theorem dX8_pricks_70 : decode μX8_pricks.2.1 70 = .ok (.ireturn, 1) := by decide +kernel
set_option maxRecDepth 20000 in
theorem sg_X8_pricks_0 {d : Nat} {x1 : Int32} {x2 : Int32} {M : Mem} {K : (Int32 → Mem → Prop)}  (h : (∀ M1, M1 = wi M 0 12 0 → (CI d μX8_areTwo [.ref 0, .int x1, .int x2] M1 (fun r3 M2 => (if r3 = 0 then K ((-1)) M2 else (CI d μX0_countRests [.ref 45, .ref 27, .ref 33, .int x1, .int x2] M2 (fun r5 M4 => (if r5 ≤ 0 then K r5 M4 else (∀ M6, M6 = wi M4 57 (nx 0) (ri M4 45 0) → (∀ M7, M7 = wi M6 57 (nx 1) (ri M6 45 1) → (∀ M8, M8 = wi M7 0 12 2 → K r5 M8))))))))))) : CI (d + 1) μX8_pricks [.ref 0, .int x1, .int x2] M K := by
  show Rn (d + 1) μX8_pricks 0 [(0, .ref 0), (1, .int x1), (2, .int x2)] [] M _
  refine rn_aload_n (i := 0) (x := 0) dX8_pricks_0 rfl (by simp) ?_
  refine rn_iconst (v := 0) dX8_pricks_1 rfl ?_
  have h := h _ rfl
  refine rn_puti dX8_pricks_2 rfl pf_X8_75 (by decide) rfl rfl ?_
  generalize wi M 0 12 0 = M1 at h ⊢
  refine rn_aload_n (i := 0) (x := 0) dX8_pricks_5 rfl (by simp) ?_
  refine rn_iload_n (i := 1) (x := x1) dX8_pricks_6 rfl (by simp) ?_
  refine rn_iload_n (i := 2) (x := x2) dX8_pricks_7 rfl (by simp) ?_
  refine rn_callVi (as := [.int x1, .int x2]) (st := []) dX8_pricks_8 mf_X8_areTwo lk_X8_147 im_X8_areTwo rfl rfl rfl rfl (Nat.le_of_ble_eq_true rfl) (Nat.le_of_ble_eq_true rfl) rfl (RI.mono h (fun r3 M2 h => ?_))
  refine rn_if_ne (tgt := 16) dX8_pricks_11 (by decide) (ite_go h (fun hc h => ?_) (fun hc h => ?_))
  · refine rn_iconst (v := -1) dX8_pricks_14 rfl ?_
    exact rn_iret dX8_pricks_15 rfl ⟨_, rfl, h⟩
  · refine rn_aload_n (i := 0) (x := 0) dX8_pricks_16 rfl (by simp) ?_
    refine rn_getr (t := 45) dX8_pricks_17 rfl gf_X8_58 rfl rfl ?_
    refine rn_aload_n (i := 0) (x := 0) dX8_pricks_20 rfl (by simp) ?_
    refine rn_getr (t := 27) dX8_pricks_21 rfl gf_X8_26 rfl rfl ?_
    refine rn_aload_n (i := 0) (x := 0) dX8_pricks_24 rfl (by simp) ?_
    refine rn_getr (t := 33) dX8_pricks_25 rfl gf_X8_30 rfl rfl ?_
    refine rn_iload_n (i := 1) (x := x1) dX8_pricks_28 rfl (by simp) ?_
    refine rn_iload_n (i := 2) (x := x2) dX8_pricks_29 rfl (by simp) ?_
    refine rn_callVi (as := [.ref 27, .ref 33, .int x1, .int x2]) (st := []) dX8_pricks_30 mf_X0_countRests lk_X8_233 im_X0_countRests rfl rfl rfl rfl (Nat.le_of_ble_eq_true rfl) (Nat.le_of_ble_eq_true rfl) rfl (RI.mono h (fun r5 M4 h => ?_))
    refine rn_istore_n (lv' := [(0, .ref 0), (1, .int x1), (2, .int x2), (3, .int r5)]) (hd := dX8_pricks_33) (i := 3) (hi := rfl) (hn := by decide) (hf := rfl) (hl := rfl) ?_
    refine rn_iload_n (i := 3) (x := r5) dX8_pricks_34 rfl (by simp) ?_
    refine rn_if_le (tgt := 69) dX8_pricks_35 (by decide) (ite_go h (fun hc h => ?_) (fun hc h => ?_))
    · refine rn_iload_n (i := 3) (x := r5) dX8_pricks_69 rfl (by simp) ?_
      exact rn_iret dX8_pricks_70 rfl ⟨_, rfl, h⟩
    · refine rn_aload_n (i := 0) (x := 0) dX8_pricks_38 rfl (by simp) ?_
      refine rn_getr (t := 57) dX8_pricks_39 rfl gf_X8_72 rfl rfl ?_
      refine rn_iconst (v := 0) dX8_pricks_42 rfl ?_
      refine rn_aload_n (i := 0) (x := 0) dX8_pricks_43 rfl (by simp) ?_
      refine rn_getr (t := 45) dX8_pricks_44 rfl gf_X8_58 rfl rfl ?_
      refine rn_geti dX8_pricks_47 rfl gf_X8_237 (by decide) ?_
      have h := h _ rfl
      refine rn_iastore dX8_pricks_50 rfl (by unfold vp_in; decide) ?_
      generalize wi M4 57 (nx 0) (ri M4 45 0) = M6 at h ⊢
      refine rn_aload_n (i := 0) (x := 0) dX8_pricks_51 rfl (by simp) ?_
      refine rn_getr (t := 57) dX8_pricks_52 rfl gf_X8_72 rfl rfl ?_
      refine rn_iconst (v := 1) dX8_pricks_55 rfl ?_
      refine rn_aload_n (i := 0) (x := 0) dX8_pricks_56 rfl (by simp) ?_
      refine rn_getr (t := 45) dX8_pricks_57 rfl gf_X8_58 rfl rfl ?_
      refine rn_geti dX8_pricks_60 rfl gf_X8_240 (by decide) ?_
      have h := h _ rfl
      refine rn_iastore dX8_pricks_63 rfl (by unfold vp_in; decide) ?_
      generalize wi M6 57 (nx 1) (ri M6 45 1) = M7 at h ⊢
      refine rn_aload_n (i := 0) (x := 0) dX8_pricks_64 rfl (by simp) ?_
      refine rn_iconst (v := 2) dX8_pricks_65 rfl ?_
      have h := h _ rfl
      refine rn_puti dX8_pricks_66 rfl pf_X8_75 (by decide) rfl rfl ?_
      generalize wi M7 0 12 2 = M8 at h ⊢
      refine rn_iload_n (i := 3) (x := r5) dX8_pricks_69 rfl (by simp) ?_
      exact rn_iret dX8_pricks_70 rfl ⟨_, rfl, h⟩
theorem dX8_odds_0 : decode μX8_odds.2.1 0 = .ok (.iload_n 1, 1) := by decide +kernel
theorem dX8_odds_1 : decode μX8_odds.2.1 1 = .ok (.ifCond .lt 17, 3) := by decide +kernel
theorem dX8_odds_4 : decode μX8_odds.2.1 4 = .ok (.iload_n 1, 1) := by decide +kernel
theorem dX8_odds_5 : decode μX8_odds.2.1 5 = .ok (.iconst 4, 1) := by decide +kernel
theorem dX8_odds_6 : decode μX8_odds.2.1 6 = .ok (.if_icmp .gt 12, 3) := by decide +kernel
theorem dX8_odds_9 : decode μX8_odds.2.1 9 = .ok (.iload_n 2, 1) := by decide +kernel
theorem dX8_odds_10 : decode μX8_odds.2.1 10 = .ok (.ifCond .lt 8, 3) := by decide +kernel
theorem dX8_odds_13 : decode μX8_odds.2.1 13 = .ok (.iload_n 2, 1) := by decide +kernel
theorem dX8_odds_14 : decode μX8_odds.2.1 14 = .ok (.iconst 1, 1) := by decide +kernel
theorem dX8_odds_15 : decode μX8_odds.2.1 15 = .ok (.if_icmp .le 5, 3) := by decide +kernel
theorem dX8_odds_18 : decode μX8_odds.2.1 18 = .ok (.iconst (-1), 1) := by decide +kernel
theorem dX8_odds_19 : decode μX8_odds.2.1 19 = .ok (.ireturn, 1) := by decide +kernel
theorem dX8_odds_20 : decode μX8_odds.2.1 20 = .ok (.iconst 1, 1) := by decide +kernel
theorem dX8_odds_21 : decode μX8_odds.2.1 21 = .ok (.istore_n 3, 1) := by decide +kernel
theorem dX8_odds_22 : decode μX8_odds.2.1 22 = .ok (.iconst 1, 1) := by decide +kernel
theorem dX8_odds_23 : decode μX8_odds.2.1 23 = .ok (.istore 4, 2) := by decide +kernel
theorem dX8_odds_25 : decode μX8_odds.2.1 25 = .ok (.iconst 0, 1) := by decide +kernel
theorem dX8_odds_26 : decode μX8_odds.2.1 26 = .ok (.istore 5, 2) := by decide +kernel
theorem dX8_odds_28 : decode μX8_odds.2.1 28 = .ok (.iload 5, 2) := by decide +kernel
theorem dX8_odds_30 : decode μX8_odds.2.1 30 = .ok (.iload_n 1, 1) := by decide +kernel
theorem dX8_odds_31 : decode μX8_odds.2.1 31 = .ok (.if_icmp .ge 29, 3) := by decide +kernel
theorem dX8_odds_34 : decode μX8_odds.2.1 34 = .ok (.iload_n 3, 1) := by decide +kernel
theorem dX8_odds_35 : decode μX8_odds.2.1 35 = .ok (.bipush 100, 2) := by decide +kernel
theorem dX8_odds_37 : decode μX8_odds.2.1 37 = .ok (.aload_n 0, 1) := by decide +kernel
theorem dX8_odds_38 : decode μX8_odds.2.1 38 = .ok (.getfield 19, 3) := by decide +kernel
theorem dX8_odds_41 : decode μX8_odds.2.1 41 = .ok (.getfield 182, 3) := by decide +kernel
theorem dX8_odds_44 : decode μX8_odds.2.1 44 = .ok (.isub, 1) := by decide +kernel
theorem dX8_odds_45 : decode μX8_odds.2.1 45 = .ok (.imul, 1) := by decide +kernel
theorem dX8_odds_46 : decode μX8_odds.2.1 46 = .ok (.istore_n 3, 1) := by decide +kernel
theorem dX8_odds_47 : decode μX8_odds.2.1 47 = .ok (.iload 4, 2) := by decide +kernel
theorem dX8_odds_49 : decode μX8_odds.2.1 49 = .ok (.bipush 100, 2) := by decide +kernel
theorem dX8_odds_51 : decode μX8_odds.2.1 51 = .ok (.imul, 1) := by decide +kernel
theorem dX8_odds_52 : decode μX8_odds.2.1 52 = .ok (.istore 4, 2) := by decide +kernel
theorem dX8_odds_54 : decode μX8_odds.2.1 54 = .ok (.iinc 5 1, 3) := by decide +kernel
theorem dX8_odds_57 : decode μX8_odds.2.1 57 = .ok (.goto (-29), 3) := by decide +kernel
theorem dX8_odds_60 : decode μX8_odds.2.1 60 = .ok (.iload 4, 2) := by decide +kernel
theorem dX8_odds_62 : decode μX8_odds.2.1 62 = .ok (.iload_n 3, 1) := by decide +kernel
theorem dX8_odds_63 : decode μX8_odds.2.1 63 = .ok (.invokestatic 243, 3) := by decide +kernel
theorem dX8_odds_66 : decode μX8_odds.2.1 66 = .ok (.istore 5, 2) := by decide +kernel
theorem dX8_odds_68 : decode μX8_odds.2.1 68 = .ok (.iload 5, 2) := by decide +kernel
theorem dX8_odds_70 : decode μX8_odds.2.1 70 = .ok (.ifCond .ne 5, 3) := by decide +kernel
theorem dX8_odds_73 : decode μX8_odds.2.1 73 = .ok (.iconst (-1), 1) := by decide +kernel
theorem dX8_odds_74 : decode μX8_odds.2.1 74 = .ok (.ireturn, 1) := by decide +kernel
theorem dX8_odds_75 : decode μX8_odds.2.1 75 = .ok (.iload_n 2, 1) := by decide +kernel
theorem dX8_odds_76 : decode μX8_odds.2.1 76 = .ok (.ifCond .ne 10, 3) := by decide +kernel
theorem dX8_odds_79 : decode μX8_odds.2.1 79 = .ok (.iload_n 3, 1) := by decide +kernel
theorem dX8_odds_80 : decode μX8_odds.2.1 80 = .ok (.iload 5, 2) := by decide +kernel
theorem dX8_odds_82 : decode μX8_odds.2.1 82 = .ok (.idiv, 1) := by decide +kernel
theorem dX8_odds_83 : decode μX8_odds.2.1 83 = .ok (.goto 8, 3) := by decide +kernel
theorem dX8_odds_86 : decode μX8_odds.2.1 86 = .ok (.iload 4, 2) := by decide +kernel
theorem dX8_odds_88 : decode μX8_odds.2.1 88 = .ok (.iload 5, 2) := by decide +kernel
theorem dX8_odds_90 : decode μX8_odds.2.1 90 = .ok (.idiv, 1) := by decide +kernel
theorem dX8_odds_91 : decode μX8_odds.2.1 91 = .ok (.ireturn, 1) := by decide +kernel
set_option maxRecDepth 20000 in
theorem sg_X8_odds_0 {d : Nat} {x1 : Int32} {x2 : Int32} {M : Mem} {K : (Int32 → Mem → Prop)}  (h : (if x1 < 0 then K ((-1)) M else (if 4 < x1 then K ((-1)) M else (if x2 < 0 then K ((-1)) M else (if x2 ≤ 1 then RI (d + 1) μX8_odds 28 [(0, .ref 0), (1, .int x1), (2, .int x2), (3, .int 1), (4, .int 1), (5, .int 0)] [] M K else K ((-1)) M))))) : CI (d + 1) μX8_odds [.ref 0, .int x1, .int x2] M K := by
  show Rn (d + 1) μX8_odds 0 [(0, .ref 0), (1, .int x1), (2, .int x2)] [] M _
  refine rn_iload_n (i := 1) (x := x1) dX8_odds_0 rfl (by simp) ?_
  refine rn_if_lt (tgt := 18) dX8_odds_1 (by decide) (ite_go h (fun hc h => ?_) (fun hc h => ?_))
  · refine rn_iconst (v := -1) dX8_odds_18 rfl ?_
    exact rn_iret dX8_odds_19 rfl ⟨_, rfl, h⟩
  · refine rn_iload_n (i := 1) (x := x1) dX8_odds_4 rfl (by simp) ?_
    refine rn_iconst (v := 4) dX8_odds_5 rfl ?_
    refine rn_icmp_gt (tgt := 18) dX8_odds_6 (by decide) (ite_go h (fun hc h => ?_) (fun hc h => ?_))
    · refine rn_iconst (v := -1) dX8_odds_18 rfl ?_
      exact rn_iret dX8_odds_19 rfl ⟨_, rfl, h⟩
    · refine rn_iload_n (i := 2) (x := x2) dX8_odds_9 rfl (by simp) ?_
      refine rn_if_lt (tgt := 18) dX8_odds_10 (by decide) (ite_go h (fun hc h => ?_) (fun hc h => ?_))
      · refine rn_iconst (v := -1) dX8_odds_18 rfl ?_
        exact rn_iret dX8_odds_19 rfl ⟨_, rfl, h⟩
      · refine rn_iload_n (i := 2) (x := x2) dX8_odds_13 rfl (by simp) ?_
        refine rn_iconst (v := 1) dX8_odds_14 rfl ?_
        refine rn_icmp_le (tgt := 20) dX8_odds_15 (by decide) (ite_go h (fun hc h => ?_) (fun hc h => ?_))
        · refine rn_iconst (v := 1) dX8_odds_20 rfl ?_
          refine rn_istore_n (lv' := [(0, .ref 0), (1, .int x1), (2, .int x2), (3, .int 1)]) (hd := dX8_odds_21) (i := 3) (hi := rfl) (hn := by decide) (hf := rfl) (hl := rfl) ?_
          refine rn_iconst (v := 1) dX8_odds_22 rfl ?_
          refine rn_istore (lv' := [(0, .ref 0), (1, .int x1), (2, .int x2), (3, .int 1), (4, .int 1)]) (hd := dX8_odds_23) (hn := by decide) (hf := rfl) (hl := rfl) ?_
          refine rn_iconst (v := 0) dX8_odds_25 rfl ?_
          refine rn_istore (lv' := [(0, .ref 0), (1, .int x1), (2, .int x2), (3, .int 1), (4, .int 1), (5, .int 0)]) (hd := dX8_odds_26) (hn := by decide) (hf := rfl) (hl := rfl) ?_
          exact h
        · refine rn_iconst (v := -1) dX8_odds_18 rfl ?_
          exact rn_iret dX8_odds_19 rfl ⟨_, rfl, h⟩
set_option maxRecDepth 20000 in
theorem sg_X8_odds_28 {d : Nat} {x1 : Int32} {x2 : Int32} {x3 : Int32} {x4 : Int32} {x5 : Int32} {M : Mem} {K : (Int32 → Mem → Prop)}  (h : (if x1 ≤ x5 then (CI d μX8_commonDivisor [.int x4, .int x3] M (fun r2 M1 => (if r2 = 0 then K ((-1)) M1 else (if x2 = 0 then (¬ r2 = 0 ∧ K (x3 / r2) M1) else (¬ r2 = 0 ∧ K (x4 / r2) M1))))) else (∃ t3, nx (ri M 0 1) = t3 ∧ kd t3 = (0, 7) ∧ RI (d + 1) μX8_odds 28 [(0, .ref 0), (1, .int x1), (2, .int x2), (3, .int (x3 * (100 - (ri M t3 3)))), (4, .int (x4 * 100)), (5, .int (x5 + 1))] [] M K))) : RI (d + 1) μX8_odds 28 [(0, .ref 0), (1, .int x1), (2, .int x2), (3, .int x3), (4, .int x4), (5, .int x5)] [] M K := by
  show Rn (d + 1) μX8_odds 28 [(0, .ref 0), (1, .int x1), (2, .int x2), (3, .int x3), (4, .int x4), (5, .int x5)] [] M _
  refine rn_iload (x := x5) dX8_odds_28 (by simp) ?_
  refine rn_iload_n (i := 1) (x := x1) dX8_odds_30 rfl (by simp) ?_
  refine rn_icmp_ge (tgt := 60) dX8_odds_31 (by decide) (ite_go h (fun hc h => ?_) (fun hc h => ?_))
  · refine rn_iload (x := x4) dX8_odds_60 (by simp) ?_
    refine rn_iload_n (i := 3) (x := x3) dX8_odds_62 rfl (by simp) ?_
    refine rn_callSi (as := [.int x4, .int x3]) (st := []) dX8_odds_63 mf_X8_commonDivisor lk_X8_243 sm_X8_commonDivisor rfl (Nat.le_of_ble_eq_true rfl) (Nat.le_of_ble_eq_true rfl) rfl (RI.mono h (fun r2 M1 h => ?_))
    refine rn_istore (lv' := [(0, .ref 0), (1, .int x1), (2, .int x2), (3, .int x3), (4, .int x4), (5, .int r2)]) (hd := dX8_odds_66) (hn := by decide) (hf := rfl) (hl := rfl) ?_
    refine rn_iload (x := r2) dX8_odds_68 (by simp) ?_
    refine rn_if_ne (tgt := 75) dX8_odds_70 (by decide) (ite_go h (fun hc h => ?_) (fun hc h => ?_))
    · refine rn_iconst (v := -1) dX8_odds_73 rfl ?_
      exact rn_iret dX8_odds_74 rfl ⟨_, rfl, h⟩
    · refine rn_iload_n (i := 2) (x := x2) dX8_odds_75 rfl (by simp) ?_
      refine rn_if_ne (tgt := 86) dX8_odds_76 (by decide) (ite_go h (fun hc h => ?_) (fun hc h => ?_))
      · refine rn_iload_n (i := 3) (x := x3) dX8_odds_79 rfl (by simp) ?_
        refine rn_iload (x := r2) dX8_odds_80 (by simp) ?_
        obtain ⟨hne, h⟩ := h
        refine rn_idiv dX8_odds_82 hne ?_
        refine rn_goto (tgt := 91) dX8_odds_83 (by decide) ?_
        exact rn_iret dX8_odds_91 rfl ⟨_, rfl, h⟩
      · refine rn_iload (x := x4) dX8_odds_86 (by simp) ?_
        refine rn_iload (x := r2) dX8_odds_88 (by simp) ?_
        obtain ⟨hne, h⟩ := h
        refine rn_idiv dX8_odds_90 hne ?_
        exact rn_iret dX8_odds_91 rfl ⟨_, rfl, h⟩
  · refine rn_iload_n (i := 3) (x := x3) dX8_odds_34 rfl (by simp) ?_
    refine rn_bipush (v := 100) dX8_odds_35 rfl ?_
    refine rn_aload_n (i := 0) (x := 0) dX8_odds_37 rfl (by simp) ?_
    obtain ⟨t3, ht3e, ht3, h⟩ := h
    refine rn_getd dX8_odds_38 rfl gf_X8_19 rfl ht3e ?_
    refine rn_geti dX8_odds_41 ht3 gf_X8_182 (by decide) ?_
    refine rn_isub dX8_odds_44 ?_
    refine rn_imul dX8_odds_45 ?_
    refine rn_istore_n (lv' := [(0, .ref 0), (1, .int x1), (2, .int x2), (3, .int (x3 * (100 - (ri M t3 3)))), (4, .int x4), (5, .int x5)]) (hd := dX8_odds_46) (i := 3) (hi := rfl) (hn := by decide) (hf := rfl) (hl := rfl) ?_
    refine rn_iload (x := x4) dX8_odds_47 (by simp) ?_
    refine rn_bipush (v := 100) dX8_odds_49 rfl ?_
    refine rn_imul dX8_odds_51 ?_
    refine rn_istore (lv' := [(0, .ref 0), (1, .int x1), (2, .int x2), (3, .int (x3 * (100 - (ri M t3 3)))), (4, .int (x4 * 100)), (5, .int x5)]) (hd := dX8_odds_52) (hn := by decide) (hf := rfl) (hl := rfl) ?_
    refine rn_iinc (x := x5) (v := x5 + 1) (lv' := [(0, .ref 0), (1, .int x1), (2, .int x2), (3, .int (x3 * (100 - (ri M t3 3)))), (4, .int (x4 * 100)), (5, .int (x5 + 1))]) dX8_odds_54 (by simp) rfl (by decide) rfl rfl ?_
    refine rn_goto (tgt := 28) dX8_odds_57 (by decide) ?_
    exact h
theorem dX8_commonDivisor_0 : decode μX8_commonDivisor.2.1 0 = .ok (.iload_n 0, 1) := by decide +kernel
theorem dX8_commonDivisor_1 : decode μX8_commonDivisor.2.1 1 = .ok (.istore_n 2, 1) := by decide +kernel
theorem dX8_commonDivisor_2 : decode μX8_commonDivisor.2.1 2 = .ok (.iload_n 1, 1) := by decide +kernel
theorem dX8_commonDivisor_3 : decode μX8_commonDivisor.2.1 3 = .ok (.istore_n 3, 1) := by decide +kernel
theorem dX8_commonDivisor_4 : decode μX8_commonDivisor.2.1 4 = .ok (.iconst 0, 1) := by decide +kernel
theorem dX8_commonDivisor_5 : decode μX8_commonDivisor.2.1 5 = .ok (.istore 4, 2) := by decide +kernel
theorem dX8_commonDivisor_7 : decode μX8_commonDivisor.2.1 7 = .ok (.iload 4, 2) := by decide +kernel
theorem dX8_commonDivisor_9 : decode μX8_commonDivisor.2.1 9 = .ok (.bipush 64, 2) := by decide +kernel
theorem dX8_commonDivisor_11 : decode μX8_commonDivisor.2.1 11 = .ok (.if_icmp .ge 23, 3) := by decide +kernel
theorem dX8_commonDivisor_14 : decode μX8_commonDivisor.2.1 14 = .ok (.iload_n 3, 1) := by decide +kernel
theorem dX8_commonDivisor_15 : decode μX8_commonDivisor.2.1 15 = .ok (.ifCond .eq 19, 3) := by decide +kernel
theorem dX8_commonDivisor_18 : decode μX8_commonDivisor.2.1 18 = .ok (.iload_n 2, 1) := by decide +kernel
theorem dX8_commonDivisor_19 : decode μX8_commonDivisor.2.1 19 = .ok (.iload_n 3, 1) := by decide +kernel
theorem dX8_commonDivisor_20 : decode μX8_commonDivisor.2.1 20 = .ok (.irem, 1) := by decide +kernel
theorem dX8_commonDivisor_21 : decode μX8_commonDivisor.2.1 21 = .ok (.istore 5, 2) := by decide +kernel
theorem dX8_commonDivisor_23 : decode μX8_commonDivisor.2.1 23 = .ok (.iload_n 3, 1) := by decide +kernel
theorem dX8_commonDivisor_24 : decode μX8_commonDivisor.2.1 24 = .ok (.istore_n 2, 1) := by decide +kernel
theorem dX8_commonDivisor_25 : decode μX8_commonDivisor.2.1 25 = .ok (.iload 5, 2) := by decide +kernel
theorem dX8_commonDivisor_27 : decode μX8_commonDivisor.2.1 27 = .ok (.istore_n 3, 1) := by decide +kernel
theorem dX8_commonDivisor_28 : decode μX8_commonDivisor.2.1 28 = .ok (.iinc 4 1, 3) := by decide +kernel
theorem dX8_commonDivisor_31 : decode μX8_commonDivisor.2.1 31 = .ok (.goto (-24), 3) := by decide +kernel
theorem dX8_commonDivisor_34 : decode μX8_commonDivisor.2.1 34 = .ok (.iload_n 2, 1) := by decide +kernel
theorem dX8_commonDivisor_35 : decode μX8_commonDivisor.2.1 35 = .ok (.ireturn, 1) := by decide +kernel
set_option maxRecDepth 20000 in
theorem sg_X8_commonDivisor_0 {d : Nat} {x0 : Int32} {x1 : Int32} {M : Mem} {K : (Int32 → Mem → Prop)}  (h : RI d μX8_commonDivisor 7 [(0, .int x0), (1, .int x1), (2, .int x0), (3, .int x1), (4, .int 0)] [] M K) : CI d μX8_commonDivisor [.int x0, .int x1] M K := by
  show Rn d μX8_commonDivisor 0 [(0, .int x0), (1, .int x1)] [] M _
  refine rn_iload_n (i := 0) (x := x0) dX8_commonDivisor_0 rfl (by simp) ?_
  refine rn_istore_n (lv' := [(0, .int x0), (1, .int x1), (2, .int x0)]) (hd := dX8_commonDivisor_1) (i := 2) (hi := rfl) (hn := by decide) (hf := rfl) (hl := rfl) ?_
  refine rn_iload_n (i := 1) (x := x1) dX8_commonDivisor_2 rfl (by simp) ?_
  refine rn_istore_n (lv' := [(0, .int x0), (1, .int x1), (2, .int x0), (3, .int x1)]) (hd := dX8_commonDivisor_3) (i := 3) (hi := rfl) (hn := by decide) (hf := rfl) (hl := rfl) ?_
  refine rn_iconst (v := 0) dX8_commonDivisor_4 rfl ?_
  refine rn_istore (lv' := [(0, .int x0), (1, .int x1), (2, .int x0), (3, .int x1), (4, .int 0)]) (hd := dX8_commonDivisor_5) (hn := by decide) (hf := rfl) (hl := rfl) ?_
  exact h
set_option maxRecDepth 20000 in
theorem sg_X8_commonDivisor_7 {d : Nat} {x0 : Int32} {x1 : Int32} {x2 : Int32} {x3 : Int32} {x4 : Int32} {M : Mem} {K : (Int32 → Mem → Prop)}  (h : (if 64 ≤ x4 then K x2 M else (if x3 = 0 then K x2 M else (¬ x3 = 0 ∧ RI d μX8_commonDivisor 7 [(0, .int x0), (1, .int x1), (2, .int x3), (3, .int (x2 - x2 / x3 * x3)), (4, .int (x4 + 1))] [] M K)))) : RI d μX8_commonDivisor 7 [(0, .int x0), (1, .int x1), (2, .int x2), (3, .int x3), (4, .int x4)] [] M K := by
  show Rn d μX8_commonDivisor 7 [(0, .int x0), (1, .int x1), (2, .int x2), (3, .int x3), (4, .int x4)] [] M _
  refine rn_iload (x := x4) dX8_commonDivisor_7 (by simp) ?_
  refine rn_bipush (v := 64) dX8_commonDivisor_9 rfl ?_
  refine rn_icmp_ge (tgt := 34) dX8_commonDivisor_11 (by decide) (ite_go h (fun hc h => ?_) (fun hc h => ?_))
  · refine rn_iload_n (i := 2) (x := x2) dX8_commonDivisor_34 rfl (by simp) ?_
    exact rn_iret dX8_commonDivisor_35 rfl ⟨_, rfl, h⟩
  · refine rn_iload_n (i := 3) (x := x3) dX8_commonDivisor_14 rfl (by simp) ?_
    refine rn_if_eq (tgt := 34) dX8_commonDivisor_15 (by decide) (ite_go h (fun hc h => ?_) (fun hc h => ?_))
    · refine rn_iload_n (i := 2) (x := x2) dX8_commonDivisor_34 rfl (by simp) ?_
      exact rn_iret dX8_commonDivisor_35 rfl ⟨_, rfl, h⟩
    · refine rn_iload_n (i := 2) (x := x2) dX8_commonDivisor_18 rfl (by simp) ?_
      refine rn_iload_n (i := 3) (x := x3) dX8_commonDivisor_19 rfl (by simp) ?_
      obtain ⟨hne, h⟩ := h
      refine rn_irem dX8_commonDivisor_20 hne ?_
      refine rn_istore (lv' := [(0, .int x0), (1, .int x1), (2, .int x2), (3, .int x3), (4, .int x4), (5, .int (x2 - x2 / x3 * x3))]) (hd := dX8_commonDivisor_21) (hn := by decide) (hf := rfl) (hl := rfl) ?_
      refine rn_iload_n (i := 3) (x := x3) dX8_commonDivisor_23 rfl (by simp) ?_
      refine rn_istore_n (lv' := [(0, .int x0), (1, .int x1), (2, .int x3), (3, .int x3), (4, .int x4), (5, .int (x2 - x2 / x3 * x3))]) (hd := dX8_commonDivisor_24) (i := 2) (hi := rfl) (hn := by decide) (hf := rfl) (hl := rfl) ?_
      refine rn_iload (x := x2 - x2 / x3 * x3) dX8_commonDivisor_25 (by simp) ?_
      refine rn_istore_n (lv' := [(0, .int x0), (1, .int x1), (2, .int x3), (3, .int (x2 - x2 / x3 * x3)), (4, .int x4), (5, .int (x2 - x2 / x3 * x3))]) (hd := dX8_commonDivisor_27) (i := 3) (hi := rfl) (hn := by decide) (hf := rfl) (hl := rfl) ?_
      refine rn_iinc (x := x4) (v := x4 + 1) (lv' := [(0, .int x0), (1, .int x1), (2, .int x3), (3, .int (x2 - x2 / x3 * x3)), (4, .int (x4 + 1)), (5, .int (x2 - x2 / x3 * x3))]) dX8_commonDivisor_28 (by simp) rfl (by decide) rfl rfl ?_
      refine rn_goto (tgt := 7) dX8_commonDivisor_31 (by decide) ?_
      refine Rn.sub (lv' := [(0, .int x0), (1, .int x1), (2, .int x3), (3, .int (x2 - x2 / x3 * x3)), (4, .int (x4 + 1))]) (by simp) ?_
      exact h
theorem dX8_far_0 : decode μX8_far.2.1 0 = .ok (.aload_n 0, 1) := by decide +kernel
theorem dX8_far_1 : decode μX8_far.2.1 1 = .ok (.getfield 26, 3) := by decide +kernel
theorem dX8_far_4 : decode μX8_far.2.1 4 = .ok (.iload_n 1, 1) := by decide +kernel
theorem dX8_far_5 : decode μX8_far.2.1 5 = .ok (.invokevirtual 117, 3) := by decide +kernel
theorem dX8_far_8 : decode μX8_far.2.1 8 = .ok (.ifCond .eq 14, 3) := by decide +kernel
theorem dX8_far_11 : decode μX8_far.2.1 11 = .ok (.aload_n 0, 1) := by decide +kernel
theorem dX8_far_12 : decode μX8_far.2.1 12 = .ok (.getfield 26, 3) := by decide +kernel
theorem dX8_far_15 : decode μX8_far.2.1 15 = .ok (.iload_n 2, 1) := by decide +kernel
theorem dX8_far_16 : decode μX8_far.2.1 16 = .ok (.invokevirtual 117, 3) := by decide +kernel
theorem dX8_far_19 : decode μX8_far.2.1 19 = .ok (.ifCond .ne 5, 3) := by decide +kernel
theorem dX8_far_22 : decode μX8_far.2.1 22 = .ok (.iconst (-1), 1) := by decide +kernel
theorem dX8_far_23 : decode μX8_far.2.1 23 = .ok (.ireturn, 1) := by decide +kernel
theorem dX8_far_24 : decode μX8_far.2.1 24 = .ok (.aload_n 0, 1) := by decide +kernel
theorem dX8_far_25 : decode μX8_far.2.1 25 = .ok (.getfield 26, 3) := by decide +kernel
theorem dX8_far_28 : decode μX8_far.2.1 28 = .ok (.iload_n 1, 1) := by decide +kernel
theorem dX8_far_29 : decode μX8_far.2.1 29 = .ok (.iload_n 2, 1) := by decide +kernel
theorem dX8_far_30 : decode μX8_far.2.1 30 = .ok (.invokestatic 246, 3) := by decide +kernel
theorem dX8_far_33 : decode μX8_far.2.1 33 = .ok (.ireturn, 1) := by decide +kernel
set_option maxRecDepth 20000 in
theorem sg_X8_far_0 {d : Nat} {x1 : Int32} {x2 : Int32} {M : Mem} {K : (Int32 → Mem → Prop)}  (h : (CI d μX2_isThere [.ref 27, .int x1] M (fun r2 M1 => (if r2 = 0 then K ((-1)) M1 else (CI d μX2_isThere [.ref 27, .int x2] M1 (fun r4 M3 => (if r4 = 0 then K ((-1)) M3 else (CI d μX5_distance [.ref 27, .int x1, .int x2] M3 (fun r6 M5 => K r6 M5))))))))) : CI (d + 1) μX8_far [.ref 0, .int x1, .int x2] M K := by
  show Rn (d + 1) μX8_far 0 [(0, .ref 0), (1, .int x1), (2, .int x2)] [] M _
  refine rn_aload_n (i := 0) (x := 0) dX8_far_0 rfl (by simp) ?_
  refine rn_getr (t := 27) dX8_far_1 rfl gf_X8_26 rfl rfl ?_
  refine rn_iload_n (i := 1) (x := x1) dX8_far_4 rfl (by simp) ?_
  refine rn_callVi (as := [.int x1]) (st := []) dX8_far_5 mf_X2_isThere lk_X8_117 im_X2_isThere rfl rfl rfl rfl (Nat.le_of_ble_eq_true rfl) (Nat.le_of_ble_eq_true rfl) rfl (RI.mono h (fun r2 M1 h => ?_))
  refine rn_if_eq (tgt := 22) dX8_far_8 (by decide) (ite_go h (fun hc h => ?_) (fun hc h => ?_))
  · refine rn_iconst (v := -1) dX8_far_22 rfl ?_
    exact rn_iret dX8_far_23 rfl ⟨_, rfl, h⟩
  · refine rn_aload_n (i := 0) (x := 0) dX8_far_11 rfl (by simp) ?_
    refine rn_getr (t := 27) dX8_far_12 rfl gf_X8_26 rfl rfl ?_
    refine rn_iload_n (i := 2) (x := x2) dX8_far_15 rfl (by simp) ?_
    refine rn_callVi (as := [.int x2]) (st := []) dX8_far_16 mf_X2_isThere lk_X8_117 im_X2_isThere rfl rfl rfl rfl (Nat.le_of_ble_eq_true rfl) (Nat.le_of_ble_eq_true rfl) rfl (RI.mono h (fun r4 M3 h => ?_))
    refine rn_if_ne (tgt := 24) dX8_far_19 (by decide) (ite_go h (fun hc h => ?_) (fun hc h => ?_))
    · refine rn_iconst (v := -1) dX8_far_22 rfl ?_
      exact rn_iret dX8_far_23 rfl ⟨_, rfl, h⟩
    · refine rn_aload_n (i := 0) (x := 0) dX8_far_24 rfl (by simp) ?_
      refine rn_getr (t := 27) dX8_far_25 rfl gf_X8_26 rfl rfl ?_
      refine rn_iload_n (i := 1) (x := x1) dX8_far_28 rfl (by simp) ?_
      refine rn_iload_n (i := 2) (x := x2) dX8_far_29 rfl (by simp) ?_
      refine rn_callSi (as := [.ref 27, .int x1, .int x2]) (st := []) dX8_far_30 mf_X5_distance lk_X8_246 sm_X5_distance rfl (Nat.le_of_ble_eq_true rfl) (Nat.le_of_ble_eq_true rfl) rfl (RI.mono h (fun r6 M5 h => ?_))
      exact rn_iret dX8_far_33 rfl ⟨_, rfl, h⟩
theorem dX8_banners_0 : decode μX8_banners.2.1 0 = .ok (.aload_n 0, 1) := by decide +kernel
theorem dX8_banners_1 : decode μX8_banners.2.1 1 = .ok (.getfield 51, 3) := by decide +kernel
theorem dX8_banners_4 : decode μX8_banners.2.1 4 = .ok (.aload_n 0, 1) := by decide +kernel
theorem dX8_banners_5 : decode μX8_banners.2.1 5 = .ok (.getfield 26, 3) := by decide +kernel
theorem dX8_banners_8 : decode μX8_banners.2.1 8 = .ok (.invokevirtual 250, 3) := by decide +kernel
theorem dX8_banners_11 : decode μX8_banners.2.1 11 = .ok (.istore_n 1, 1) := by decide +kernel
theorem dX8_banners_12 : decode μX8_banners.2.1 12 = .ok (.aload_n 0, 1) := by decide +kernel
theorem dX8_banners_13 : decode μX8_banners.2.1 13 = .ok (.aload_n 0, 1) := by decide +kernel
theorem dX8_banners_14 : decode μX8_banners.2.1 14 = .ok (.getfield 26, 3) := by decide +kernel
theorem dX8_banners_17 : decode μX8_banners.2.1 17 = .ok (.getfield 107, 3) := by decide +kernel
theorem dX8_banners_20 : decode μX8_banners.2.1 20 = .ok (.invokevirtual 254, 3) := by decide +kernel
theorem dX8_banners_23 : decode μX8_banners.2.1 23 = .ok (.iload_n 1, 1) := by decide +kernel
theorem dX8_banners_24 : decode μX8_banners.2.1 24 = .ok (.ireturn, 1) := by decide +kernel
set_option maxRecDepth 20000 in
theorem sg_X8_banners_0 {d : Nat}  {M : Mem} {K : (Int32 → Mem → Prop)}  (h : (CI d μX5_fewestColours [.ref 42, .ref 27] M (fun r2 M1 => (CV d μX8_layDown [.ref 0, .int (ri M1 27 0)] M1 (fun M3 => K r2 M3))))) : CI (d + 1) μX8_banners [.ref 0] M K := by
  show Rn (d + 1) μX8_banners 0 [(0, .ref 0)] [] M _
  refine rn_aload_n (i := 0) (x := 0) dX8_banners_0 rfl (by simp) ?_
  refine rn_getr (t := 42) dX8_banners_1 rfl gf_X8_51 rfl rfl ?_
  refine rn_aload_n (i := 0) (x := 0) dX8_banners_4 rfl (by simp) ?_
  refine rn_getr (t := 27) dX8_banners_5 rfl gf_X8_26 rfl rfl ?_
  refine rn_callVi (as := [.ref 27]) (st := []) dX8_banners_8 mf_X5_fewestColours lk_X8_250 im_X5_fewestColours rfl rfl rfl rfl (Nat.le_of_ble_eq_true rfl) (Nat.le_of_ble_eq_true rfl) rfl (RI.mono h (fun r2 M1 h => ?_))
  refine rn_istore_n (lv' := [(0, .ref 0), (1, .int r2)]) (hd := dX8_banners_11) (i := 1) (hi := rfl) (hn := by decide) (hf := rfl) (hl := rfl) ?_
  refine rn_aload_n (i := 0) (x := 0) dX8_banners_12 rfl (by simp) ?_
  refine rn_aload_n (i := 0) (x := 0) dX8_banners_13 rfl (by simp) ?_
  refine rn_getr (t := 27) dX8_banners_14 rfl gf_X8_26 rfl rfl ?_
  refine rn_geti dX8_banners_17 rfl gf_X8_107 (by decide) ?_
  refine rn_callVv (as := [.int (ri M1 27 0)]) (st := []) dX8_banners_20 mf_X8_layDown lk_X8_254 im_X8_layDown rfl rfl rfl rfl (Nat.le_of_ble_eq_true rfl) (Nat.le_of_ble_eq_true rfl) rfl (RV.mono h (fun M3 h => ?_))
  refine rn_iload_n (i := 1) (x := r2) dX8_banners_23 rfl (by simp) ?_
  exact rn_iret dX8_banners_24 rfl ⟨_, rfl, h⟩
theorem dX8_peace_0 : decode μX8_peace.2.1 0 = .ok (.aload_n 0, 1) := by decide +kernel
theorem dX8_peace_1 : decode μX8_peace.2.1 1 = .ok (.getfield 51, 3) := by decide +kernel
theorem dX8_peace_4 : decode μX8_peace.2.1 4 = .ok (.aload_n 0, 1) := by decide +kernel
theorem dX8_peace_5 : decode μX8_peace.2.1 5 = .ok (.getfield 26, 3) := by decide +kernel
theorem dX8_peace_8 : decode μX8_peace.2.1 8 = .ok (.invokevirtual 257, 3) := by decide +kernel
theorem dX8_peace_11 : decode μX8_peace.2.1 11 = .ok (.istore_n 1, 1) := by decide +kernel
theorem dX8_peace_12 : decode μX8_peace.2.1 12 = .ok (.aload_n 0, 1) := by decide +kernel
theorem dX8_peace_13 : decode μX8_peace.2.1 13 = .ok (.aload_n 0, 1) := by decide +kernel
theorem dX8_peace_14 : decode μX8_peace.2.1 14 = .ok (.getfield 26, 3) := by decide +kernel
theorem dX8_peace_17 : decode μX8_peace.2.1 17 = .ok (.getfield 107, 3) := by decide +kernel
theorem dX8_peace_20 : decode μX8_peace.2.1 20 = .ok (.invokevirtual 254, 3) := by decide +kernel
theorem dX8_peace_23 : decode μX8_peace.2.1 23 = .ok (.iload_n 1, 1) := by decide +kernel
theorem dX8_peace_24 : decode μX8_peace.2.1 24 = .ok (.ireturn, 1) := by decide +kernel
set_option maxRecDepth 20000 in
theorem sg_X8_peace_0 {d : Nat}  {M : Mem} {K : (Int32 → Mem → Prop)}  (h : (CI d μX5_mostPairs [.ref 42, .ref 27] M (fun r2 M1 => (CV d μX8_layDown [.ref 0, .int (ri M1 27 0)] M1 (fun M3 => K r2 M3))))) : CI (d + 1) μX8_peace [.ref 0] M K := by
  show Rn (d + 1) μX8_peace 0 [(0, .ref 0)] [] M _
  refine rn_aload_n (i := 0) (x := 0) dX8_peace_0 rfl (by simp) ?_
  refine rn_getr (t := 42) dX8_peace_1 rfl gf_X8_51 rfl rfl ?_
  refine rn_aload_n (i := 0) (x := 0) dX8_peace_4 rfl (by simp) ?_
  refine rn_getr (t := 27) dX8_peace_5 rfl gf_X8_26 rfl rfl ?_
  refine rn_callVi (as := [.ref 27]) (st := []) dX8_peace_8 mf_X5_mostPairs lk_X8_257 im_X5_mostPairs rfl rfl rfl rfl (Nat.le_of_ble_eq_true rfl) (Nat.le_of_ble_eq_true rfl) rfl (RI.mono h (fun r2 M1 h => ?_))
  refine rn_istore_n (lv' := [(0, .ref 0), (1, .int r2)]) (hd := dX8_peace_11) (i := 1) (hi := rfl) (hn := by decide) (hf := rfl) (hl := rfl) ?_
  refine rn_aload_n (i := 0) (x := 0) dX8_peace_12 rfl (by simp) ?_
  refine rn_aload_n (i := 0) (x := 0) dX8_peace_13 rfl (by simp) ?_
  refine rn_getr (t := 27) dX8_peace_14 rfl gf_X8_26 rfl rfl ?_
  refine rn_geti dX8_peace_17 rfl gf_X8_107 (by decide) ?_
  refine rn_callVv (as := [.int (ri M1 27 0)]) (st := []) dX8_peace_20 mf_X8_layDown lk_X8_254 im_X8_layDown rfl rfl rfl rfl (Nat.le_of_ble_eq_true rfl) (Nat.le_of_ble_eq_true rfl) rfl (RV.mono h (fun M3 h => ?_))
  refine rn_iload_n (i := 1) (x := r2) dX8_peace_23 rfl (by simp) ?_
  exact rn_iret dX8_peace_24 rfl ⟨_, rfl, h⟩
theorem dX8_hermits_0 : decode μX8_hermits.2.1 0 = .ok (.iload_n 1, 1) := by decide +kernel
theorem dX8_hermits_1 : decode μX8_hermits.2.1 1 = .ok (.ifCond .lt 8, 3) := by decide +kernel
theorem dX8_hermits_4 : decode μX8_hermits.2.1 4 = .ok (.iload_n 1, 1) := by decide +kernel
theorem dX8_hermits_5 : decode μX8_hermits.2.1 5 = .ok (.iconst 1, 1) := by decide +kernel
theorem dX8_hermits_6 : decode μX8_hermits.2.1 6 = .ok (.if_icmp .le 5, 3) := by decide +kernel
theorem dX8_hermits_9 : decode μX8_hermits.2.1 9 = .ok (.iconst (-1), 1) := by decide +kernel
theorem dX8_hermits_10 : decode μX8_hermits.2.1 10 = .ok (.ireturn, 1) := by decide +kernel
theorem dX8_hermits_11 : decode μX8_hermits.2.1 11 = .ok (.aload_n 0, 1) := by decide +kernel
theorem dX8_hermits_12 : decode μX8_hermits.2.1 12 = .ok (.getfield 26, 3) := by decide +kernel
theorem dX8_hermits_15 : decode μX8_hermits.2.1 15 = .ok (.invokestatic 260, 3) := by decide +kernel
theorem dX8_hermits_18 : decode μX8_hermits.2.1 18 = .ok (.istore_n 2, 1) := by decide +kernel
theorem dX8_hermits_19 : decode μX8_hermits.2.1 19 = .ok (.iload_n 1, 1) := by decide +kernel
theorem dX8_hermits_20 : decode μX8_hermits.2.1 20 = .ok (.ifCond .ne 10, 3) := by decide +kernel
theorem dX8_hermits_23 : decode μX8_hermits.2.1 23 = .ok (.iload_n 2, 1) := by decide +kernel
theorem dX8_hermits_24 : decode μX8_hermits.2.1 24 = .ok (.invokestatic 161, 3) := by decide +kernel
theorem dX8_hermits_27 : decode μX8_hermits.2.1 27 = .ok (.goto 4, 3) := by decide +kernel
theorem dX8_hermits_30 : decode μX8_hermits.2.1 30 = .ok (.iload_n 2, 1) := by decide +kernel
theorem dX8_hermits_31 : decode μX8_hermits.2.1 31 = .ok (.ireturn, 1) := by decide +kernel
set_option maxRecDepth 20000 in
theorem sg_X8_hermits_0 {d : Nat} {x1 : Int32} {M : Mem} {K : (Int32 → Mem → Prop)}  (h : (if x1 < 0 then K ((-1)) M else (if x1 ≤ 1 then (CI d μX5_mostApart [.ref 27] M (fun r2 M1 => (if x1 = 0 then (CI d μJ6_bitCount_0f7a4 [.int r2] M1 (fun r4 M3 => K r4 M3)) else K r2 M1))) else K ((-1)) M))) : CI (d + 1) μX8_hermits [.ref 0, .int x1] M K := by
  show Rn (d + 1) μX8_hermits 0 [(0, .ref 0), (1, .int x1)] [] M _
  refine rn_iload_n (i := 1) (x := x1) dX8_hermits_0 rfl (by simp) ?_
  refine rn_if_lt (tgt := 9) dX8_hermits_1 (by decide) (ite_go h (fun hc h => ?_) (fun hc h => ?_))
  · refine rn_iconst (v := -1) dX8_hermits_9 rfl ?_
    exact rn_iret dX8_hermits_10 rfl ⟨_, rfl, h⟩
  · refine rn_iload_n (i := 1) (x := x1) dX8_hermits_4 rfl (by simp) ?_
    refine rn_iconst (v := 1) dX8_hermits_5 rfl ?_
    refine rn_icmp_le (tgt := 11) dX8_hermits_6 (by decide) (ite_go h (fun hc h => ?_) (fun hc h => ?_))
    · refine rn_aload_n (i := 0) (x := 0) dX8_hermits_11 rfl (by simp) ?_
      refine rn_getr (t := 27) dX8_hermits_12 rfl gf_X8_26 rfl rfl ?_
      refine rn_callSi (as := [.ref 27]) (st := []) dX8_hermits_15 mf_X5_mostApart lk_X8_260 sm_X5_mostApart rfl (Nat.le_of_ble_eq_true rfl) (Nat.le_of_ble_eq_true rfl) rfl (RI.mono h (fun r2 M1 h => ?_))
      refine rn_istore_n (lv' := [(0, .ref 0), (1, .int x1), (2, .int r2)]) (hd := dX8_hermits_18) (i := 2) (hi := rfl) (hn := by decide) (hf := rfl) (hl := rfl) ?_
      refine rn_iload_n (i := 1) (x := x1) dX8_hermits_19 rfl (by simp) ?_
      refine rn_if_ne (tgt := 30) dX8_hermits_20 (by decide) (ite_go h (fun hc h => ?_) (fun hc h => ?_))
      · refine rn_iload_n (i := 2) (x := r2) dX8_hermits_23 rfl (by simp) ?_
        refine rn_callSi (as := [.int r2]) (st := []) dX8_hermits_24 mf_J6_bitCount_0f7a4 lk_X8_161 sm_J6_bitCount_0f7a4 rfl (Nat.le_of_ble_eq_true rfl) (Nat.le_of_ble_eq_true rfl) rfl (RI.mono h (fun r4 M3 h => ?_))
        refine rn_goto (tgt := 31) dX8_hermits_27 (by decide) ?_
        exact rn_iret dX8_hermits_31 rfl ⟨_, rfl, h⟩
      · refine rn_iload_n (i := 2) (x := r2) dX8_hermits_30 rfl (by simp) ?_
        exact rn_iret dX8_hermits_31 rfl ⟨_, rfl, h⟩
    · refine rn_iconst (v := -1) dX8_hermits_9 rfl ?_
      exact rn_iret dX8_hermits_10 rfl ⟨_, rfl, h⟩
theorem dX8_cut_0 : decode μX8_cut.2.1 0 = .ok (.aload_n 0, 1) := by decide +kernel
theorem dX8_cut_1 : decode μX8_cut.2.1 1 = .ok (.iload_n 1, 1) := by decide +kernel
theorem dX8_cut_2 : decode μX8_cut.2.1 2 = .ok (.iload_n 2, 1) := by decide +kernel
theorem dX8_cut_3 : decode μX8_cut.2.1 3 = .ok (.invokevirtual 147, 3) := by decide +kernel
theorem dX8_cut_6 : decode μX8_cut.2.1 6 = .ok (.ifCond .eq 24, 3) := by decide +kernel
theorem dX8_cut_9 : decode μX8_cut.2.1 9 = .ok (.aload_n 0, 1) := by decide +kernel
theorem dX8_cut_10 : decode μX8_cut.2.1 10 = .ok (.getfield 26, 3) := by decide +kernel
theorem dX8_cut_13 : decode μX8_cut.2.1 13 = .ok (.iload_n 1, 1) := by decide +kernel
theorem dX8_cut_14 : decode μX8_cut.2.1 14 = .ok (.iload_n 2, 1) := by decide +kernel
theorem dX8_cut_15 : decode μX8_cut.2.1 15 = .ok (.invokevirtual 151, 3) := by decide +kernel
theorem dX8_cut_18 : decode μX8_cut.2.1 18 = .ok (.ifCond .ne 12, 3) := by decide +kernel
theorem dX8_cut_21 : decode μX8_cut.2.1 21 = .ok (.iload_n 3, 1) := by decide +kernel
theorem dX8_cut_22 : decode μX8_cut.2.1 22 = .ok (.ifCond .lt 8, 3) := by decide +kernel
theorem dX8_cut_25 : decode μX8_cut.2.1 25 = .ok (.iload_n 3, 1) := by decide +kernel
theorem dX8_cut_26 : decode μX8_cut.2.1 26 = .ok (.iconst 1, 1) := by decide +kernel
theorem dX8_cut_27 : decode μX8_cut.2.1 27 = .ok (.if_icmp .le 5, 3) := by decide +kernel
theorem dX8_cut_30 : decode μX8_cut.2.1 30 = .ok (.iconst (-1), 1) := by decide +kernel
theorem dX8_cut_31 : decode μX8_cut.2.1 31 = .ok (.ireturn, 1) := by decide +kernel
theorem dX8_cut_32 : decode μX8_cut.2.1 32 = .ok (.aload_n 0, 1) := by decide +kernel
theorem dX8_cut_33 : decode μX8_cut.2.1 33 = .ok (.getfield 26, 3) := by decide +kernel
theorem dX8_cut_36 : decode μX8_cut.2.1 36 = .ok (.iload_n 1, 1) := by decide +kernel
theorem dX8_cut_37 : decode μX8_cut.2.1 37 = .ok (.iload_n 2, 1) := by decide +kernel
theorem dX8_cut_38 : decode μX8_cut.2.1 38 = .ok (.invokestatic 263, 3) := by decide +kernel
theorem dX8_cut_41 : decode μX8_cut.2.1 41 = .ok (.istore 4, 2) := by decide +kernel
theorem dX8_cut_43 : decode μX8_cut.2.1 43 = .ok (.iload_n 3, 1) := by decide +kernel
theorem dX8_cut_44 : decode μX8_cut.2.1 44 = .ok (.ifCond .ne 11, 3) := by decide +kernel
theorem dX8_cut_47 : decode μX8_cut.2.1 47 = .ok (.iload 4, 2) := by decide +kernel
theorem dX8_cut_49 : decode μX8_cut.2.1 49 = .ok (.invokestatic 161, 3) := by decide +kernel
theorem dX8_cut_52 : decode μX8_cut.2.1 52 = .ok (.goto 5, 3) := by decide +kernel
theorem dX8_cut_55 : decode μX8_cut.2.1 55 = .ok (.iload 4, 2) := by decide +kernel
theorem dX8_cut_57 : decode μX8_cut.2.1 57 = .ok (.ireturn, 1) := by decide +kernel
set_option maxRecDepth 20000 in
theorem sg_X8_cut_0 {d : Nat} {x1 : Int32} {x2 : Int32} {x3 : Int32} {M : Mem} {K : (Int32 → Mem → Prop)}  (h : (CI d μX8_areTwo [.ref 0, .int x1, .int x2] M (fun r2 M1 => (if r2 = 0 then K ((-1)) M1 else (CI d μX2_meets [.ref 27, .int x1, .int x2] M1 (fun r4 M3 => (if r4 = 0 then (if x3 < 0 then K ((-1)) M3 else (if x3 ≤ 1 then (CI d μX5_fewestBetween [.ref 27, .int x1, .int x2] M3 (fun r6 M5 => (if x3 = 0 then (CI d μJ6_bitCount_0f7a4 [.int r6] M5 (fun r8 M7 => K r8 M7)) else K r6 M5))) else K ((-1)) M3)) else K ((-1)) M3))))))) : CI (d + 1) μX8_cut [.ref 0, .int x1, .int x2, .int x3] M K := by
  show Rn (d + 1) μX8_cut 0 [(0, .ref 0), (1, .int x1), (2, .int x2), (3, .int x3)] [] M _
  refine rn_aload_n (i := 0) (x := 0) dX8_cut_0 rfl (by simp) ?_
  refine rn_iload_n (i := 1) (x := x1) dX8_cut_1 rfl (by simp) ?_
  refine rn_iload_n (i := 2) (x := x2) dX8_cut_2 rfl (by simp) ?_
  refine rn_callVi (as := [.int x1, .int x2]) (st := []) dX8_cut_3 mf_X8_areTwo lk_X8_147 im_X8_areTwo rfl rfl rfl rfl (Nat.le_of_ble_eq_true rfl) (Nat.le_of_ble_eq_true rfl) rfl (RI.mono h (fun r2 M1 h => ?_))
  refine rn_if_eq (tgt := 30) dX8_cut_6 (by decide) (ite_go h (fun hc h => ?_) (fun hc h => ?_))
  · refine rn_iconst (v := -1) dX8_cut_30 rfl ?_
    exact rn_iret dX8_cut_31 rfl ⟨_, rfl, h⟩
  · refine rn_aload_n (i := 0) (x := 0) dX8_cut_9 rfl (by simp) ?_
    refine rn_getr (t := 27) dX8_cut_10 rfl gf_X8_26 rfl rfl ?_
    refine rn_iload_n (i := 1) (x := x1) dX8_cut_13 rfl (by simp) ?_
    refine rn_iload_n (i := 2) (x := x2) dX8_cut_14 rfl (by simp) ?_
    refine rn_callVi (as := [.int x1, .int x2]) (st := []) dX8_cut_15 mf_X2_meets lk_X8_151 im_X2_meets rfl rfl rfl rfl (Nat.le_of_ble_eq_true rfl) (Nat.le_of_ble_eq_true rfl) rfl (RI.mono h (fun r4 M3 h => ?_))
    refine rn_if_ne (tgt := 30) dX8_cut_18 (by decide) (ite_go h (fun hc h => ?_) (fun hc h => ?_))
    · refine rn_iload_n (i := 3) (x := x3) dX8_cut_21 rfl (by simp) ?_
      refine rn_if_lt (tgt := 30) dX8_cut_22 (by decide) (ite_go h (fun hc h => ?_) (fun hc h => ?_))
      · refine rn_iconst (v := -1) dX8_cut_30 rfl ?_
        exact rn_iret dX8_cut_31 rfl ⟨_, rfl, h⟩
      · refine rn_iload_n (i := 3) (x := x3) dX8_cut_25 rfl (by simp) ?_
        refine rn_iconst (v := 1) dX8_cut_26 rfl ?_
        refine rn_icmp_le (tgt := 32) dX8_cut_27 (by decide) (ite_go h (fun hc h => ?_) (fun hc h => ?_))
        · refine rn_aload_n (i := 0) (x := 0) dX8_cut_32 rfl (by simp) ?_
          refine rn_getr (t := 27) dX8_cut_33 rfl gf_X8_26 rfl rfl ?_
          refine rn_iload_n (i := 1) (x := x1) dX8_cut_36 rfl (by simp) ?_
          refine rn_iload_n (i := 2) (x := x2) dX8_cut_37 rfl (by simp) ?_
          refine rn_callSi (as := [.ref 27, .int x1, .int x2]) (st := []) dX8_cut_38 mf_X5_fewestBetween lk_X8_263 sm_X5_fewestBetween rfl (Nat.le_of_ble_eq_true rfl) (Nat.le_of_ble_eq_true rfl) rfl (RI.mono h (fun r6 M5 h => ?_))
          refine rn_istore (lv' := [(0, .ref 0), (1, .int x1), (2, .int x2), (3, .int x3), (4, .int r6)]) (hd := dX8_cut_41) (hn := by decide) (hf := rfl) (hl := rfl) ?_
          refine rn_iload_n (i := 3) (x := x3) dX8_cut_43 rfl (by simp) ?_
          refine rn_if_ne (tgt := 55) dX8_cut_44 (by decide) (ite_go h (fun hc h => ?_) (fun hc h => ?_))
          · refine rn_iload (x := r6) dX8_cut_47 (by simp) ?_
            refine rn_callSi (as := [.int r6]) (st := []) dX8_cut_49 mf_J6_bitCount_0f7a4 lk_X8_161 sm_J6_bitCount_0f7a4 rfl (Nat.le_of_ble_eq_true rfl) (Nat.le_of_ble_eq_true rfl) rfl (RI.mono h (fun r8 M7 h => ?_))
            refine rn_goto (tgt := 57) dX8_cut_52 (by decide) ?_
            exact rn_iret dX8_cut_57 rfl ⟨_, rfl, h⟩
          · refine rn_iload (x := r6) dX8_cut_55 (by simp) ?_
            exact rn_iret dX8_cut_57 rfl ⟨_, rfl, h⟩
        · refine rn_iconst (v := -1) dX8_cut_30 rfl ?_
          exact rn_iret dX8_cut_31 rfl ⟨_, rfl, h⟩
    · refine rn_iconst (v := -1) dX8_cut_30 rfl ?_
      exact rn_iret dX8_cut_31 rfl ⟨_, rfl, h⟩
theorem dX8_ring_0 : decode μX8_ring.2.1 0 = .ok (.aload_n 0, 1) := by decide +kernel
theorem dX8_ring_1 : decode μX8_ring.2.1 1 = .ok (.iconst 0, 1) := by decide +kernel
theorem dX8_ring_2 : decode μX8_ring.2.1 2 = .ok (.putfield 75, 3) := by decide +kernel
theorem dX8_ring_5 : decode μX8_ring.2.1 5 = .ok (.aload_n 0, 1) := by decide +kernel
theorem dX8_ring_6 : decode μX8_ring.2.1 6 = .ok (.getfield 26, 3) := by decide +kernel
theorem dX8_ring_9 : decode μX8_ring.2.1 9 = .ok (.iload_n 1, 1) := by decide +kernel
theorem dX8_ring_10 : decode μX8_ring.2.1 10 = .ok (.invokevirtual 117, 3) := by decide +kernel
theorem dX8_ring_13 : decode μX8_ring.2.1 13 = .ok (.ifCond .ne 5, 3) := by decide +kernel
theorem dX8_ring_16 : decode μX8_ring.2.1 16 = .ok (.iconst (-1), 1) := by decide +kernel
theorem dX8_ring_17 : decode μX8_ring.2.1 17 = .ok (.ireturn, 1) := by decide +kernel
theorem dX8_ring_18 : decode μX8_ring.2.1 18 = .ok (.aload_n 0, 1) := by decide +kernel
theorem dX8_ring_19 : decode μX8_ring.2.1 19 = .ok (.getfield 51, 3) := by decide +kernel
theorem dX8_ring_22 : decode μX8_ring.2.1 22 = .ok (.aload_n 0, 1) := by decide +kernel
theorem dX8_ring_23 : decode μX8_ring.2.1 23 = .ok (.getfield 26, 3) := by decide +kernel
theorem dX8_ring_26 : decode μX8_ring.2.1 26 = .ok (.iload_n 1, 1) := by decide +kernel
theorem dX8_ring_27 : decode μX8_ring.2.1 27 = .ok (.invokevirtual 266, 3) := by decide +kernel
theorem dX8_ring_30 : decode μX8_ring.2.1 30 = .ok (.istore_n 2, 1) := by decide +kernel
theorem dX8_ring_31 : decode μX8_ring.2.1 31 = .ok (.aload_n 0, 1) := by decide +kernel
theorem dX8_ring_32 : decode μX8_ring.2.1 32 = .ok (.iload_n 2, 1) := by decide +kernel
theorem dX8_ring_33 : decode μX8_ring.2.1 33 = .ok (.invokevirtual 254, 3) := by decide +kernel
theorem dX8_ring_36 : decode μX8_ring.2.1 36 = .ok (.iload_n 2, 1) := by decide +kernel
theorem dX8_ring_37 : decode μX8_ring.2.1 37 = .ok (.ireturn, 1) := by decide +kernel
set_option maxRecDepth 20000 in
theorem sg_X8_ring_0 {d : Nat} {x1 : Int32} {M : Mem} {K : (Int32 → Mem → Prop)}  (h : (∀ M1, M1 = wi M 0 12 0 → (CI d μX2_isThere [.ref 27, .int x1] M1 (fun r3 M2 => (if r3 = 0 then K ((-1)) M2 else (CI d μX5_neighboursInOrder [.ref 42, .ref 27, .int x1] M2 (fun r5 M4 => (CV d μX8_layDown [.ref 0, .int r5] M4 (fun M6 => K r5 M6))))))))) : CI (d + 1) μX8_ring [.ref 0, .int x1] M K := by
  show Rn (d + 1) μX8_ring 0 [(0, .ref 0), (1, .int x1)] [] M _
  refine rn_aload_n (i := 0) (x := 0) dX8_ring_0 rfl (by simp) ?_
  refine rn_iconst (v := 0) dX8_ring_1 rfl ?_
  have h := h _ rfl
  refine rn_puti dX8_ring_2 rfl pf_X8_75 (by decide) rfl rfl ?_
  generalize wi M 0 12 0 = M1 at h ⊢
  refine rn_aload_n (i := 0) (x := 0) dX8_ring_5 rfl (by simp) ?_
  refine rn_getr (t := 27) dX8_ring_6 rfl gf_X8_26 rfl rfl ?_
  refine rn_iload_n (i := 1) (x := x1) dX8_ring_9 rfl (by simp) ?_
  refine rn_callVi (as := [.int x1]) (st := []) dX8_ring_10 mf_X2_isThere lk_X8_117 im_X2_isThere rfl rfl rfl rfl (Nat.le_of_ble_eq_true rfl) (Nat.le_of_ble_eq_true rfl) rfl (RI.mono h (fun r3 M2 h => ?_))
  refine rn_if_ne (tgt := 18) dX8_ring_13 (by decide) (ite_go h (fun hc h => ?_) (fun hc h => ?_))
  · refine rn_iconst (v := -1) dX8_ring_16 rfl ?_
    exact rn_iret dX8_ring_17 rfl ⟨_, rfl, h⟩
  · refine rn_aload_n (i := 0) (x := 0) dX8_ring_18 rfl (by simp) ?_
    refine rn_getr (t := 42) dX8_ring_19 rfl gf_X8_51 rfl rfl ?_
    refine rn_aload_n (i := 0) (x := 0) dX8_ring_22 rfl (by simp) ?_
    refine rn_getr (t := 27) dX8_ring_23 rfl gf_X8_26 rfl rfl ?_
    refine rn_iload_n (i := 1) (x := x1) dX8_ring_26 rfl (by simp) ?_
    refine rn_callVi (as := [.ref 27, .int x1]) (st := []) dX8_ring_27 mf_X5_neighboursInOrder lk_X8_266 im_X5_neighboursInOrder rfl rfl rfl rfl (Nat.le_of_ble_eq_true rfl) (Nat.le_of_ble_eq_true rfl) rfl (RI.mono h (fun r5 M4 h => ?_))
    refine rn_istore_n (lv' := [(0, .ref 0), (1, .int x1), (2, .int r5)]) (hd := dX8_ring_30) (i := 2) (hi := rfl) (hn := by decide) (hf := rfl) (hl := rfl) ?_
    refine rn_aload_n (i := 0) (x := 0) dX8_ring_31 rfl (by simp) ?_
    refine rn_iload_n (i := 2) (x := r5) dX8_ring_32 rfl (by simp) ?_
    refine rn_callVv (as := [.int r5]) (st := []) dX8_ring_33 mf_X8_layDown lk_X8_254 im_X8_layDown rfl rfl rfl rfl (Nat.le_of_ble_eq_true rfl) (Nat.le_of_ble_eq_true rfl) rfl (RV.mono h (fun M6 h => ?_))
    refine rn_iload_n (i := 2) (x := r5) dX8_ring_36 rfl (by simp) ?_
    exact rn_iret dX8_ring_37 rfl ⟨_, rfl, h⟩
theorem dX8_layDown_0 : decode μX8_layDown.2.1 0 = .ok (.aload_n 0, 1) := by decide +kernel
theorem dX8_layDown_1 : decode μX8_layDown.2.1 1 = .ok (.iload_n 1, 1) := by decide +kernel
theorem dX8_layDown_2 : decode μX8_layDown.2.1 2 = .ok (.aload_n 0, 1) := by decide +kernel
theorem dX8_layDown_3 : decode μX8_layDown.2.1 3 = .ok (.getfield 72, 3) := by decide +kernel
theorem dX8_layDown_6 : decode μX8_layDown.2.1 6 = .ok (.arraylength, 1) := by decide +kernel
theorem dX8_layDown_7 : decode μX8_layDown.2.1 7 = .ok (.invokestatic 198, 3) := by decide +kernel
theorem dX8_layDown_10 : decode μX8_layDown.2.1 10 = .ok (.putfield 75, 3) := by decide +kernel
theorem dX8_layDown_13 : decode μX8_layDown.2.1 13 = .ok (.iconst 0, 1) := by decide +kernel
theorem dX8_layDown_14 : decode μX8_layDown.2.1 14 = .ok (.istore_n 2, 1) := by decide +kernel
theorem dX8_layDown_15 : decode μX8_layDown.2.1 15 = .ok (.iload_n 2, 1) := by decide +kernel
theorem dX8_layDown_16 : decode μX8_layDown.2.1 16 = .ok (.aload_n 0, 1) := by decide +kernel
theorem dX8_layDown_17 : decode μX8_layDown.2.1 17 = .ok (.getfield 75, 3) := by decide +kernel
theorem dX8_layDown_20 : decode μX8_layDown.2.1 20 = .ok (.if_icmp .ge 24, 3) := by decide +kernel
theorem dX8_layDown_23 : decode μX8_layDown.2.1 23 = .ok (.aload_n 0, 1) := by decide +kernel
theorem dX8_layDown_24 : decode μX8_layDown.2.1 24 = .ok (.getfield 72, 3) := by decide +kernel
theorem dX8_layDown_27 : decode μX8_layDown.2.1 27 = .ok (.iload_n 2, 1) := by decide +kernel
theorem dX8_layDown_28 : decode μX8_layDown.2.1 28 = .ok (.aload_n 0, 1) := by decide +kernel
theorem dX8_layDown_29 : decode μX8_layDown.2.1 29 = .ok (.getfield 51, 3) := by decide +kernel
theorem dX8_layDown_32 : decode μX8_layDown.2.1 32 = .ok (.getfield 270, 3) := by decide +kernel
theorem dX8_layDown_35 : decode μX8_layDown.2.1 35 = .ok (.iload_n 2, 1) := by decide +kernel
theorem dX8_layDown_36 : decode μX8_layDown.2.1 36 = .ok (.iaload, 1) := by decide +kernel
theorem dX8_layDown_37 : decode μX8_layDown.2.1 37 = .ok (.iastore, 1) := by decide +kernel
theorem dX8_layDown_38 : decode μX8_layDown.2.1 38 = .ok (.iinc 2 1, 3) := by decide +kernel
theorem dX8_layDown_41 : decode μX8_layDown.2.1 41 = .ok (.goto (-26), 3) := by decide +kernel
theorem dX8_layDown_44 : decode μX8_layDown.2.1 44 = .ok (.return_, 1) := by decide +kernel
set_option maxRecDepth 20000 in
theorem sg_X8_layDown_0 {d : Nat} {x1 : Int32} {M : Mem} {K : (Mem → Prop)}  (h : (∀ M1, M1 = wi M 0 12 (if Int32.ofNat 8 < x1 then Int32.ofNat 8 else x1) → RV (d + 1) μX8_layDown 15 [(0, .ref 0), (1, .int x1), (2, .int 0)] [] M1 K)) : CV (d + 1) μX8_layDown [.ref 0, .int x1] M K := by
  show Rn (d + 1) μX8_layDown 0 [(0, .ref 0), (1, .int x1)] [] M _
  refine rn_aload_n (i := 0) (x := 0) dX8_layDown_0 rfl (by simp) ?_
  refine rn_iload_n (i := 1) (x := x1) dX8_layDown_1 rfl (by simp) ?_
  refine rn_aload_n (i := 0) (x := 0) dX8_layDown_2 rfl (by simp) ?_
  refine rn_getr (t := 57) dX8_layDown_3 rfl gf_X8_72 rfl rfl ?_
  refine rn_alen_i (v := Int32.ofNat 8) dX8_layDown_6 rfl rfl ?_
  refine rn_mmin dX8_layDown_7 mi_X8_198 (Nat.le_of_ble_eq_true rfl) ?_
  have h := h _ rfl
  refine rn_puti dX8_layDown_10 rfl pf_X8_75 (by decide) rfl rfl ?_
  generalize wi M 0 12 (if Int32.ofNat 8 < x1 then Int32.ofNat 8 else x1) = M1 at h ⊢
  refine rn_iconst (v := 0) dX8_layDown_13 rfl ?_
  refine rn_istore_n (lv' := [(0, .ref 0), (1, .int x1), (2, .int 0)]) (hd := dX8_layDown_14) (i := 2) (hi := rfl) (hn := by decide) (hf := rfl) (hl := rfl) ?_
  exact h
set_option maxRecDepth 20000 in
theorem sg_X8_layDown_15 {d : Nat} {x1 : Int32} {x2 : Int32} {M : Mem} {K : (Mem → Prop)}  (h : (if ri M 0 12 ≤ x2 then K M else (vp_in x2 8 ∧ (vp_in x2 8 ∧ ∀ M1, M1 = wi M 57 (nx x2) (ri M 43 (nx x2)) → RV (d + 1) μX8_layDown 15 [(0, .ref 0), (1, .int x1), (2, .int (x2 + 1))] [] M1 K)))) : RV (d + 1) μX8_layDown 15 [(0, .ref 0), (1, .int x1), (2, .int x2)] [] M K := by
  show Rn (d + 1) μX8_layDown 15 [(0, .ref 0), (1, .int x1), (2, .int x2)] [] M _
  refine rn_iload_n (i := 2) (x := x2) dX8_layDown_15 rfl (by simp) ?_
  refine rn_aload_n (i := 0) (x := 0) dX8_layDown_16 rfl (by simp) ?_
  refine rn_geti dX8_layDown_17 rfl gf_X8_75 (by decide) ?_
  refine rn_icmp_ge (tgt := 44) dX8_layDown_20 (by decide) (ite_go h (fun hc h => ?_) (fun hc h => ?_))
  · exact rn_ret dX8_layDown_44 rfl ⟨rfl, h⟩
  · refine rn_aload_n (i := 0) (x := 0) dX8_layDown_23 rfl (by simp) ?_
    refine rn_getr (t := 57) dX8_layDown_24 rfl gf_X8_72 rfl rfl ?_
    refine rn_iload_n (i := 2) (x := x2) dX8_layDown_27 rfl (by simp) ?_
    refine rn_aload_n (i := 0) (x := 0) dX8_layDown_28 rfl (by simp) ?_
    refine rn_getr (t := 42) dX8_layDown_29 rfl gf_X8_51 rfl rfl ?_
    refine rn_getr (t := 43) dX8_layDown_32 rfl gf_X8_270 rfl rfl ?_
    refine rn_iload_n (i := 2) (x := x2) dX8_layDown_35 rfl (by simp) ?_
    obtain ⟨hi, h⟩ := h
    refine rn_iaload dX8_layDown_36 rfl hi ?_
    obtain ⟨hi, h⟩ := h
    have h := h _ rfl
    refine rn_iastore dX8_layDown_37 rfl hi ?_
    generalize wi M 57 (nx x2) (ri M 43 (nx x2)) = M1 at h ⊢
    refine rn_iinc (x := x2) (v := x2 + 1) (lv' := [(0, .ref 0), (1, .int x1), (2, .int (x2 + 1))]) dX8_layDown_38 (by simp) rfl (by decide) rfl rfl ?_
    refine rn_goto (tgt := 15) dX8_layDown_41 (by decide) ?_
    exact h
theorem dX8_lies_0 : decode μX8_lies.2.1 0 = .ok (.iload_n 1, 1) := by decide +kernel
theorem dX8_lies_1 : decode μX8_lies.2.1 1 = .ok (.ifCond .lt 20, 3) := by decide +kernel
theorem dX8_lies_4 : decode μX8_lies.2.1 4 = .ok (.iload_n 1, 1) := by decide +kernel
theorem dX8_lies_5 : decode μX8_lies.2.1 5 = .ok (.aload_n 0, 1) := by decide +kernel
theorem dX8_lies_6 : decode μX8_lies.2.1 6 = .ok (.getfield 75, 3) := by decide +kernel
theorem dX8_lies_9 : decode μX8_lies.2.1 9 = .ok (.if_icmp .ge 12, 3) := by decide +kernel
theorem dX8_lies_12 : decode μX8_lies.2.1 12 = .ok (.aload_n 0, 1) := by decide +kernel
theorem dX8_lies_13 : decode μX8_lies.2.1 13 = .ok (.getfield 72, 3) := by decide +kernel
theorem dX8_lies_16 : decode μX8_lies.2.1 16 = .ok (.iload_n 1, 1) := by decide +kernel
theorem dX8_lies_17 : decode μX8_lies.2.1 17 = .ok (.iaload, 1) := by decide +kernel
theorem dX8_lies_18 : decode μX8_lies.2.1 18 = .ok (.goto 5, 3) := by decide +kernel
theorem dX8_lies_21 : decode μX8_lies.2.1 21 = .ok (.bipush (-2), 2) := by decide +kernel
theorem dX8_lies_23 : decode μX8_lies.2.1 23 = .ok (.ireturn, 1) := by decide +kernel
set_option maxRecDepth 20000 in
theorem sg_X8_lies_0 {d : Nat} {x1 : Int32} {M : Mem} {K : (Int32 → Mem → Prop)}  (h : (if x1 < 0 then K ((-2)) M else (if ri M 0 12 ≤ x1 then K ((-2)) M else (vp_in x1 8 ∧ K (ri M 57 (nx x1)) M)))) : CI d μX8_lies [.ref 0, .int x1] M K := by
  show Rn d μX8_lies 0 [(0, .ref 0), (1, .int x1)] [] M _
  refine rn_iload_n (i := 1) (x := x1) dX8_lies_0 rfl (by simp) ?_
  refine rn_if_lt (tgt := 21) dX8_lies_1 (by decide) (ite_go h (fun hc h => ?_) (fun hc h => ?_))
  · refine rn_bipush (v := -2) dX8_lies_21 rfl ?_
    exact rn_iret dX8_lies_23 rfl ⟨_, rfl, h⟩
  · refine rn_iload_n (i := 1) (x := x1) dX8_lies_4 rfl (by simp) ?_
    refine rn_aload_n (i := 0) (x := 0) dX8_lies_5 rfl (by simp) ?_
    refine rn_geti dX8_lies_6 rfl gf_X8_75 (by decide) ?_
    refine rn_icmp_ge (tgt := 21) dX8_lies_9 (by decide) (ite_go h (fun hc h => ?_) (fun hc h => ?_))
    · refine rn_bipush (v := -2) dX8_lies_21 rfl ?_
      exact rn_iret dX8_lies_23 rfl ⟨_, rfl, h⟩
    · refine rn_aload_n (i := 0) (x := 0) dX8_lies_12 rfl (by simp) ?_
      refine rn_getr (t := 57) dX8_lies_13 rfl gf_X8_72 rfl rfl ?_
      refine rn_iload_n (i := 1) (x := x1) dX8_lies_16 rfl (by simp) ?_
      obtain ⟨hi, h⟩ := h
      refine rn_iaload dX8_lies_17 rfl hi ?_
      refine rn_goto (tgt := 23) dX8_lies_18 (by decide) ?_
      exact rn_iret dX8_lies_23 rfl ⟨_, rfl, h⟩
theorem dX8_seen_0 : decode μX8_seen.2.1 0 = .ok (.iload_n 1, 1) := by decide +kernel
theorem dX8_seen_1 : decode μX8_seen.2.1 1 = .ok (.ifCond .lt 23, 3) := by decide +kernel
theorem dX8_seen_4 : decode μX8_seen.2.1 4 = .ok (.iload_n 1, 1) := by decide +kernel
theorem dX8_seen_5 : decode μX8_seen.2.1 5 = .ok (.bipush 13, 2) := by decide +kernel
theorem dX8_seen_7 : decode μX8_seen.2.1 7 = .ok (.if_icmp .ge 17, 3) := by decide +kernel
theorem dX8_seen_10 : decode μX8_seen.2.1 10 = .ok (.iload_n 2, 1) := by decide +kernel
theorem dX8_seen_11 : decode μX8_seen.2.1 11 = .ok (.ifCond .lt 13, 3) := by decide +kernel
theorem dX8_seen_14 : decode μX8_seen.2.1 14 = .ok (.iload_n 2, 1) := by decide +kernel
theorem dX8_seen_15 : decode μX8_seen.2.1 15 = .ok (.bipush 9, 2) := by decide +kernel
theorem dX8_seen_17 : decode μX8_seen.2.1 17 = .ok (.if_icmp .ge 7, 3) := by decide +kernel
theorem dX8_seen_20 : decode μX8_seen.2.1 20 = .ok (.iconst 1, 1) := by decide +kernel
theorem dX8_seen_21 : decode μX8_seen.2.1 21 = .ok (.goto 4, 3) := by decide +kernel
theorem dX8_seen_24 : decode μX8_seen.2.1 24 = .ok (.iconst 0, 1) := by decide +kernel
theorem dX8_seen_25 : decode μX8_seen.2.1 25 = .ok (.istore 4, 2) := by decide +kernel
theorem dX8_seen_27 : decode μX8_seen.2.1 27 = .ok (.iload 4, 2) := by decide +kernel
theorem dX8_seen_29 : decode μX8_seen.2.1 29 = .ok (.ifCond .eq 16, 3) := by decide +kernel
theorem dX8_seen_32 : decode μX8_seen.2.1 32 = .ok (.aload_n 0, 1) := by decide +kernel
theorem dX8_seen_33 : decode μX8_seen.2.1 33 = .ok (.getfield 19, 3) := by decide +kernel
theorem dX8_seen_36 : decode μX8_seen.2.1 36 = .ok (.getfield 94, 3) := by decide +kernel
theorem dX8_seen_39 : decode μX8_seen.2.1 39 = .ok (.getfield 107, 3) := by decide +kernel
theorem dX8_seen_42 : decode μX8_seen.2.1 42 = .ok (.ifCond .ne 5, 3) := by decide +kernel
theorem dX8_seen_45 : decode μX8_seen.2.1 45 = .ok (.iconst (-1), 1) := by decide +kernel
theorem dX8_seen_46 : decode μX8_seen.2.1 46 = .ok (.ireturn, 1) := by decide +kernel
theorem dX8_seen_47 : decode μX8_seen.2.1 47 = .ok (.aload_n 0, 1) := by decide +kernel
theorem dX8_seen_48 : decode μX8_seen.2.1 48 = .ok (.getfield 65, 3) := by decide +kernel
theorem dX8_seen_51 : decode μX8_seen.2.1 51 = .ok (.iload_n 1, 1) := by decide +kernel
theorem dX8_seen_52 : decode μX8_seen.2.1 52 = .ok (.iload_n 2, 1) := by decide +kernel
theorem dX8_seen_53 : decode μX8_seen.2.1 53 = .ok (.iload_n 3, 1) := by decide +kernel
theorem dX8_seen_54 : decode μX8_seen.2.1 54 = .ok (.aload_n 0, 1) := by decide +kernel
theorem dX8_seen_55 : decode μX8_seen.2.1 55 = .ok (.getfield 69, 3) := by decide +kernel
theorem dX8_seen_58 : decode μX8_seen.2.1 58 = .ok (.invokevirtual 273, 3) := by decide +kernel
theorem dX8_seen_61 : decode μX8_seen.2.1 61 = .ok (.ireturn, 1) := by decide +kernel
set_option maxRecDepth 20000 in
theorem sg_X8_seen_0 {d : Nat} {x1 : Int32} {x2 : Int32} {x3 : Int32} {M : Mem} {K : (Int32 → Mem → Prop)}  (h : (if x1 < 0 then RI (d + 1) μX8_seen 25 [(0, .ref 0), (1, .int x1), (2, .int x2), (3, .int x3)] [.int 0] M K else (if 13 ≤ x1 then RI (d + 1) μX8_seen 25 [(0, .ref 0), (1, .int x1), (2, .int x2), (3, .int x3)] [.int 0] M K else (if x2 < 0 then RI (d + 1) μX8_seen 25 [(0, .ref 0), (1, .int x1), (2, .int x2), (3, .int x3)] [.int 0] M K else (if 9 ≤ x2 then RI (d + 1) μX8_seen 25 [(0, .ref 0), (1, .int x1), (2, .int x2), (3, .int x3)] [.int 0] M K else RI (d + 1) μX8_seen 25 [(0, .ref 0), (1, .int x1), (2, .int x2), (3, .int x3)] [.int 1] M K))))) : CI (d + 1) μX8_seen [.ref 0, .int x1, .int x2, .int x3] M K := by
  show Rn (d + 1) μX8_seen 0 [(0, .ref 0), (1, .int x1), (2, .int x2), (3, .int x3)] [] M _
  refine rn_iload_n (i := 1) (x := x1) dX8_seen_0 rfl (by simp) ?_
  refine rn_if_lt (tgt := 24) dX8_seen_1 (by decide) (ite_go h (fun hc h => ?_) (fun hc h => ?_))
  · refine rn_iconst (v := 0) dX8_seen_24 rfl ?_
    exact h
  · refine rn_iload_n (i := 1) (x := x1) dX8_seen_4 rfl (by simp) ?_
    refine rn_bipush (v := 13) dX8_seen_5 rfl ?_
    refine rn_icmp_ge (tgt := 24) dX8_seen_7 (by decide) (ite_go h (fun hc h => ?_) (fun hc h => ?_))
    · refine rn_iconst (v := 0) dX8_seen_24 rfl ?_
      exact h
    · refine rn_iload_n (i := 2) (x := x2) dX8_seen_10 rfl (by simp) ?_
      refine rn_if_lt (tgt := 24) dX8_seen_11 (by decide) (ite_go h (fun hc h => ?_) (fun hc h => ?_))
      · refine rn_iconst (v := 0) dX8_seen_24 rfl ?_
        exact h
      · refine rn_iload_n (i := 2) (x := x2) dX8_seen_14 rfl (by simp) ?_
        refine rn_bipush (v := 9) dX8_seen_15 rfl ?_
        refine rn_icmp_ge (tgt := 24) dX8_seen_17 (by decide) (ite_go h (fun hc h => ?_) (fun hc h => ?_))
        · refine rn_iconst (v := 0) dX8_seen_24 rfl ?_
          exact h
        · refine rn_iconst (v := 1) dX8_seen_20 rfl ?_
          refine rn_goto (tgt := 25) dX8_seen_21 (by decide) ?_
          exact h
set_option maxRecDepth 20000 in
theorem sg_X8_seen_25 {d : Nat} {x1 : Int32} {x2 : Int32} {x3 : Int32} {y0 : Int32} {M : Mem} {K : (Int32 → Mem → Prop)}  (h : (if y0 = 0 then K ((-1)) M else (∃ t1, nx (ri M 0 1) = t1 ∧ kd t1 = (0, 7) ∧ (if ri M (t1 + 1) 0 = 0 then K ((-1)) M else (CI d μX4_tell [.ref 48, .int x1, .int x2, .int x3, .int (ri M 0 10)] M (fun r3 M2 => K r3 M2)))))) : RI (d + 1) μX8_seen 25 [(0, .ref 0), (1, .int x1), (2, .int x2), (3, .int x3)] [.int y0] M K := by
  show Rn (d + 1) μX8_seen 25 [(0, .ref 0), (1, .int x1), (2, .int x2), (3, .int x3)] [.int y0] M _
  refine rn_istore (lv' := [(0, .ref 0), (1, .int x1), (2, .int x2), (3, .int x3), (4, .int y0)]) (hd := dX8_seen_25) (hn := by decide) (hf := rfl) (hl := rfl) ?_
  refine rn_iload (x := y0) dX8_seen_27 (by simp) ?_
  refine rn_if_eq (tgt := 45) dX8_seen_29 (by decide) (ite_go h (fun hc h => ?_) (fun hc h => ?_))
  · refine rn_iconst (v := -1) dX8_seen_45 rfl ?_
    exact rn_iret dX8_seen_46 rfl ⟨_, rfl, h⟩
  · refine rn_aload_n (i := 0) (x := 0) dX8_seen_32 rfl (by simp) ?_
    obtain ⟨t1, ht1e, ht1, h⟩ := h
    refine rn_getd dX8_seen_33 rfl gf_X8_19 rfl ht1e ?_
    refine rn_getr (t := t1 + 1) dX8_seen_36 ht1 gf_X8_94 rfl (telling_refs _ ht1).1.1 ?_
    refine rn_geti dX8_seen_39 (telling_refs _ ht1).1.2 gf_X8_107 (by decide) ?_
    refine rn_if_ne (tgt := 47) dX8_seen_42 (by decide) (ite_go h (fun hc h => ?_) (fun hc h => ?_))
    · refine rn_iconst (v := -1) dX8_seen_45 rfl ?_
      exact rn_iret dX8_seen_46 rfl ⟨_, rfl, h⟩
    · refine rn_aload_n (i := 0) (x := 0) dX8_seen_47 rfl (by simp) ?_
      refine rn_getr (t := 48) dX8_seen_48 rfl gf_X8_65 rfl rfl ?_
      refine rn_iload_n (i := 1) (x := x1) dX8_seen_51 rfl (by simp) ?_
      refine rn_iload_n (i := 2) (x := x2) dX8_seen_52 rfl (by simp) ?_
      refine rn_iload_n (i := 3) (x := x3) dX8_seen_53 rfl (by simp) ?_
      refine rn_aload_n (i := 0) (x := 0) dX8_seen_54 rfl (by simp) ?_
      refine rn_geti dX8_seen_55 rfl gf_X8_69 (by decide) ?_
      refine rn_callVi (as := [.int x1, .int x2, .int x3, .int (ri M 0 10)]) (st := []) dX8_seen_58 mf_X4_tell lk_X8_273 im_X4_tell rfl rfl rfl rfl (Nat.le_of_ble_eq_true rfl) (Nat.le_of_ble_eq_true rfl) rfl (RI.mono h (fun r3 M2 h => ?_))
      exact rn_iret dX8_seen_61 rfl ⟨_, rfl, h⟩
theorem dX8_untell_0 : decode μX8_untell.2.1 0 = .ok (.aload_n 0, 1) := by decide +kernel
theorem dX8_untell_1 : decode μX8_untell.2.1 1 = .ok (.getfield 65, 3) := by decide +kernel
theorem dX8_untell_4 : decode μX8_untell.2.1 4 = .ok (.iload_n 1, 1) := by decide +kernel
theorem dX8_untell_5 : decode μX8_untell.2.1 5 = .ok (.aload_n 0, 1) := by decide +kernel
theorem dX8_untell_6 : decode μX8_untell.2.1 6 = .ok (.getfield 69, 3) := by decide +kernel
theorem dX8_untell_9 : decode μX8_untell.2.1 9 = .ok (.invokevirtual 277, 3) := by decide +kernel
theorem dX8_untell_12 : decode μX8_untell.2.1 12 = .ok (.ireturn, 1) := by decide +kernel
set_option maxRecDepth 20000 in
theorem sg_X8_untell_0 {d : Nat} {x1 : Int32} {M : Mem} {K : (Int32 → Mem → Prop)}  (h : (CI d μX4_takeBack [.ref 48, .int x1, .int (ri M 0 10)] M (fun r2 M1 => ((r2 = 0 ∨ r2 = 1) ∧ K r2 M1)))) : CI (d + 1) μX8_untell [.ref 0, .int x1] M K := by
  show Rn (d + 1) μX8_untell 0 [(0, .ref 0), (1, .int x1)] [] M _
  refine rn_aload_n (i := 0) (x := 0) dX8_untell_0 rfl (by simp) ?_
  refine rn_getr (t := 48) dX8_untell_1 rfl gf_X8_65 rfl rfl ?_
  refine rn_iload_n (i := 1) (x := x1) dX8_untell_4 rfl (by simp) ?_
  refine rn_aload_n (i := 0) (x := 0) dX8_untell_5 rfl (by simp) ?_
  refine rn_geti dX8_untell_6 rfl gf_X8_69 (by decide) ?_
  refine rn_callVi (as := [.int x1, .int (ri M 0 10)]) (st := []) dX8_untell_9 mf_X4_takeBack lk_X8_277 im_X4_takeBack rfl rfl rfl rfl (Nat.le_of_ble_eq_true rfl) (Nat.le_of_ble_eq_true rfl) rfl (RI.mono h (fun r2 M1 h => ?_))
  exact rn_zret dX8_untell_12 rfl h.1 ⟨_, rfl, h.2⟩
theorem dX8_later_0 : decode μX8_later.2.1 0 = .ok (.iload_n 1, 1) := by decide +kernel
theorem dX8_later_1 : decode μX8_later.2.1 1 = .ok (.ifCond .lt 22, 3) := by decide +kernel
theorem dX8_later_4 : decode μX8_later.2.1 4 = .ok (.iload_n 1, 1) := by decide +kernel
theorem dX8_later_5 : decode μX8_later.2.1 5 = .ok (.sipush 1000, 3) := by decide +kernel
theorem dX8_later_8 : decode μX8_later.2.1 8 = .ok (.if_icmp .gt 15, 3) := by decide +kernel
theorem dX8_later_11 : decode μX8_later.2.1 11 = .ok (.aload_n 0, 1) := by decide +kernel
theorem dX8_later_12 : decode μX8_later.2.1 12 = .ok (.getfield 69, 3) := by decide +kernel
theorem dX8_later_15 : decode μX8_later.2.1 15 = .ok (.iload_n 1, 1) := by decide +kernel
theorem dX8_later_16 : decode μX8_later.2.1 16 = .ok (.iadd, 1) := by decide +kernel
theorem dX8_later_17 : decode μX8_later.2.1 17 = .ok (.ldc_w 280, 3) := by decide +kernel
theorem dX8_later_20 : decode μX8_later.2.1 20 = .ok (.if_icmp .le 5, 3) := by decide +kernel
theorem dX8_later_23 : decode μX8_later.2.1 23 = .ok (.iconst (-1), 1) := by decide +kernel
theorem dX8_later_24 : decode μX8_later.2.1 24 = .ok (.ireturn, 1) := by decide +kernel
theorem dX8_later_25 : decode μX8_later.2.1 25 = .ok (.aload_n 0, 1) := by decide +kernel
theorem dX8_later_26 : decode μX8_later.2.1 26 = .ok (.dup, 1) := by decide +kernel
theorem dX8_later_27 : decode μX8_later.2.1 27 = .ok (.getfield 69, 3) := by decide +kernel
theorem dX8_later_30 : decode μX8_later.2.1 30 = .ok (.iload_n 1, 1) := by decide +kernel
theorem dX8_later_31 : decode μX8_later.2.1 31 = .ok (.iadd, 1) := by decide +kernel
theorem dX8_later_32 : decode μX8_later.2.1 32 = .ok (.putfield 69, 3) := by decide +kernel
theorem dX8_later_35 : decode μX8_later.2.1 35 = .ok (.aload_n 0, 1) := by decide +kernel
theorem dX8_later_36 : decode μX8_later.2.1 36 = .ok (.getfield 69, 3) := by decide +kernel
theorem dX8_later_39 : decode μX8_later.2.1 39 = .ok (.ireturn, 1) := by decide +kernel
set_option maxRecDepth 20000 in
theorem sg_X8_later_0 {d : Nat} {x1 : Int32} {M : Mem} {K : (Int32 → Mem → Prop)}  (h : (if x1 < 0 then K ((-1)) M else (if 1000 < x1 then K ((-1)) M else (if (ri M 0 10) + x1 ≤ 100000 then (∀ M1, M1 = wi M 0 10 ((ri M 0 10) + x1) → K (ri M1 0 10) M1) else K ((-1)) M)))) : CI d μX8_later [.ref 0, .int x1] M K := by
  show Rn d μX8_later 0 [(0, .ref 0), (1, .int x1)] [] M _
  refine rn_iload_n (i := 1) (x := x1) dX8_later_0 rfl (by simp) ?_
  refine rn_if_lt (tgt := 23) dX8_later_1 (by decide) (ite_go h (fun hc h => ?_) (fun hc h => ?_))
  · refine rn_iconst (v := -1) dX8_later_23 rfl ?_
    exact rn_iret dX8_later_24 rfl ⟨_, rfl, h⟩
  · refine rn_iload_n (i := 1) (x := x1) dX8_later_4 rfl (by simp) ?_
    refine rn_sipush (v := 1000) dX8_later_5 rfl ?_
    refine rn_icmp_gt (tgt := 23) dX8_later_8 (by decide) (ite_go h (fun hc h => ?_) (fun hc h => ?_))
    · refine rn_iconst (v := -1) dX8_later_23 rfl ?_
      exact rn_iret dX8_later_24 rfl ⟨_, rfl, h⟩
    · refine rn_aload_n (i := 0) (x := 0) dX8_later_11 rfl (by simp) ?_
      refine rn_geti dX8_later_12 rfl gf_X8_69 (by decide) ?_
      refine rn_iload_n (i := 1) (x := x1) dX8_later_15 rfl (by simp) ?_
      refine rn_iadd dX8_later_16 ?_
      refine rn_ldcw (v := 100000) dX8_later_17 lk_X8_280 ?_
      refine rn_icmp_le (tgt := 25) dX8_later_20 (by decide) (ite_go h (fun hc h => ?_) (fun hc h => ?_))
      · refine rn_aload_n (i := 0) (x := 0) dX8_later_25 rfl (by simp) ?_
        refine rn_dup dX8_later_26 rfl ?_
        refine rn_geti dX8_later_27 rfl gf_X8_69 (by decide) ?_
        refine rn_iload_n (i := 1) (x := x1) dX8_later_30 rfl (by simp) ?_
        refine rn_iadd dX8_later_31 ?_
        have h := h _ rfl
        refine rn_puti dX8_later_32 rfl pf_X8_69 (by decide) rfl rfl ?_
        generalize wi M 0 10 ((ri M 0 10) + x1) = M1 at h ⊢
        refine rn_aload_n (i := 0) (x := 0) dX8_later_35 rfl (by simp) ?_
        refine rn_geti dX8_later_36 rfl gf_X8_69 (by decide) ?_
        exact rn_iret dX8_later_39 rfl ⟨_, rfl, h⟩
      · refine rn_iconst (v := -1) dX8_later_23 rfl ?_
        exact rn_iret dX8_later_24 rfl ⟨_, rfl, h⟩
theorem dX8_fits_0 : decode μX8_fits.2.1 0 = .ok (.aload_n 0, 1) := by decide +kernel
theorem dX8_fits_1 : decode μX8_fits.2.1 1 = .ok (.getfield 65, 3) := by decide +kernel
theorem dX8_fits_4 : decode μX8_fits.2.1 4 = .ok (.iload_n 1, 1) := by decide +kernel
theorem dX8_fits_5 : decode μX8_fits.2.1 5 = .ok (.aload_n 0, 1) := by decide +kernel
theorem dX8_fits_6 : decode μX8_fits.2.1 6 = .ok (.getfield 19, 3) := by decide +kernel
theorem dX8_fits_9 : decode μX8_fits.2.1 9 = .ok (.aload_n 0, 1) := by decide +kernel
theorem dX8_fits_10 : decode μX8_fits.2.1 10 = .ok (.getfield 30, 3) := by decide +kernel
theorem dX8_fits_13 : decode μX8_fits.2.1 13 = .ok (.invokevirtual 281, 3) := by decide +kernel
theorem dX8_fits_16 : decode μX8_fits.2.1 16 = .ok (.ireturn, 1) := by decide +kernel
set_option maxRecDepth 20000 in
theorem sg_X8_fits_0 {d : Nat} {x1 : Int32} {M : Mem} {K : (Int32 → Mem → Prop)}  (h : (∃ t1, nx (ri M 0 1) = t1 ∧ kd t1 = (0, 7) ∧ (CI d μX4_findFits [.ref 48, .int x1, .ref t1, .ref 33] M (fun r3 M2 => K r3 M2)))) : CI (d + 1) μX8_fits [.ref 0, .int x1] M K := by
  show Rn (d + 1) μX8_fits 0 [(0, .ref 0), (1, .int x1)] [] M _
  refine rn_aload_n (i := 0) (x := 0) dX8_fits_0 rfl (by simp) ?_
  refine rn_getr (t := 48) dX8_fits_1 rfl gf_X8_65 rfl rfl ?_
  refine rn_iload_n (i := 1) (x := x1) dX8_fits_4 rfl (by simp) ?_
  refine rn_aload_n (i := 0) (x := 0) dX8_fits_5 rfl (by simp) ?_
  obtain ⟨t1, ht1e, ht1, h⟩ := h
  refine rn_getd dX8_fits_6 rfl gf_X8_19 rfl ht1e ?_
  refine rn_aload_n (i := 0) (x := 0) dX8_fits_9 rfl (by simp) ?_
  refine rn_getr (t := 33) dX8_fits_10 rfl gf_X8_30 rfl rfl ?_
  refine rn_callVi (as := [.int x1, .ref t1, .ref 33]) (st := []) dX8_fits_13 mf_X4_findFits lk_X8_281 im_X4_findFits rfl rfl rfl rfl (Nat.le_of_ble_eq_true rfl) (Nat.le_of_ble_eq_true rfl) rfl (RI.mono h (fun r3 M2 h => ?_))
  exact rn_iret dX8_fits_16 rfl ⟨_, rfl, h⟩
theorem dX8_sure_0 : decode μX8_sure.2.1 0 = .ok (.iload_n 1, 1) := by decide +kernel
theorem dX8_sure_1 : decode μX8_sure.2.1 1 = .ok (.ifCond .lt 27, 3) := by decide +kernel
theorem dX8_sure_4 : decode μX8_sure.2.1 4 = .ok (.iload_n 1, 1) := by decide +kernel
theorem dX8_sure_5 : decode μX8_sure.2.1 5 = .ok (.iconst 1, 1) := by decide +kernel
theorem dX8_sure_6 : decode μX8_sure.2.1 6 = .ok (.if_icmp .gt 22, 3) := by decide +kernel
theorem dX8_sure_9 : decode μX8_sure.2.1 9 = .ok (.aload_n 0, 1) := by decide +kernel
theorem dX8_sure_10 : decode μX8_sure.2.1 10 = .ok (.getfield 65, 3) := by decide +kernel
theorem dX8_sure_13 : decode μX8_sure.2.1 13 = .ok (.iload_n 2, 1) := by decide +kernel
theorem dX8_sure_14 : decode μX8_sure.2.1 14 = .ok (.aload_n 0, 1) := by decide +kernel
theorem dX8_sure_15 : decode μX8_sure.2.1 15 = .ok (.getfield 19, 3) := by decide +kernel
theorem dX8_sure_18 : decode μX8_sure.2.1 18 = .ok (.aload_n 0, 1) := by decide +kernel
theorem dX8_sure_19 : decode μX8_sure.2.1 19 = .ok (.getfield 30, 3) := by decide +kernel
theorem dX8_sure_22 : decode μX8_sure.2.1 22 = .ok (.invokevirtual 281, 3) := by decide +kernel
theorem dX8_sure_25 : decode μX8_sure.2.1 25 = .ok (.ifCond .ne 5, 3) := by decide +kernel
theorem dX8_sure_28 : decode μX8_sure.2.1 28 = .ok (.iconst (-1), 1) := by decide +kernel
theorem dX8_sure_29 : decode μX8_sure.2.1 29 = .ok (.ireturn, 1) := by decide +kernel
theorem dX8_sure_30 : decode μX8_sure.2.1 30 = .ok (.iload_n 1, 1) := by decide +kernel
theorem dX8_sure_31 : decode μX8_sure.2.1 31 = .ok (.ifCond .ne 13, 3) := by decide +kernel
theorem dX8_sure_34 : decode μX8_sure.2.1 34 = .ok (.aload_n 0, 1) := by decide +kernel
theorem dX8_sure_35 : decode μX8_sure.2.1 35 = .ok (.getfield 65, 3) := by decide +kernel
theorem dX8_sure_38 : decode μX8_sure.2.1 38 = .ok (.invokevirtual 285, 3) := by decide +kernel
theorem dX8_sure_41 : decode μX8_sure.2.1 41 = .ok (.goto 10, 3) := by decide +kernel
theorem dX8_sure_44 : decode μX8_sure.2.1 44 = .ok (.aload_n 0, 1) := by decide +kernel
theorem dX8_sure_45 : decode μX8_sure.2.1 45 = .ok (.getfield 65, 3) := by decide +kernel
theorem dX8_sure_48 : decode μX8_sure.2.1 48 = .ok (.invokevirtual 288, 3) := by decide +kernel
theorem dX8_sure_51 : decode μX8_sure.2.1 51 = .ok (.ireturn, 1) := by decide +kernel
set_option maxRecDepth 20000 in
theorem sg_X8_sure_0 {d : Nat} {x1 : Int32} {x2 : Int32} {M : Mem} {K : (Int32 → Mem → Prop)}  (h : (if x1 < 0 then K ((-1)) M else (if 1 < x1 then K ((-1)) M else (∃ t1, nx (ri M 0 1) = t1 ∧ kd t1 = (0, 7) ∧ (CI d μX4_findFits [.ref 48, .int x2, .ref t1, .ref 33] M (fun r3 M2 => (if r3 = 0 then K ((-1)) M2 else (if x1 = 0 then (CI d μX4_leastFit [.ref 48] M2 (fun r5 M4 => K r5 M4)) else (CI d μX4_greatestFit [.ref 48] M2 (fun r7 M6 => K r7 M6)))))))))) : CI (d + 1) μX8_sure [.ref 0, .int x1, .int x2] M K := by
  show Rn (d + 1) μX8_sure 0 [(0, .ref 0), (1, .int x1), (2, .int x2)] [] M _
  refine rn_iload_n (i := 1) (x := x1) dX8_sure_0 rfl (by simp) ?_
  refine rn_if_lt (tgt := 28) dX8_sure_1 (by decide) (ite_go h (fun hc h => ?_) (fun hc h => ?_))
  · refine rn_iconst (v := -1) dX8_sure_28 rfl ?_
    exact rn_iret dX8_sure_29 rfl ⟨_, rfl, h⟩
  · refine rn_iload_n (i := 1) (x := x1) dX8_sure_4 rfl (by simp) ?_
    refine rn_iconst (v := 1) dX8_sure_5 rfl ?_
    refine rn_icmp_gt (tgt := 28) dX8_sure_6 (by decide) (ite_go h (fun hc h => ?_) (fun hc h => ?_))
    · refine rn_iconst (v := -1) dX8_sure_28 rfl ?_
      exact rn_iret dX8_sure_29 rfl ⟨_, rfl, h⟩
    · refine rn_aload_n (i := 0) (x := 0) dX8_sure_9 rfl (by simp) ?_
      refine rn_getr (t := 48) dX8_sure_10 rfl gf_X8_65 rfl rfl ?_
      refine rn_iload_n (i := 2) (x := x2) dX8_sure_13 rfl (by simp) ?_
      refine rn_aload_n (i := 0) (x := 0) dX8_sure_14 rfl (by simp) ?_
      obtain ⟨t1, ht1e, ht1, h⟩ := h
      refine rn_getd dX8_sure_15 rfl gf_X8_19 rfl ht1e ?_
      refine rn_aload_n (i := 0) (x := 0) dX8_sure_18 rfl (by simp) ?_
      refine rn_getr (t := 33) dX8_sure_19 rfl gf_X8_30 rfl rfl ?_
      refine rn_callVi (as := [.int x2, .ref t1, .ref 33]) (st := []) dX8_sure_22 mf_X4_findFits lk_X8_281 im_X4_findFits rfl rfl rfl rfl (Nat.le_of_ble_eq_true rfl) (Nat.le_of_ble_eq_true rfl) rfl (RI.mono h (fun r3 M2 h => ?_))
      refine rn_if_ne (tgt := 30) dX8_sure_25 (by decide) (ite_go h (fun hc h => ?_) (fun hc h => ?_))
      · refine rn_iconst (v := -1) dX8_sure_28 rfl ?_
        exact rn_iret dX8_sure_29 rfl ⟨_, rfl, h⟩
      · refine rn_iload_n (i := 1) (x := x1) dX8_sure_30 rfl (by simp) ?_
        refine rn_if_ne (tgt := 44) dX8_sure_31 (by decide) (ite_go h (fun hc h => ?_) (fun hc h => ?_))
        · refine rn_aload_n (i := 0) (x := 0) dX8_sure_34 rfl (by simp) ?_
          refine rn_getr (t := 48) dX8_sure_35 rfl gf_X8_65 rfl rfl ?_
          refine rn_callVi (as := []) (st := []) dX8_sure_38 mf_X4_leastFit lk_X8_285 im_X4_leastFit rfl rfl rfl rfl (Nat.le_of_ble_eq_true rfl) (Nat.le_of_ble_eq_true rfl) rfl (RI.mono h (fun r5 M4 h => ?_))
          refine rn_goto (tgt := 51) dX8_sure_41 (by decide) ?_
          exact rn_iret dX8_sure_51 rfl ⟨_, rfl, h⟩
        · refine rn_aload_n (i := 0) (x := 0) dX8_sure_44 rfl (by simp) ?_
          refine rn_getr (t := 48) dX8_sure_45 rfl gf_X8_65 rfl rfl ?_
          refine rn_callVi (as := []) (st := []) dX8_sure_48 mf_X4_greatestFit lk_X8_288 im_X4_greatestFit rfl rfl rfl rfl (Nat.le_of_ble_eq_true rfl) (Nat.le_of_ble_eq_true rfl) rfl (RI.mono h (fun r7 M6 h => ?_))
          exact rn_iret dX8_sure_51 rfl ⟨_, rfl, h⟩
