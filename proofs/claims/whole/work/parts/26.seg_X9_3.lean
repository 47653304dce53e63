theorem dX9_vanish_0 : decode μX9_vanish.2.1 0 = .ok (.aload_n 0, 1) := by decide +kernel
theorem dX9_vanish_1 : decode μX9_vanish.2.1 1 = .ok (.iload_n 1, 1) := by decide +kernel
theorem dX9_vanish_2 : decode μX9_vanish.2.1 2 = .ok (.invokevirtual 268, 3) := by decide +kernel
theorem dX9_vanish_5 : decode μX9_vanish.2.1 5 = .ok (.istore_n 2, 1) := by decide +kernel
theorem dX9_vanish_6 : decode μX9_vanish.2.1 6 = .ok (.iconst (-1), 1) := by decide +kernel
theorem dX9_vanish_7 : decode μX9_vanish.2.1 7 = .ok (.istore_n 3, 1) := by decide +kernel
theorem dX9_vanish_8 : decode μX9_vanish.2.1 8 = .ok (.iconst (-1), 1) := by decide +kernel
theorem dX9_vanish_9 : decode μX9_vanish.2.1 9 = .ok (.istore 4, 2) := by decide +kernel
theorem dX9_vanish_11 : decode μX9_vanish.2.1 11 = .ok (.iconst (-1), 1) := by decide +kernel
theorem dX9_vanish_12 : decode μX9_vanish.2.1 12 = .ok (.istore 5, 2) := by decide +kernel
theorem dX9_vanish_14 : decode μX9_vanish.2.1 14 = .ok (.iconst 0, 1) := by decide +kernel
theorem dX9_vanish_15 : decode μX9_vanish.2.1 15 = .ok (.istore 6, 2) := by decide +kernel
theorem dX9_vanish_17 : decode μX9_vanish.2.1 17 = .ok (.iload 6, 2) := by decide +kernel
theorem dX9_vanish_19 : decode μX9_vanish.2.1 19 = .ok (.bipush 8, 2) := by decide +kernel
theorem dX9_vanish_21 : decode μX9_vanish.2.1 21 = .ok (.if_icmp .ge 32, 3) := by decide +kernel
theorem dX9_vanish_24 : decode μX9_vanish.2.1 24 = .ok (.iload_n 2, 1) := by decide +kernel
theorem dX9_vanish_25 : decode μX9_vanish.2.1 25 = .ok (.iload 6, 2) := by decide +kernel
theorem dX9_vanish_27 : decode μX9_vanish.2.1 27 = .ok (.ishr, 1) := by decide +kernel
theorem dX9_vanish_28 : decode μX9_vanish.2.1 28 = .ok (.iconst 1, 1) := by decide +kernel
theorem dX9_vanish_29 : decode μX9_vanish.2.1 29 = .ok (.iand, 1) := by decide +kernel
theorem dX9_vanish_30 : decode μX9_vanish.2.1 30 = .ok (.ifCond .ne 6, 3) := by decide +kernel
theorem dX9_vanish_33 : decode μX9_vanish.2.1 33 = .ok (.goto 14, 3) := by decide +kernel
theorem dX9_vanish_36 : decode μX9_vanish.2.1 36 = .ok (.iload 4, 2) := by decide +kernel
theorem dX9_vanish_38 : decode μX9_vanish.2.1 38 = .ok (.istore_n 3, 1) := by decide +kernel
theorem dX9_vanish_39 : decode μX9_vanish.2.1 39 = .ok (.iload 5, 2) := by decide +kernel
theorem dX9_vanish_41 : decode μX9_vanish.2.1 41 = .ok (.istore 4, 2) := by decide +kernel
theorem dX9_vanish_43 : decode μX9_vanish.2.1 43 = .ok (.iload 6, 2) := by decide +kernel
theorem dX9_vanish_45 : decode μX9_vanish.2.1 45 = .ok (.istore 5, 2) := by decide +kernel
theorem dX9_vanish_47 : decode μX9_vanish.2.1 47 = .ok (.iinc 6 1, 3) := by decide +kernel
theorem dX9_vanish_50 : decode μX9_vanish.2.1 50 = .ok (.goto (-33), 3) := by decide +kernel
theorem dX9_vanish_53 : decode μX9_vanish.2.1 53 = .ok (.aload_n 0, 1) := by decide +kernel
theorem dX9_vanish_54 : decode μX9_vanish.2.1 54 = .ok (.iload_n 1, 1) := by decide +kernel
theorem dX9_vanish_55 : decode μX9_vanish.2.1 55 = .ok (.iload_n 3, 1) := by decide +kernel
theorem dX9_vanish_56 : decode μX9_vanish.2.1 56 = .ok (.iload 4, 2) := by decide +kernel
theorem dX9_vanish_58 : decode μX9_vanish.2.1 58 = .ok (.invokestatic 297, 3) := by decide +kernel
theorem dX9_vanish_61 : decode μX9_vanish.2.1 61 = .ok (.invokevirtual 313, 3) := by decide +kernel
theorem dX9_vanish_64 : decode μX9_vanish.2.1 64 = .ok (.aload_n 0, 1) := by decide +kernel
theorem dX9_vanish_65 : decode μX9_vanish.2.1 65 = .ok (.iload_n 1, 1) := by decide +kernel
theorem dX9_vanish_66 : decode μX9_vanish.2.1 66 = .ok (.iload_n 3, 1) := by decide +kernel
theorem dX9_vanish_67 : decode μX9_vanish.2.1 67 = .ok (.iload 5, 2) := by decide +kernel
theorem dX9_vanish_69 : decode μX9_vanish.2.1 69 = .ok (.invokestatic 297, 3) := by decide +kernel
theorem dX9_vanish_72 : decode μX9_vanish.2.1 72 = .ok (.invokevirtual 313, 3) := by decide +kernel
theorem dX9_vanish_75 : decode μX9_vanish.2.1 75 = .ok (.aload_n 0, 1) := by decide +kernel
theorem dX9_vanish_76 : decode μX9_vanish.2.1 76 = .ok (.iload_n 1, 1) := by decide +kernel
theorem dX9_vanish_77 : decode μX9_vanish.2.1 77 = .ok (.iload 4, 2) := by decide +kernel
theorem dX9_vanish_79 : decode μX9_vanish.2.1 79 = .ok (.iload 5, 2) := by decide +kernel
theorem dX9_vanish_81 : decode μX9_vanish.2.1 81 = .ok (.invokestatic 297, 3) := by decide +kernel
theorem dX9_vanish_84 : decode μX9_vanish.2.1 84 = .ok (.invokevirtual 313, 3) := by decide +kernel
theorem dX9_vanish_87 : decode μX9_vanish.2.1 87 = .ok (.aload_n 0, 1) := by decide +kernel
theorem dX9_vanish_88 : decode μX9_vanish.2.1 88 = .ok (.iload_n 3, 1) := by decide +kernel
theorem dX9_vanish_89 : decode μX9_vanish.2.1 89 = .ok (.iload 4, 2) := by decide +kernel
theorem dX9_vanish_91 : decode μX9_vanish.2.1 91 = .ok (.iload 5, 2) := by decide +kernel
theorem dX9_vanish_93 : decode μX9_vanish.2.1 93 = .ok (.invokevirtual 316, 3) := by decide +kernel
theorem dX9_vanish_96 : decode μX9_vanish.2.1 96 = .ok (.aload_n 0, 1) := by decide +kernel
theorem dX9_vanish_97 : decode μX9_vanish.2.1 97 = .ok (.iload_n 1, 1) := by decide +kernel
theorem dX9_vanish_98 : decode μX9_vanish.2.1 98 = .ok (.invokevirtual 323, 3) := by decide +kernel
theorem dX9_vanish_101 : decode μX9_vanish.2.1 101 = .ok (.return_, 1) := by decide +kernel
set_option maxRecDepth 20000 in
theorem sg_X9_vanish_0 {d : Nat} {x1 : Int32} {M : Mem} {K : (Mem → Prop)}  (h : (CI d μX9_bordersOf [.ref 58, .int x1] M (fun r2 M1 => RV (d + 1) μX9_vanish 17 [(0, .ref 58), (1, .int x1), (2, .int r2), (3, .int ((-1))), (4, .int ((-1))), (5, .int ((-1))), (6, .int 0)] [] M1 K))) : CV (d + 1) μX9_vanish [.ref 58, .int x1] M K := by
  show Rn (d + 1) μX9_vanish 0 [(0, .ref 58), (1, .int x1)] [] M _
  refine rn_aload_n (i := 0) (x := 58) dX9_vanish_0 rfl (by simp) ?_
  refine rn_iload_n (i := 1) (x := x1) dX9_vanish_1 rfl (by simp) ?_
  refine rn_callVi (as := [.int x1]) (st := []) dX9_vanish_2 mf_X9_bordersOf lk_X9_268 im_X9_bordersOf rfl rfl rfl rfl (Nat.le_of_ble_eq_true rfl) (Nat.le_of_ble_eq_true rfl) rfl (RI.mono h (fun r2 M1 h => ?_))
  refine rn_istore_n (lv' := [(0, .ref 58), (1, .int x1), (2, .int r2)]) (hd := dX9_vanish_5) (i := 2) (hi := rfl) (hn := by decide) (hf := rfl) (hl := rfl) ?_
  refine rn_iconst (v := -1) dX9_vanish_6 rfl ?_
  refine rn_istore_n (lv' := [(0, .ref 58), (1, .int x1), (2, .int r2), (3, .int ((-1)))]) (hd := dX9_vanish_7) (i := 3) (hi := rfl) (hn := by decide) (hf := rfl) (hl := rfl) ?_
  refine rn_iconst (v := -1) dX9_vanish_8 rfl ?_
  refine rn_istore (lv' := [(0, .ref 58), (1, .int x1), (2, .int r2), (3, .int ((-1))), (4, .int ((-1)))]) (hd := dX9_vanish_9) (hn := by decide) (hf := rfl) (hl := rfl) ?_
  refine rn_iconst (v := -1) dX9_vanish_11 rfl ?_
  refine rn_istore (lv' := [(0, .ref 58), (1, .int x1), (2, .int r2), (3, .int ((-1))), (4, .int ((-1))), (5, .int ((-1)))]) (hd := dX9_vanish_12) (hn := by decide) (hf := rfl) (hl := rfl) ?_
  refine rn_iconst (v := 0) dX9_vanish_14 rfl ?_
  refine rn_istore (lv' := [(0, .ref 58), (1, .int x1), (2, .int r2), (3, .int ((-1))), (4, .int ((-1))), (5, .int ((-1))), (6, .int 0)]) (hd := dX9_vanish_15) (hn := by decide) (hf := rfl) (hl := rfl) ?_
  exact h
set_option maxRecDepth 20000 in
theorem sg_X9_vanish_17 {d : Nat} {x1 : Int32} {x2 : Int32} {x3 : Int32} {x4 : Int32} {x5 : Int32} {x6 : Int32} {M : Mem} {K : (Mem → Prop)}  (h : (if 8 ≤ x6 then (CI d μX9_cornerOf [.int x1, .int x3, .int x4] M (fun r2 M1 => (CV d μX9_takeCorner [.ref 58, .int r2] M1 (fun M3 => (CI d μX9_cornerOf [.int x1, .int x3, .int x5] M3 (fun r5 M4 => (CV d μX9_takeCorner [.ref 58, .int r5] M4 (fun M6 => (CI d μX9_cornerOf [.int x1, .int x4, .int x5] M6 (fun r8 M7 => (CV d μX9_takeCorner [.ref 58, .int r8] M7 (fun M9 => (CV d μX9_addCorner [.ref 58, .int x3, .int x4, .int x5] M9 (fun M10 => (CV d μX9_leave [.ref 58, .int x1] M10 (fun M11 => K M11)))))))))))))))) else (if (x2 >>> (x6 &&& 31)) &&& 1 = 0 then RV (d + 1) μX9_vanish 17 [(0, .ref 58), (1, .int x1), (2, .int x2), (3, .int x3), (4, .int x4), (5, .int x5), (6, .int (x6 + 1))] [] M K else RV (d + 1) μX9_vanish 17 [(0, .ref 58), (1, .int x1), (2, .int x2), (3, .int x4), (4, .int x5), (5, .int x6), (6, .int (x6 + 1))] [] M K))) : RV (d + 1) μX9_vanish 17 [(0, .ref 58), (1, .int x1), (2, .int x2), (3, .int x3), (4, .int x4), (5, .int x5), (6, .int x6)] [] M K := by
  show Rn (d + 1) μX9_vanish 17 [(0, .ref 58), (1, .int x1), (2, .int x2), (3, .int x3), (4, .int x4), (5, .int x5), (6, .int x6)] [] M _
  refine rn_iload (x := x6) dX9_vanish_17 (by simp) ?_
  refine rn_bipush (v := 8) dX9_vanish_19 rfl ?_
  refine rn_icmp_ge (tgt := 53) dX9_vanish_21 (by decide) (ite_go h (fun hc h => ?_) (fun hc h => ?_))
  · refine rn_aload_n (i := 0) (x := 58) dX9_vanish_53 rfl (by simp) ?_
    refine rn_iload_n (i := 1) (x := x1) dX9_vanish_54 rfl (by simp) ?_
    refine rn_iload_n (i := 3) (x := x3) dX9_vanish_55 rfl (by simp) ?_
    refine rn_iload (x := x4) dX9_vanish_56 (by simp) ?_
    refine rn_callSi (as := [.int x1, .int x3, .int x4]) (st := [.ref 58]) dX9_vanish_58 mf_X9_cornerOf lk_X9_297 sm_X9_cornerOf rfl (Nat.le_of_ble_eq_true rfl) (Nat.le_of_ble_eq_true rfl) rfl (RI.mono h (fun r2 M1 h => ?_))
    refine rn_callVv (as := [.int r2]) (st := []) dX9_vanish_61 mf_X9_takeCorner lk_X9_313 im_X9_takeCorner rfl rfl rfl rfl (Nat.le_of_ble_eq_true rfl) (Nat.le_of_ble_eq_true rfl) rfl (RV.mono h (fun M3 h => ?_))
    refine rn_aload_n (i := 0) (x := 58) dX9_vanish_64 rfl (by simp) ?_
    refine rn_iload_n (i := 1) (x := x1) dX9_vanish_65 rfl (by simp) ?_
    refine rn_iload_n (i := 3) (x := x3) dX9_vanish_66 rfl (by simp) ?_
    refine rn_iload (x := x5) dX9_vanish_67 (by simp) ?_
    refine rn_callSi (as := [.int x1, .int x3, .int x5]) (st := [.ref 58]) dX9_vanish_69 mf_X9_cornerOf lk_X9_297 sm_X9_cornerOf rfl (Nat.le_of_ble_eq_true rfl) (Nat.le_of_ble_eq_true rfl) rfl (RI.mono h (fun r5 M4 h => ?_))
    refine rn_callVv (as := [.int r5]) (st := []) dX9_vanish_72 mf_X9_takeCorner lk_X9_313 im_X9_takeCorner rfl rfl rfl rfl (Nat.le_of_ble_eq_true rfl) (Nat.le_of_ble_eq_true rfl) rfl (RV.mono h (fun M6 h => ?_))
    refine rn_aload_n (i := 0) (x := 58) dX9_vanish_75 rfl (by simp) ?_
    refine rn_iload_n (i := 1) (x := x1) dX9_vanish_76 rfl (by simp) ?_
    refine rn_iload (x := x4) dX9_vanish_77 (by simp) ?_
    refine rn_iload (x := x5) dX9_vanish_79 (by simp) ?_
    refine rn_callSi (as := [.int x1, .int x4, .int x5]) (st := [.ref 58]) dX9_vanish_81 mf_X9_cornerOf lk_X9_297 sm_X9_cornerOf rfl (Nat.le_of_ble_eq_true rfl) (Nat.le_of_ble_eq_true rfl) rfl (RI.mono h (fun r8 M7 h => ?_))
    refine rn_callVv (as := [.int r8]) (st := []) dX9_vanish_84 mf_X9_takeCorner lk_X9_313 im_X9_takeCorner rfl rfl rfl rfl (Nat.le_of_ble_eq_true rfl) (Nat.le_of_ble_eq_true rfl) rfl (RV.mono h (fun M9 h => ?_))
    refine rn_aload_n (i := 0) (x := 58) dX9_vanish_87 rfl (by simp) ?_
    refine rn_iload_n (i := 3) (x := x3) dX9_vanish_88 rfl (by simp) ?_
    refine rn_iload (x := x4) dX9_vanish_89 (by simp) ?_
    refine rn_iload (x := x5) dX9_vanish_91 (by simp) ?_
    refine rn_callVv (as := [.int x3, .int x4, .int x5]) (st := []) dX9_vanish_93 mf_X9_addCorner lk_X9_316 im_X9_addCorner rfl rfl rfl rfl (Nat.le_of_ble_eq_true rfl) (Nat.le_of_ble_eq_true rfl) rfl (RV.mono h (fun M10 h => ?_))
    refine rn_aload_n (i := 0) (x := 58) dX9_vanish_96 rfl (by simp) ?_
    refine rn_iload_n (i := 1) (x := x1) dX9_vanish_97 rfl (by simp) ?_
    refine rn_callVv (as := [.int x1]) (st := []) dX9_vanish_98 mf_X9_leave lk_X9_323 im_X9_leave rfl rfl rfl rfl (Nat.le_of_ble_eq_true rfl) (Nat.le_of_ble_eq_true rfl) rfl (RV.mono h (fun M11 h => ?_))
    exact rn_ret dX9_vanish_101 rfl ⟨rfl, h⟩
  · refine rn_iload_n (i := 2) (x := x2) dX9_vanish_24 rfl (by simp) ?_
    refine rn_iload (x := x6) dX9_vanish_25 (by simp) ?_
    refine rn_ishr dX9_vanish_27 ?_
    refine rn_iconst (v := 1) dX9_vanish_28 rfl ?_
    refine rn_iand dX9_vanish_29 ?_
    refine rn_if_ne (tgt := 36) dX9_vanish_30 (by decide) (ite_go h (fun hc h => ?_) (fun hc h => ?_))
    · refine rn_goto (tgt := 47) dX9_vanish_33 (by decide) ?_
      refine rn_iinc (x := x6) (v := x6 + 1) (lv' := [(0, .ref 58), (1, .int x1), (2, .int x2), (3, .int x3), (4, .int x4), (5, .int x5), (6, .int (x6 + 1))]) dX9_vanish_47 (by simp) rfl (by decide) rfl rfl ?_
      refine rn_goto (tgt := 17) dX9_vanish_50 (by decide) ?_
      exact h
    · refine rn_iload (x := x4) dX9_vanish_36 (by simp) ?_
      refine rn_istore_n (lv' := [(0, .ref 58), (1, .int x1), (2, .int x2), (3, .int x4), (4, .int x4), (5, .int x5), (6, .int x6)]) (hd := dX9_vanish_38) (i := 3) (hi := rfl) (hn := by decide) (hf := rfl) (hl := rfl) ?_
      refine rn_iload (x := x5) dX9_vanish_39 (by simp) ?_
      refine rn_istore (lv' := [(0, .ref 58), (1, .int x1), (2, .int x2), (3, .int x4), (4, .int x5), (5, .int x5), (6, .int x6)]) (hd := dX9_vanish_41) (hn := by decide) (hf := rfl) (hl := rfl) ?_
      refine rn_iload (x := x6) dX9_vanish_43 (by simp) ?_
      refine rn_istore (lv' := [(0, .ref 58), (1, .int x1), (2, .int x2), (3, .int x4), (4, .int x5), (5, .int x6), (6, .int x6)]) (hd := dX9_vanish_45) (hn := by decide) (hf := rfl) (hl := rfl) ?_
      refine rn_iinc (x := x6) (v := x6 + 1) (lv' := [(0, .ref 58), (1, .int x1), (2, .int x2), (3, .int x4), (4, .int x5), (5, .int x6), (6, .int (x6 + 1))]) dX9_vanish_47 (by simp) rfl (by decide) rfl rfl ?_
      refine rn_goto (tgt := 17) dX9_vanish_50 (by decide) ?_
      exact h
theorem dX9_shed_0 : decode μX9_shed.2.1 0 = .ok (.iconst 0, 1) := by decide +kernel
theorem dX9_shed_1 : decode μX9_shed.2.1 1 = .ok (.istore_n 2, 1) := by decide +kernel
theorem dX9_shed_2 : decode μX9_shed.2.1 2 = .ok (.iload_n 2, 1) := by decide +kernel
theorem dX9_shed_3 : decode μX9_shed.2.1 3 = .ok (.aload_n 0, 1) := by decide +kernel
theorem dX9_shed_4 : decode μX9_shed.2.1 4 = .ok (.getfield 326, 3) := by decide +kernel
theorem dX9_shed_7 : decode μX9_shed.2.1 7 = .ok (.if_icmp .ge 18, 3) := by decide +kernel
theorem dX9_shed_10 : decode μX9_shed.2.1 10 = .ok (.aload_n 0, 1) := by decide +kernel
theorem dX9_shed_11 : decode μX9_shed.2.1 11 = .ok (.iload_n 1, 1) := by decide +kernel
theorem dX9_shed_12 : decode μX9_shed.2.1 12 = .ok (.iload_n 2, 1) := by decide +kernel
theorem dX9_shed_13 : decode μX9_shed.2.1 13 = .ok (.invokevirtual 329, 3) := by decide +kernel
theorem dX9_shed_16 : decode μX9_shed.2.1 16 = .ok (.ifCond .ne 9, 3) := by decide +kernel
theorem dX9_shed_19 : decode μX9_shed.2.1 19 = .ok (.iinc 2 1, 3) := by decide +kernel
theorem dX9_shed_22 : decode μX9_shed.2.1 22 = .ok (.goto (-20), 3) := by decide +kernel
theorem dX9_shed_25 : decode μX9_shed.2.1 25 = .ok (.iload_n 2, 1) := by decide +kernel
theorem dX9_shed_26 : decode μX9_shed.2.1 26 = .ok (.aload_n 0, 1) := by decide +kernel
theorem dX9_shed_27 : decode μX9_shed.2.1 27 = .ok (.getfield 326, 3) := by decide +kernel
theorem dX9_shed_30 : decode μX9_shed.2.1 30 = .ok (.if_icmp .ge 10, 3) := by decide +kernel
theorem dX9_shed_33 : decode μX9_shed.2.1 33 = .ok (.aload_n 0, 1) := by decide +kernel
theorem dX9_shed_34 : decode μX9_shed.2.1 34 = .ok (.iload_n 1, 1) := by decide +kernel
theorem dX9_shed_35 : decode μX9_shed.2.1 35 = .ok (.iload_n 2, 1) := by decide +kernel
theorem dX9_shed_36 : decode μX9_shed.2.1 36 = .ok (.invokevirtual 332, 3) := by decide +kernel
theorem dX9_shed_39 : decode μX9_shed.2.1 39 = .ok (.pop, 1) := by decide +kernel
theorem dX9_shed_40 : decode μX9_shed.2.1 40 = .ok (.return_, 1) := by decide +kernel
set_option maxRecDepth 20000 in
theorem sg_X9_shed_0 {d : Nat} {x1 : Int32} {M : Mem} {K : (Mem → Prop)}  (h : RV (d + 1) μX9_shed 2 [(0, .ref 58), (1, .int x1), (2, .int 0)] [] M K) : CV (d + 1) μX9_shed [.ref 58, .int x1] M K := by
  show Rn (d + 1) μX9_shed 0 [(0, .ref 58), (1, .int x1)] [] M _
  refine rn_iconst (v := 0) dX9_shed_0 rfl ?_
  refine rn_istore_n (lv' := [(0, .ref 58), (1, .int x1), (2, .int 0)]) (hd := dX9_shed_1) (i := 2) (hi := rfl) (hn := by decide) (hf := rfl) (hl := rfl) ?_
  exact h
set_option maxRecDepth 20000 in
theorem sg_X9_shed_2 {d : Nat} {x1 : Int32} {x2 : Int32} {M : Mem} {K : (Mem → Prop)}  (h : (if ri M 58 35 ≤ x2 then RV (d + 1) μX9_shed 25 [(0, .ref 58), (1, .int x1), (2, .int x2)] [] M K else (CI d μX9_canFlip [.ref 58, .int x1, .int x2] M (fun r2 M1 => (if r2 = 0 then RV (d + 1) μX9_shed 2 [(0, .ref 58), (1, .int x1), (2, .int (x2 + 1))] [] M1 K else RV (d + 1) μX9_shed 25 [(0, .ref 58), (1, .int x1), (2, .int x2)] [] M1 K))))) : RV (d + 1) μX9_shed 2 [(0, .ref 58), (1, .int x1), (2, .int x2)] [] M K := by
  show Rn (d + 1) μX9_shed 2 [(0, .ref 58), (1, .int x1), (2, .int x2)] [] M _
  refine rn_iload_n (i := 2) (x := x2) dX9_shed_2 rfl (by simp) ?_
  refine rn_aload_n (i := 0) (x := 58) dX9_shed_3 rfl (by simp) ?_
  refine rn_geti dX9_shed_4 rfl gf_X9_326 (by decide) ?_
  refine rn_icmp_ge (tgt := 25) dX9_shed_7 (by decide) (ite_go h (fun hc h => ?_) (fun hc h => ?_))
  · exact h
  · refine rn_aload_n (i := 0) (x := 58) dX9_shed_10 rfl (by simp) ?_
    refine rn_iload_n (i := 1) (x := x1) dX9_shed_11 rfl (by simp) ?_
    refine rn_iload_n (i := 2) (x := x2) dX9_shed_12 rfl (by simp) ?_
    refine rn_callVi (as := [.int x1, .int x2]) (st := []) dX9_shed_13 mf_X9_canFlip lk_X9_329 im_X9_canFlip rfl rfl rfl rfl (Nat.le_of_ble_eq_true rfl) (Nat.le_of_ble_eq_true rfl) rfl (RI.mono h (fun r2 M1 h => ?_))
    refine rn_if_ne (tgt := 25) dX9_shed_16 (by decide) (ite_go h (fun hc h => ?_) (fun hc h => ?_))
    · refine rn_iinc (x := x2) (v := x2 + 1) (lv' := [(0, .ref 58), (1, .int x1), (2, .int (x2 + 1))]) dX9_shed_19 (by simp) rfl (by decide) rfl rfl ?_
      refine rn_goto (tgt := 2) dX9_shed_22 (by decide) ?_
      exact h
    · exact h
set_option maxRecDepth 20000 in
theorem sg_X9_shed_25 {d : Nat} {x1 : Int32} {x2 : Int32} {M : Mem} {K : (Mem → Prop)}  (h : (if ri M 58 35 ≤ x2 then K M else (CI d μX9_doFlip [.ref 58, .int x1, .int x2] M (fun r2 M1 => K M1)))) : RV (d + 1) μX9_shed 25 [(0, .ref 58), (1, .int x1), (2, .int x2)] [] M K := by
  show Rn (d + 1) μX9_shed 25 [(0, .ref 58), (1, .int x1), (2, .int x2)] [] M _
  refine rn_iload_n (i := 2) (x := x2) dX9_shed_25 rfl (by simp) ?_
  refine rn_aload_n (i := 0) (x := 58) dX9_shed_26 rfl (by simp) ?_
  refine rn_geti dX9_shed_27 rfl gf_X9_326 (by decide) ?_
  refine rn_icmp_ge (tgt := 40) dX9_shed_30 (by decide) (ite_go h (fun hc h => ?_) (fun hc h => ?_))
  · exact rn_ret dX9_shed_40 rfl ⟨rfl, h⟩
  · refine rn_aload_n (i := 0) (x := 58) dX9_shed_33 rfl (by simp) ?_
    refine rn_iload_n (i := 1) (x := x1) dX9_shed_34 rfl (by simp) ?_
    refine rn_iload_n (i := 2) (x := x2) dX9_shed_35 rfl (by simp) ?_
    refine rn_callVi (as := [.int x1, .int x2]) (st := []) dX9_shed_36 mf_X9_doFlip lk_X9_332 im_X9_doFlip rfl rfl rfl rfl (Nat.le_of_ble_eq_true rfl) (Nat.le_of_ble_eq_true rfl) rfl (RI.mono h (fun r2 M1 h => ?_))
    refine rn_pop dX9_shed_39 rfl ?_
    exact rn_ret dX9_shed_40 rfl ⟨rfl, h⟩
theorem dX9_goSeason_0 : decode μX9_goSeason.2.1 0 = .ok (.iconst 0, 1) := by decide +kernel
theorem dX9_goSeason_1 : decode μX9_goSeason.2.1 1 = .ok (.istore_n 2, 1) := by decide +kernel
theorem dX9_goSeason_2 : decode μX9_goSeason.2.1 2 = .ok (.iload_n 2, 1) := by decide +kernel
theorem dX9_goSeason_3 : decode μX9_goSeason.2.1 3 = .ok (.aload_n 0, 1) := by decide +kernel
theorem dX9_goSeason_4 : decode μX9_goSeason.2.1 4 = .ok (.getfield 326, 3) := by decide +kernel
theorem dX9_goSeason_7 : decode μX9_goSeason.2.1 7 = .ok (.if_icmp .ge 32, 3) := by decide +kernel
theorem dX9_goSeason_10 : decode μX9_goSeason.2.1 10 = .ok (.aload_n 0, 1) := by decide +kernel
theorem dX9_goSeason_11 : decode μX9_goSeason.2.1 11 = .ok (.getfield 51, 3) := by decide +kernel
theorem dX9_goSeason_14 : decode μX9_goSeason.2.1 14 = .ok (.iload_n 2, 1) := by decide +kernel
theorem dX9_goSeason_15 : decode μX9_goSeason.2.1 15 = .ok (.aload_n 0, 1) := by decide +kernel
theorem dX9_goSeason_16 : decode μX9_goSeason.2.1 16 = .ok (.iload_n 2, 1) := by decide +kernel
theorem dX9_goSeason_17 : decode μX9_goSeason.2.1 17 = .ok (.invokevirtual 335, 3) := by decide +kernel
theorem dX9_goSeason_20 : decode μX9_goSeason.2.1 20 = .ok (.ifCond .eq 11, 3) := by decide +kernel
theorem dX9_goSeason_23 : decode μX9_goSeason.2.1 23 = .ok (.aload_n 0, 1) := by decide +kernel
theorem dX9_goSeason_24 : decode μX9_goSeason.2.1 24 = .ok (.iload_n 2, 1) := by decide +kernel
theorem dX9_goSeason_25 : decode μX9_goSeason.2.1 25 = .ok (.invokevirtual 338, 3) := by decide +kernel
theorem dX9_goSeason_28 : decode μX9_goSeason.2.1 28 = .ok (.goto 4, 3) := by decide +kernel
theorem dX9_goSeason_31 : decode μX9_goSeason.2.1 31 = .ok (.iconst 0, 1) := by decide +kernel
theorem dX9_goSeason_32 : decode μX9_goSeason.2.1 32 = .ok (.iastore, 1) := by decide +kernel
theorem dX9_goSeason_33 : decode μX9_goSeason.2.1 33 = .ok (.iinc 2 1, 3) := by decide +kernel
theorem dX9_goSeason_36 : decode μX9_goSeason.2.1 36 = .ok (.goto (-34), 3) := by decide +kernel
theorem dX9_goSeason_39 : decode μX9_goSeason.2.1 39 = .ok (.iconst 0, 1) := by decide +kernel
theorem dX9_goSeason_40 : decode μX9_goSeason.2.1 40 = .ok (.istore_n 2, 1) := by decide +kernel
theorem dX9_goSeason_41 : decode μX9_goSeason.2.1 41 = .ok (.iload_n 2, 1) := by decide +kernel
theorem dX9_goSeason_42 : decode μX9_goSeason.2.1 42 = .ok (.aload_n 0, 1) := by decide +kernel
theorem dX9_goSeason_43 : decode μX9_goSeason.2.1 43 = .ok (.getfield 326, 3) := by decide +kernel
theorem dX9_goSeason_46 : decode μX9_goSeason.2.1 46 = .ok (.if_icmp .ge 41, 3) := by decide +kernel
theorem dX9_goSeason_49 : decode μX9_goSeason.2.1 49 = .ok (.aload_n 0, 1) := by decide +kernel
theorem dX9_goSeason_50 : decode μX9_goSeason.2.1 50 = .ok (.getfield 45, 3) := by decide +kernel
theorem dX9_goSeason_53 : decode μX9_goSeason.2.1 53 = .ok (.bipush 14, 2) := by decide +kernel
theorem dX9_goSeason_55 : decode μX9_goSeason.2.1 55 = .ok (.iload_n 2, 1) := by decide +kernel
theorem dX9_goSeason_56 : decode μX9_goSeason.2.1 56 = .ok (.iadd, 1) := by decide +kernel
theorem dX9_goSeason_57 : decode μX9_goSeason.2.1 57 = .ok (.aload_n 0, 1) := by decide +kernel
theorem dX9_goSeason_58 : decode μX9_goSeason.2.1 58 = .ok (.getfield 45, 3) := by decide +kernel
theorem dX9_goSeason_61 : decode μX9_goSeason.2.1 61 = .ok (.bipush 14, 2) := by decide +kernel
theorem dX9_goSeason_63 : decode μX9_goSeason.2.1 63 = .ok (.iload_n 2, 1) := by decide +kernel
theorem dX9_goSeason_64 : decode μX9_goSeason.2.1 64 = .ok (.iadd, 1) := by decide +kernel
theorem dX9_goSeason_65 : decode μX9_goSeason.2.1 65 = .ok (.iaload, 1) := by decide +kernel
theorem dX9_goSeason_66 : decode μX9_goSeason.2.1 66 = .ok (.aload_n 0, 1) := by decide +kernel
theorem dX9_goSeason_67 : decode μX9_goSeason.2.1 67 = .ok (.getfield 51, 3) := by decide +kernel
theorem dX9_goSeason_70 : decode μX9_goSeason.2.1 70 = .ok (.iload_n 2, 1) := by decide +kernel
theorem dX9_goSeason_71 : decode μX9_goSeason.2.1 71 = .ok (.iaload, 1) := by decide +kernel
theorem dX9_goSeason_72 : decode μX9_goSeason.2.1 72 = .ok (.iadd, 1) := by decide +kernel
theorem dX9_goSeason_73 : decode μX9_goSeason.2.1 73 = .ok (.iconst 0, 1) := by decide +kernel
theorem dX9_goSeason_74 : decode μX9_goSeason.2.1 74 = .ok (.sipush 999, 3) := by decide +kernel
theorem dX9_goSeason_77 : decode μX9_goSeason.2.1 77 = .ok (.invokestatic 280, 3) := by decide +kernel
theorem dX9_goSeason_80 : decode μX9_goSeason.2.1 80 = .ok (.iastore, 1) := by decide +kernel
theorem dX9_goSeason_81 : decode μX9_goSeason.2.1 81 = .ok (.iinc 2 1, 3) := by decide +kernel
theorem dX9_goSeason_84 : decode μX9_goSeason.2.1 84 = .ok (.goto (-43), 3) := by decide +kernel
theorem dX9_goSeason_87 : decode μX9_goSeason.2.1 87 = .ok (.iconst 0, 1) := by decide +kernel
theorem dX9_goSeason_88 : decode μX9_goSeason.2.1 88 = .ok (.istore_n 2, 1) := by decide +kernel
theorem dX9_goSeason_89 : decode μX9_goSeason.2.1 89 = .ok (.iload_n 2, 1) := by decide +kernel
theorem dX9_goSeason_90 : decode μX9_goSeason.2.1 90 = .ok (.aload_n 0, 1) := by decide +kernel
theorem dX9_goSeason_91 : decode μX9_goSeason.2.1 91 = .ok (.getfield 326, 3) := by decide +kernel
theorem dX9_goSeason_94 : decode μX9_goSeason.2.1 94 = .ok (.if_icmp .ge 53, 3) := by decide +kernel
theorem dX9_goSeason_97 : decode μX9_goSeason.2.1 97 = .ok (.aload_n 0, 1) := by decide +kernel
theorem dX9_goSeason_98 : decode μX9_goSeason.2.1 98 = .ok (.iload_n 2, 1) := by decide +kernel
theorem dX9_goSeason_99 : decode μX9_goSeason.2.1 99 = .ok (.invokevirtual 335, 3) := by decide +kernel
theorem dX9_goSeason_102 : decode μX9_goSeason.2.1 102 = .ok (.ifCond .eq 39, 3) := by decide +kernel
theorem dX9_goSeason_105 : decode μX9_goSeason.2.1 105 = .ok (.aload_n 0, 1) := by decide +kernel
theorem dX9_goSeason_106 : decode μX9_goSeason.2.1 106 = .ok (.getfield 45, 3) := by decide +kernel
theorem dX9_goSeason_109 : decode μX9_goSeason.2.1 109 = .ok (.bipush 14, 2) := by decide +kernel
theorem dX9_goSeason_111 : decode μX9_goSeason.2.1 111 = .ok (.iload_n 2, 1) := by decide +kernel
theorem dX9_goSeason_112 : decode μX9_goSeason.2.1 112 = .ok (.iadd, 1) := by decide +kernel
theorem dX9_goSeason_113 : decode μX9_goSeason.2.1 113 = .ok (.iaload, 1) := by decide +kernel
theorem dX9_goSeason_114 : decode μX9_goSeason.2.1 114 = .ok (.ifCond .le 6, 3) := by decide +kernel
theorem dX9_goSeason_117 : decode μX9_goSeason.2.1 117 = .ok (.goto 24, 3) := by decide +kernel
theorem dX9_goSeason_120 : decode μX9_goSeason.2.1 120 = .ok (.aload_n 0, 1) := by decide +kernel
theorem dX9_goSeason_121 : decode μX9_goSeason.2.1 121 = .ok (.iload_n 2, 1) := by decide +kernel
theorem dX9_goSeason_122 : decode μX9_goSeason.2.1 122 = .ok (.invokevirtual 341, 3) := by decide +kernel
theorem dX9_goSeason_125 : decode μX9_goSeason.2.1 125 = .ok (.ifCond .eq 11, 3) := by decide +kernel
theorem dX9_goSeason_128 : decode μX9_goSeason.2.1 128 = .ok (.aload_n 0, 1) := by decide +kernel
theorem dX9_goSeason_129 : decode μX9_goSeason.2.1 129 = .ok (.iload_n 2, 1) := by decide +kernel
theorem dX9_goSeason_130 : decode μX9_goSeason.2.1 130 = .ok (.invokevirtual 344, 3) := by decide +kernel
theorem dX9_goSeason_133 : decode μX9_goSeason.2.1 133 = .ok (.goto 8, 3) := by decide +kernel
theorem dX9_goSeason_136 : decode μX9_goSeason.2.1 136 = .ok (.aload_n 0, 1) := by decide +kernel
theorem dX9_goSeason_137 : decode μX9_goSeason.2.1 137 = .ok (.iload_n 2, 1) := by decide +kernel
theorem dX9_goSeason_138 : decode μX9_goSeason.2.1 138 = .ok (.invokevirtual 347, 3) := by decide +kernel
theorem dX9_goSeason_141 : decode μX9_goSeason.2.1 141 = .ok (.iinc 2 1, 3) := by decide +kernel
theorem dX9_goSeason_144 : decode μX9_goSeason.2.1 144 = .ok (.goto (-55), 3) := by decide +kernel
theorem dX9_goSeason_147 : decode μX9_goSeason.2.1 147 = .ok (.iload_n 1, 1) := by decide +kernel
theorem dX9_goSeason_148 : decode μX9_goSeason.2.1 148 = .ok (.ifCond .eq 7, 3) := by decide +kernel
theorem dX9_goSeason_151 : decode μX9_goSeason.2.1 151 = .ok (.aload_n 0, 1) := by decide +kernel
theorem dX9_goSeason_152 : decode μX9_goSeason.2.1 152 = .ok (.invokevirtual 350, 3) := by decide +kernel
theorem dX9_goSeason_155 : decode μX9_goSeason.2.1 155 = .ok (.aload_n 0, 1) := by decide +kernel
theorem dX9_goSeason_156 : decode μX9_goSeason.2.1 156 = .ok (.getfield 45, 3) := by decide +kernel
theorem dX9_goSeason_159 : decode μX9_goSeason.2.1 159 = .ok (.bipush 22, 2) := by decide +kernel
theorem dX9_goSeason_161 : decode μX9_goSeason.2.1 161 = .ok (.dup2, 1) := by decide +kernel
theorem dX9_goSeason_162 : decode μX9_goSeason.2.1 162 = .ok (.iaload, 1) := by decide +kernel
theorem dX9_goSeason_163 : decode μX9_goSeason.2.1 163 = .ok (.iconst 1, 1) := by decide +kernel
theorem dX9_goSeason_164 : decode μX9_goSeason.2.1 164 = .ok (.iadd, 1) := by decide +kernel
theorem dX9_goSeason_165 : decode μX9_goSeason.2.1 165 = .ok (.iastore, 1) := by decide +kernel
theorem dX9_goSeason_166 : decode μX9_goSeason.2.1 166 = .ok (.return_, 1) := by decide +kernel
set_option maxRecDepth 20000 in
theorem sg_X9_goSeason_0 {d : Nat} {x1 : Int32} {M : Mem} {K : (Mem → Prop)}  (h : RV (d + 1) μX9_goSeason 2 [(0, .ref 58), (1, .int x1), (2, .int 0)] [] M K) : CV (d + 1) μX9_goSeason [.ref 58, .int x1] M K := by
  show Rn (d + 1) μX9_goSeason 0 [(0, .ref 58), (1, .int x1)] [] M _
  refine rn_iconst (v := 0) dX9_goSeason_0 rfl ?_
  refine rn_istore_n (lv' := [(0, .ref 58), (1, .int x1), (2, .int 0)]) (hd := dX9_goSeason_1) (i := 2) (hi := rfl) (hn := by decide) (hf := rfl) (hl := rfl) ?_
  exact h
set_option maxRecDepth 20000 in
theorem sg_X9_goSeason_2 {d : Nat} {x1 : Int32} {x2 : Int32} {M : Mem} {K : (Mem → Prop)}  (h : (if ri M 58 35 ≤ x2 then RV (d + 1) μX9_goSeason 41 [(0, .ref 58), (1, .int x1), (2, .int 0)] [] M K else (CI d μX9_isThere [.ref 58, .int x2] M (fun r2 M1 => (if r2 = 0 then (vp_in x2 8 ∧ ∀ M3, M3 = wi M1 71 (nx x2) 0 → RV (d + 1) μX9_goSeason 2 [(0, .ref 58), (1, .int x1), (2, .int (x2 + 1))] [] M3 K) else (CI d μX9_growth [.ref 58, .int x2] M1 (fun r5 M4 => (vp_in x2 8 ∧ ∀ M6, M6 = wi M4 71 (nx x2) r5 → RV (d + 1) μX9_goSeason 2 [(0, .ref 58), (1, .int x1), (2, .int (x2 + 1))] [] M6 K)))))))) : RV (d + 1) μX9_goSeason 2 [(0, .ref 58), (1, .int x1), (2, .int x2)] [] M K := by
  show Rn (d + 1) μX9_goSeason 2 [(0, .ref 58), (1, .int x1), (2, .int x2)] [] M _
  refine rn_iload_n (i := 2) (x := x2) dX9_goSeason_2 rfl (by simp) ?_
  refine rn_aload_n (i := 0) (x := 58) dX9_goSeason_3 rfl (by simp) ?_
  refine rn_geti dX9_goSeason_4 rfl gf_X9_326 (by decide) ?_
  refine rn_icmp_ge (tgt := 39) dX9_goSeason_7 (by decide) (ite_go h (fun hc h => ?_) (fun hc h => ?_))
  · refine rn_iconst (v := 0) dX9_goSeason_39 rfl ?_
    refine rn_istore_n (lv' := [(0, .ref 58), (1, .int x1), (2, .int 0)]) (hd := dX9_goSeason_40) (i := 2) (hi := rfl) (hn := by decide) (hf := rfl) (hl := rfl) ?_
    exact h
  · refine rn_aload_n (i := 0) (x := 58) dX9_goSeason_10 rfl (by simp) ?_
    refine rn_getr (t := 71) dX9_goSeason_11 rfl gf_X9_51 rfl rfl ?_
    refine rn_iload_n (i := 2) (x := x2) dX9_goSeason_14 rfl (by simp) ?_
    refine rn_aload_n (i := 0) (x := 58) dX9_goSeason_15 rfl (by simp) ?_
    refine rn_iload_n (i := 2) (x := x2) dX9_goSeason_16 rfl (by simp) ?_
    refine rn_callVi (as := [.int x2]) (st := [.int x2, .ref 71]) dX9_goSeason_17 mf_X9_isThere lk_X9_335 im_X9_isThere rfl rfl rfl rfl (Nat.le_of_ble_eq_true rfl) (Nat.le_of_ble_eq_true rfl) rfl (RI.mono h (fun r2 M1 h => ?_))
    refine rn_if_eq (tgt := 31) dX9_goSeason_20 (by decide) (ite_go h (fun hc h => ?_) (fun hc h => ?_))
    · refine rn_iconst (v := 0) dX9_goSeason_31 rfl ?_
      obtain ⟨hi, h⟩ := h
      have h := h _ rfl
      refine rn_iastore dX9_goSeason_32 rfl hi ?_
      generalize wi M1 71 (nx x2) 0 = M3 at h ⊢
      refine rn_iinc (x := x2) (v := x2 + 1) (lv' := [(0, .ref 58), (1, .int x1), (2, .int (x2 + 1))]) dX9_goSeason_33 (by simp) rfl (by decide) rfl rfl ?_
      refine rn_goto (tgt := 2) dX9_goSeason_36 (by decide) ?_
      exact h
    · refine rn_aload_n (i := 0) (x := 58) dX9_goSeason_23 rfl (by simp) ?_
      refine rn_iload_n (i := 2) (x := x2) dX9_goSeason_24 rfl (by simp) ?_
      refine rn_callVi (as := [.int x2]) (st := [.int x2, .ref 71]) dX9_goSeason_25 mf_X9_growth lk_X9_338 im_X9_growth rfl rfl rfl rfl (Nat.le_of_ble_eq_true rfl) (Nat.le_of_ble_eq_true rfl) rfl (RI.mono h (fun r5 M4 h => ?_))
      refine rn_goto (tgt := 32) dX9_goSeason_28 (by decide) ?_
      obtain ⟨hi, h⟩ := h
      have h := h _ rfl
      refine rn_iastore dX9_goSeason_32 rfl hi ?_
      generalize wi M4 71 (nx x2) r5 = M6 at h ⊢
      refine rn_iinc (x := x2) (v := x2 + 1) (lv' := [(0, .ref 58), (1, .int x1), (2, .int (x2 + 1))]) dX9_goSeason_33 (by simp) rfl (by decide) rfl rfl ?_
      refine rn_goto (tgt := 2) dX9_goSeason_36 (by decide) ?_
      exact h
set_option maxRecDepth 20000 in
theorem sg_X9_goSeason_41 {d : Nat} {x1 : Int32} {x2 : Int32} {M : Mem} {K : (Mem → Prop)}  (h : (if ri M 58 35 ≤ x2 then RV (d + 1) μX9_goSeason 89 [(0, .ref 58), (1, .int x1), (2, .int 0)] [] M K else (vp_in (14 + x2) 24 ∧ (vp_in x2 8 ∧ (CI d μX9_within [.int ((ri M 69 (nx (14 + x2))) + (ri M 71 (nx x2))), .int 0, .int 999] M (fun r2 M1 => (vp_in (14 + x2) 24 ∧ ∀ M3, M3 = wi M1 69 (nx (14 + x2)) r2 → RV (d + 1) μX9_goSeason 41 [(0, .ref 58), (1, .int x1), (2, .int (x2 + 1))] [] M3 K))))))) : RV (d + 1) μX9_goSeason 41 [(0, .ref 58), (1, .int x1), (2, .int x2)] [] M K := by
  show Rn (d + 1) μX9_goSeason 41 [(0, .ref 58), (1, .int x1), (2, .int x2)] [] M _
  refine rn_iload_n (i := 2) (x := x2) dX9_goSeason_41 rfl (by simp) ?_
  refine rn_aload_n (i := 0) (x := 58) dX9_goSeason_42 rfl (by simp) ?_
  refine rn_geti dX9_goSeason_43 rfl gf_X9_326 (by decide) ?_
  refine rn_icmp_ge (tgt := 87) dX9_goSeason_46 (by decide) (ite_go h (fun hc h => ?_) (fun hc h => ?_))
  · refine rn_iconst (v := 0) dX9_goSeason_87 rfl ?_
    refine rn_istore_n (lv' := [(0, .ref 58), (1, .int x1), (2, .int 0)]) (hd := dX9_goSeason_88) (i := 2) (hi := rfl) (hn := by decide) (hf := rfl) (hl := rfl) ?_
    exact h
  · refine rn_aload_n (i := 0) (x := 58) dX9_goSeason_49 rfl (by simp) ?_
    refine rn_getr (t := 69) dX9_goSeason_50 rfl gf_X9_45 rfl rfl ?_
    refine rn_bipush (v := 14) dX9_goSeason_53 rfl ?_
    refine rn_iload_n (i := 2) (x := x2) dX9_goSeason_55 rfl (by simp) ?_
    refine rn_iadd dX9_goSeason_56 ?_
    refine rn_aload_n (i := 0) (x := 58) dX9_goSeason_57 rfl (by simp) ?_
    refine rn_getr (t := 69) dX9_goSeason_58 rfl gf_X9_45 rfl rfl ?_
    refine rn_bipush (v := 14) dX9_goSeason_61 rfl ?_
    refine rn_iload_n (i := 2) (x := x2) dX9_goSeason_63 rfl (by simp) ?_
    refine rn_iadd dX9_goSeason_64 ?_
    obtain ⟨hi, h⟩ := h
    refine rn_iaload dX9_goSeason_65 rfl hi ?_
    refine rn_aload_n (i := 0) (x := 58) dX9_goSeason_66 rfl (by simp) ?_
    refine rn_getr (t := 71) dX9_goSeason_67 rfl gf_X9_51 rfl rfl ?_
    refine rn_iload_n (i := 2) (x := x2) dX9_goSeason_70 rfl (by simp) ?_
    obtain ⟨hi, h⟩ := h
    refine rn_iaload dX9_goSeason_71 rfl hi ?_
    refine rn_iadd dX9_goSeason_72 ?_
    refine rn_iconst (v := 0) dX9_goSeason_73 rfl ?_
    refine rn_sipush (v := 999) dX9_goSeason_74 rfl ?_
    refine rn_callSi (as := [.int ((ri M 69 (nx (14 + x2))) + (ri M 71 (nx x2))), .int 0, .int 999]) (st := [.int (14 + x2), .ref 69]) dX9_goSeason_77 mf_X9_within lk_X9_280 sm_X9_within rfl (Nat.le_of_ble_eq_true rfl) (Nat.le_of_ble_eq_true rfl) rfl (RI.mono h (fun r2 M1 h => ?_))
    obtain ⟨hi, h⟩ := h
    have h := h _ rfl
    refine rn_iastore dX9_goSeason_80 rfl hi ?_
    generalize wi M1 69 (nx (14 + x2)) r2 = M3 at h ⊢
    refine rn_iinc (x := x2) (v := x2 + 1) (lv' := [(0, .ref 58), (1, .int x1), (2, .int (x2 + 1))]) dX9_goSeason_81 (by simp) rfl (by decide) rfl rfl ?_
    refine rn_goto (tgt := 41) dX9_goSeason_84 (by decide) ?_
    exact h
set_option maxRecDepth 20000 in
theorem sg_X9_goSeason_89 {d : Nat} {x1 : Int32} {x2 : Int32} {M : Mem} {K : (Mem → Prop)}  (h : (if ri M 58 35 ≤ x2 then (if x1 = 0 then (∀ M1, M1 = wi M 69 (nx 22) ((ri M 69 (nx 22)) + 1) → K M1) else (CV d μX9_dropStraw [.ref 58] M (fun M2 => (∀ M3, M3 = wi M2 69 (nx 22) ((ri M2 69 (nx 22)) + 1) → K M3)))) else (CI d μX9_isThere [.ref 58, .int x2] M (fun r5 M4 => (if r5 = 0 then RV (d + 1) μX9_goSeason 89 [(0, .ref 58), (1, .int x1), (2, .int (x2 + 1))] [] M4 K else (vp_in (14 + x2) 24 ∧ (if ri M4 69 (nx (14 + x2)) ≤ 0 then (CI d μX9_canVanish [.ref 58, .int x2] M4 (fun r7 M6 => (if r7 = 0 then (CV d μX9_shed [.ref 58, .int x2] M6 (fun M8 => RV (d + 1) μX9_goSeason 89 [(0, .ref 58), (1, .int x1), (2, .int (x2 + 1))] [] M8 K)) else (CV d μX9_vanish [.ref 58, .int x2] M6 (fun M9 => RV (d + 1) μX9_goSeason 89 [(0, .ref 58), (1, .int x1), (2, .int (x2 + 1))] [] M9 K))))) else RV (d + 1) μX9_goSeason 89 [(0, .ref 58), (1, .int x1), (2, .int (x2 + 1))] [] M4 K))))))) : RV (d + 1) μX9_goSeason 89 [(0, .ref 58), (1, .int x1), (2, .int x2)] [] M K := by
  show Rn (d + 1) μX9_goSeason 89 [(0, .ref 58), (1, .int x1), (2, .int x2)] [] M _
  refine rn_iload_n (i := 2) (x := x2) dX9_goSeason_89 rfl (by simp) ?_
  refine rn_aload_n (i := 0) (x := 58) dX9_goSeason_90 rfl (by simp) ?_
  refine rn_geti dX9_goSeason_91 rfl gf_X9_326 (by decide) ?_
  refine rn_icmp_ge (tgt := 147) dX9_goSeason_94 (by decide) (ite_go h (fun hc h => ?_) (fun hc h => ?_))
  · refine rn_iload_n (i := 1) (x := x1) dX9_goSeason_147 rfl (by simp) ?_
    refine rn_if_eq (tgt := 155) dX9_goSeason_148 (by decide) (ite_go h (fun hc h => ?_) (fun hc h => ?_))
    · refine rn_aload_n (i := 0) (x := 58) dX9_goSeason_155 rfl (by simp) ?_
      refine rn_getr (t := 69) dX9_goSeason_156 rfl gf_X9_45 rfl rfl ?_
      refine rn_bipush (v := 22) dX9_goSeason_159 rfl ?_
      refine rn_dup2 dX9_goSeason_161 rfl rfl ?_
      refine rn_iaload dX9_goSeason_162 rfl (by unfold vp_in; decide) ?_
      refine rn_iconst (v := 1) dX9_goSeason_163 rfl ?_
      refine rn_iadd dX9_goSeason_164 ?_
      have h := h _ rfl
      refine rn_iastore dX9_goSeason_165 rfl (by unfold vp_in; decide) ?_
      generalize wi M 69 (nx 22) ((ri M 69 (nx 22)) + 1) = M1 at h ⊢
      exact rn_ret dX9_goSeason_166 rfl ⟨rfl, h⟩
    · refine rn_aload_n (i := 0) (x := 58) dX9_goSeason_151 rfl (by simp) ?_
      refine rn_callVv (as := []) (st := []) dX9_goSeason_152 mf_X9_dropStraw lk_X9_350 im_X9_dropStraw rfl rfl rfl rfl (Nat.le_of_ble_eq_true rfl) (Nat.le_of_ble_eq_true rfl) rfl (RV.mono h (fun M2 h => ?_))
      refine rn_aload_n (i := 0) (x := 58) dX9_goSeason_155 rfl (by simp) ?_
      refine rn_getr (t := 69) dX9_goSeason_156 rfl gf_X9_45 rfl rfl ?_
      refine rn_bipush (v := 22) dX9_goSeason_159 rfl ?_
      refine rn_dup2 dX9_goSeason_161 rfl rfl ?_
      refine rn_iaload dX9_goSeason_162 rfl (by unfold vp_in; decide) ?_
      refine rn_iconst (v := 1) dX9_goSeason_163 rfl ?_
      refine rn_iadd dX9_goSeason_164 ?_
      have h := h _ rfl
      refine rn_iastore dX9_goSeason_165 rfl (by unfold vp_in; decide) ?_
      generalize wi M2 69 (nx 22) ((ri M2 69 (nx 22)) + 1) = M3 at h ⊢
      exact rn_ret dX9_goSeason_166 rfl ⟨rfl, h⟩
  · refine rn_aload_n (i := 0) (x := 58) dX9_goSeason_97 rfl (by simp) ?_
    refine rn_iload_n (i := 2) (x := x2) dX9_goSeason_98 rfl (by simp) ?_
    refine rn_callVi (as := [.int x2]) (st := []) dX9_goSeason_99 mf_X9_isThere lk_X9_335 im_X9_isThere rfl rfl rfl rfl (Nat.le_of_ble_eq_true rfl) (Nat.le_of_ble_eq_true rfl) rfl (RI.mono h (fun r5 M4 h => ?_))
    refine rn_if_eq (tgt := 141) dX9_goSeason_102 (by decide) (ite_go h (fun hc h => ?_) (fun hc h => ?_))
    · refine rn_iinc (x := x2) (v := x2 + 1) (lv' := [(0, .ref 58), (1, .int x1), (2, .int (x2 + 1))]) dX9_goSeason_141 (by simp) rfl (by decide) rfl rfl ?_
      refine rn_goto (tgt := 89) dX9_goSeason_144 (by decide) ?_
      exact h
    · refine rn_aload_n (i := 0) (x := 58) dX9_goSeason_105 rfl (by simp) ?_
      refine rn_getr (t := 69) dX9_goSeason_106 rfl gf_X9_45 rfl rfl ?_
      refine rn_bipush (v := 14) dX9_goSeason_109 rfl ?_
      refine rn_iload_n (i := 2) (x := x2) dX9_goSeason_111 rfl (by simp) ?_
      refine rn_iadd dX9_goSeason_112 ?_
      obtain ⟨hi, h⟩ := h
      refine rn_iaload dX9_goSeason_113 rfl hi ?_
      refine rn_if_le (tgt := 120) dX9_goSeason_114 (by decide) (ite_go h (fun hc h => ?_) (fun hc h => ?_))
      · refine rn_aload_n (i := 0) (x := 58) dX9_goSeason_120 rfl (by simp) ?_
        refine rn_iload_n (i := 2) (x := x2) dX9_goSeason_121 rfl (by simp) ?_
        refine rn_callVi (as := [.int x2]) (st := []) dX9_goSeason_122 mf_X9_canVanish lk_X9_341 im_X9_canVanish rfl rfl rfl rfl (Nat.le_of_ble_eq_true rfl) (Nat.le_of_ble_eq_true rfl) rfl (RI.mono h (fun r7 M6 h => ?_))
        refine rn_if_eq (tgt := 136) dX9_goSeason_125 (by decide) (ite_go h (fun hc h => ?_) (fun hc h => ?_))
        · refine rn_aload_n (i := 0) (x := 58) dX9_goSeason_136 rfl (by simp) ?_
          refine rn_iload_n (i := 2) (x := x2) dX9_goSeason_137 rfl (by simp) ?_
          refine rn_callVv (as := [.int x2]) (st := []) dX9_goSeason_138 mf_X9_shed lk_X9_347 im_X9_shed rfl rfl rfl rfl (Nat.le_of_ble_eq_true rfl) (Nat.le_of_ble_eq_true rfl) rfl (RV.mono h (fun M8 h => ?_))
          refine rn_iinc (x := x2) (v := x2 + 1) (lv' := [(0, .ref 58), (1, .int x1), (2, .int (x2 + 1))]) dX9_goSeason_141 (by simp) rfl (by decide) rfl rfl ?_
          refine rn_goto (tgt := 89) dX9_goSeason_144 (by decide) ?_
          exact h
        · refine rn_aload_n (i := 0) (x := 58) dX9_goSeason_128 rfl (by simp) ?_
          refine rn_iload_n (i := 2) (x := x2) dX9_goSeason_129 rfl (by simp) ?_
          refine rn_callVv (as := [.int x2]) (st := []) dX9_goSeason_130 mf_X9_vanish lk_X9_344 im_X9_vanish rfl rfl rfl rfl (Nat.le_of_ble_eq_true rfl) (Nat.le_of_ble_eq_true rfl) rfl (RV.mono h (fun M9 h => ?_))
          refine rn_goto (tgt := 141) dX9_goSeason_133 (by decide) ?_
          refine rn_iinc (x := x2) (v := x2 + 1) (lv' := [(0, .ref 58), (1, .int x1), (2, .int (x2 + 1))]) dX9_goSeason_141 (by simp) rfl (by decide) rfl rfl ?_
          refine rn_goto (tgt := 89) dX9_goSeason_144 (by decide) ?_
          exact h
      · refine rn_goto (tgt := 141) dX9_goSeason_117 (by decide) ?_
        refine rn_iinc (x := x2) (v := x2 + 1) (lv' := [(0, .ref 58), (1, .int x1), (2, .int (x2 + 1))]) dX9_goSeason_141 (by simp) rfl (by decide) rfl rfl ?_
        refine rn_goto (tgt := 89) dX9_goSeason_144 (by decide) ?_
        exact h
theorem dX9_dropStraw_0 : decode μX9_dropStraw.2.1 0 = .ok (.aload_n 0, 1) := by decide +kernel
theorem dX9_dropStraw_1 : decode μX9_dropStraw.2.1 1 = .ok (.getfield 45, 3) := by decide +kernel
theorem dX9_dropStraw_4 : decode μX9_dropStraw.2.1 4 = .ok (.bipush 23, 2) := by decide +kernel
theorem dX9_dropStraw_6 : decode μX9_dropStraw.2.1 6 = .ok (.aload_n 0, 1) := by decide +kernel
theorem dX9_dropStraw_7 : decode μX9_dropStraw.2.1 7 = .ok (.getfield 45, 3) := by decide +kernel
theorem dX9_dropStraw_10 : decode μX9_dropStraw.2.1 10 = .ok (.bipush 23, 2) := by decide +kernel
theorem dX9_dropStraw_12 : decode μX9_dropStraw.2.1 12 = .ok (.iaload, 1) := by decide +kernel
theorem dX9_dropStraw_13 : decode μX9_dropStraw.2.1 13 = .ok (.sipush 137, 3) := by decide +kernel
theorem dX9_dropStraw_16 : decode μX9_dropStraw.2.1 16 = .ok (.imul, 1) := by decide +kernel
theorem dX9_dropStraw_17 : decode μX9_dropStraw.2.1 17 = .ok (.bipush 71, 2) := by decide +kernel
theorem dX9_dropStraw_19 : decode μX9_dropStraw.2.1 19 = .ok (.iadd, 1) := by decide +kernel
theorem dX9_dropStraw_20 : decode μX9_dropStraw.2.1 20 = .ok (.sipush 1000, 3) := by decide +kernel
theorem dX9_dropStraw_23 : decode μX9_dropStraw.2.1 23 = .ok (.irem, 1) := by decide +kernel
theorem dX9_dropStraw_24 : decode μX9_dropStraw.2.1 24 = .ok (.iastore, 1) := by decide +kernel
theorem dX9_dropStraw_25 : decode μX9_dropStraw.2.1 25 = .ok (.aload_n 0, 1) := by decide +kernel
theorem dX9_dropStraw_26 : decode μX9_dropStraw.2.1 26 = .ok (.getfield 45, 3) := by decide +kernel
theorem dX9_dropStraw_29 : decode μX9_dropStraw.2.1 29 = .ok (.bipush 23, 2) := by decide +kernel
theorem dX9_dropStraw_31 : decode μX9_dropStraw.2.1 31 = .ok (.iaload, 1) := by decide +kernel
theorem dX9_dropStraw_32 : decode μX9_dropStraw.2.1 32 = .ok (.bipush 100, 2) := by decide +kernel
theorem dX9_dropStraw_34 : decode μX9_dropStraw.2.1 34 = .ok (.irem, 1) := by decide +kernel
theorem dX9_dropStraw_35 : decode μX9_dropStraw.2.1 35 = .ok (.aload_n 0, 1) := by decide +kernel
theorem dX9_dropStraw_36 : decode μX9_dropStraw.2.1 36 = .ok (.getfield 353, 3) := by decide +kernel
theorem dX9_dropStraw_39 : decode μX9_dropStraw.2.1 39 = .ok (.if_icmp .ge 13, 3) := by decide +kernel
theorem dX9_dropStraw_42 : decode μX9_dropStraw.2.1 42 = .ok (.aload_n 0, 1) := by decide +kernel
theorem dX9_dropStraw_43 : decode μX9_dropStraw.2.1 43 = .ok (.getfield 45, 3) := by decide +kernel
theorem dX9_dropStraw_46 : decode μX9_dropStraw.2.1 46 = .ok (.bipush 12, 2) := by decide +kernel
theorem dX9_dropStraw_48 : decode μX9_dropStraw.2.1 48 = .ok (.iaload, 1) := by decide +kernel
theorem dX9_dropStraw_49 : decode μX9_dropStraw.2.1 49 = .ok (.ifCond .ne 4, 3) := by decide +kernel
theorem dX9_dropStraw_52 : decode μX9_dropStraw.2.1 52 = .ok (.return_, 1) := by decide +kernel
theorem dX9_dropStraw_53 : decode μX9_dropStraw.2.1 53 = .ok (.aload_n 0, 1) := by decide +kernel
theorem dX9_dropStraw_54 : decode μX9_dropStraw.2.1 54 = .ok (.getfield 45, 3) := by decide +kernel
theorem dX9_dropStraw_57 : decode μX9_dropStraw.2.1 57 = .ok (.aload_n 0, 1) := by decide +kernel
theorem dX9_dropStraw_58 : decode μX9_dropStraw.2.1 58 = .ok (.getfield 45, 3) := by decide +kernel
theorem dX9_dropStraw_61 : decode μX9_dropStraw.2.1 61 = .ok (.bipush 23, 2) := by decide +kernel
theorem dX9_dropStraw_63 : decode μX9_dropStraw.2.1 63 = .ok (.iaload, 1) := by decide +kernel
theorem dX9_dropStraw_64 : decode μX9_dropStraw.2.1 64 = .ok (.aload_n 0, 1) := by decide +kernel
theorem dX9_dropStraw_65 : decode μX9_dropStraw.2.1 65 = .ok (.getfield 45, 3) := by decide +kernel
theorem dX9_dropStraw_68 : decode μX9_dropStraw.2.1 68 = .ok (.bipush 12, 2) := by decide +kernel
theorem dX9_dropStraw_70 : decode μX9_dropStraw.2.1 70 = .ok (.iaload, 1) := by decide +kernel
theorem dX9_dropStraw_71 : decode μX9_dropStraw.2.1 71 = .ok (.irem, 1) := by decide +kernel
theorem dX9_dropStraw_72 : decode μX9_dropStraw.2.1 72 = .ok (.iaload, 1) := by decide +kernel
theorem dX9_dropStraw_73 : decode μX9_dropStraw.2.1 73 = .ok (.istore_n 1, 1) := by decide +kernel
theorem dX9_dropStraw_74 : decode μX9_dropStraw.2.1 74 = .ok (.aload_n 0, 1) := by decide +kernel
theorem dX9_dropStraw_75 : decode μX9_dropStraw.2.1 75 = .ok (.iload_n 1, 1) := by decide +kernel
theorem dX9_dropStraw_76 : decode μX9_dropStraw.2.1 76 = .ok (.iconst 0, 1) := by decide +kernel
theorem dX9_dropStraw_77 : decode μX9_dropStraw.2.1 77 = .ok (.invokestatic 320, 3) := by decide +kernel
theorem dX9_dropStraw_80 : decode μX9_dropStraw.2.1 80 = .ok (.iload_n 1, 1) := by decide +kernel
theorem dX9_dropStraw_81 : decode μX9_dropStraw.2.1 81 = .ok (.iconst 1, 1) := by decide +kernel
theorem dX9_dropStraw_82 : decode μX9_dropStraw.2.1 82 = .ok (.invokestatic 320, 3) := by decide +kernel
theorem dX9_dropStraw_85 : decode μX9_dropStraw.2.1 85 = .ok (.invokevirtual 329, 3) := by decide +kernel
theorem dX9_dropStraw_88 : decode μX9_dropStraw.2.1 88 = .ok (.ifCond .eq 18, 3) := by decide +kernel
theorem dX9_dropStraw_91 : decode μX9_dropStraw.2.1 91 = .ok (.aload_n 0, 1) := by decide +kernel
theorem dX9_dropStraw_92 : decode μX9_dropStraw.2.1 92 = .ok (.iload_n 1, 1) := by decide +kernel
theorem dX9_dropStraw_93 : decode μX9_dropStraw.2.1 93 = .ok (.iconst 0, 1) := by decide +kernel
theorem dX9_dropStraw_94 : decode μX9_dropStraw.2.1 94 = .ok (.invokestatic 320, 3) := by decide +kernel
theorem dX9_dropStraw_97 : decode μX9_dropStraw.2.1 97 = .ok (.iload_n 1, 1) := by decide +kernel
theorem dX9_dropStraw_98 : decode μX9_dropStraw.2.1 98 = .ok (.iconst 1, 1) := by decide +kernel
theorem dX9_dropStraw_99 : decode μX9_dropStraw.2.1 99 = .ok (.invokestatic 320, 3) := by decide +kernel
theorem dX9_dropStraw_102 : decode μX9_dropStraw.2.1 102 = .ok (.invokevirtual 332, 3) := by decide +kernel
theorem dX9_dropStraw_105 : decode μX9_dropStraw.2.1 105 = .ok (.pop, 1) := by decide +kernel
theorem dX9_dropStraw_106 : decode μX9_dropStraw.2.1 106 = .ok (.return_, 1) := by decide +kernel
set_option maxRecDepth 20000 in
theorem sg_X9_dropStraw_0 {d : Nat}  {M : Mem} {K : (Mem → Prop)}  (h : (∀ M1, M1 = wi M 69 (nx 23) ((((ri M 69 (nx 23)) * 137) + 71) - (((ri M 69 (nx 23)) * 137) + 71) / 1000 * 1000) → (if ri M1 58 36 ≤ (ri M1 69 (nx 23)) - (ri M1 69 (nx 23)) / 100 * 100 then K M1 else (if ri M1 69 (nx 12) = 0 then K M1 else (¬ ri M1 69 (nx 12) = 0 ∧ (vp_in ((ri M1 69 (nx 23)) - (ri M1 69 (nx 23)) / (ri M1 69 (nx 12)) * (ri M1 69 (nx 12))) 24 ∧ (CI d μX9_lordOf [.int (ri M1 69 (nx ((ri M1 69 (nx 23)) - (ri M1 69 (nx 23)) / (ri M1 69 (nx 12)) * (ri M1 69 (nx 12))))), .int 0] M1 (fun r3 M2 => (CI d μX9_lordOf [.int (ri M1 69 (nx ((ri M1 69 (nx 23)) - (ri M1 69 (nx 23)) / (ri M1 69 (nx 12)) * (ri M1 69 (nx 12))))), .int 1] M2 (fun r5 M4 => (CI d μX9_canFlip [.ref 58, .int r3, .int r5] M4 (fun r7 M6 => (if r7 = 0 then K M6 else (CI d μX9_lordOf [.int (ri M1 69 (nx ((ri M1 69 (nx 23)) - (ri M1 69 (nx 23)) / (ri M1 69 (nx 12)) * (ri M1 69 (nx 12))))), .int 0] M6 (fun r9 M8 => (CI d μX9_lordOf [.int (ri M1 69 (nx ((ri M1 69 (nx 23)) - (ri M1 69 (nx 23)) / (ri M1 69 (nx 12)) * (ri M1 69 (nx 12))))), .int 1] M8 (fun r11 M10 => (CI d μX9_doFlip [.ref 58, .int r9, .int r11] M10 (fun r13 M12 => K M12))))))))))))))))))) : CV (d + 1) μX9_dropStraw [.ref 58] M K := by
  show Rn (d + 1) μX9_dropStraw 0 [(0, .ref 58)] [] M _
  refine rn_aload_n (i := 0) (x := 58) dX9_dropStraw_0 rfl (by simp) ?_
  refine rn_getr (t := 69) dX9_dropStraw_1 rfl gf_X9_45 rfl rfl ?_
  refine rn_bipush (v := 23) dX9_dropStraw_4 rfl ?_
  refine rn_aload_n (i := 0) (x := 58) dX9_dropStraw_6 rfl (by simp) ?_
  refine rn_getr (t := 69) dX9_dropStraw_7 rfl gf_X9_45 rfl rfl ?_
  refine rn_bipush (v := 23) dX9_dropStraw_10 rfl ?_
  refine rn_iaload dX9_dropStraw_12 rfl (by unfold vp_in; decide) ?_
  refine rn_sipush (v := 137) dX9_dropStraw_13 rfl ?_
  refine rn_imul dX9_dropStraw_16 ?_
  refine rn_bipush (v := 71) dX9_dropStraw_17 rfl ?_
  refine rn_iadd dX9_dropStraw_19 ?_
  refine rn_sipush (v := 1000) dX9_dropStraw_20 rfl ?_
  refine rn_irem dX9_dropStraw_23 (by decide) ?_
  have h := h _ rfl
  refine rn_iastore dX9_dropStraw_24 rfl (by unfold vp_in; decide) ?_
  generalize wi M 69 (nx 23) ((((ri M 69 (nx 23)) * 137) + 71) - (((ri M 69 (nx 23)) * 137) + 71) / 1000 * 1000) = M1 at h ⊢
  refine rn_aload_n (i := 0) (x := 58) dX9_dropStraw_25 rfl (by simp) ?_
  refine rn_getr (t := 69) dX9_dropStraw_26 rfl gf_X9_45 rfl rfl ?_
  refine rn_bipush (v := 23) dX9_dropStraw_29 rfl ?_
  refine rn_iaload dX9_dropStraw_31 rfl (by unfold vp_in; decide) ?_
  refine rn_bipush (v := 100) dX9_dropStraw_32 rfl ?_
  refine rn_irem dX9_dropStraw_34 (by decide) ?_
  refine rn_aload_n (i := 0) (x := 58) dX9_dropStraw_35 rfl (by simp) ?_
  refine rn_geti dX9_dropStraw_36 rfl gf_X9_353 (by decide) ?_
  refine rn_icmp_ge (tgt := 52) dX9_dropStraw_39 (by decide) (ite_go h (fun hc h => ?_) (fun hc h => ?_))
  · exact rn_ret dX9_dropStraw_52 rfl ⟨rfl, h⟩
  · refine rn_aload_n (i := 0) (x := 58) dX9_dropStraw_42 rfl (by simp) ?_
    refine rn_getr (t := 69) dX9_dropStraw_43 rfl gf_X9_45 rfl rfl ?_
    refine rn_bipush (v := 12) dX9_dropStraw_46 rfl ?_
    refine rn_iaload dX9_dropStraw_48 rfl (by unfold vp_in; decide) ?_
    refine rn_if_ne (tgt := 53) dX9_dropStraw_49 (by decide) (ite_go h (fun hc h => ?_) (fun hc h => ?_))
    · exact rn_ret dX9_dropStraw_52 rfl ⟨rfl, h⟩
    · refine rn_aload_n (i := 0) (x := 58) dX9_dropStraw_53 rfl (by simp) ?_
      refine rn_getr (t := 69) dX9_dropStraw_54 rfl gf_X9_45 rfl rfl ?_
      refine rn_aload_n (i := 0) (x := 58) dX9_dropStraw_57 rfl (by simp) ?_
      refine rn_getr (t := 69) dX9_dropStraw_58 rfl gf_X9_45 rfl rfl ?_
      refine rn_bipush (v := 23) dX9_dropStraw_61 rfl ?_
      refine rn_iaload dX9_dropStraw_63 rfl (by unfold vp_in; decide) ?_
      refine rn_aload_n (i := 0) (x := 58) dX9_dropStraw_64 rfl (by simp) ?_
      refine rn_getr (t := 69) dX9_dropStraw_65 rfl gf_X9_45 rfl rfl ?_
      refine rn_bipush (v := 12) dX9_dropStraw_68 rfl ?_
      refine rn_iaload dX9_dropStraw_70 rfl (by unfold vp_in; decide) ?_
      obtain ⟨hne, h⟩ := h
      refine rn_irem dX9_dropStraw_71 hne ?_
      obtain ⟨hi, h⟩ := h
      refine rn_iaload dX9_dropStraw_72 rfl hi ?_
      refine rn_istore_n (lv' := [(0, .ref 58), (1, .int (ri M1 69 (nx ((ri M1 69 (nx 23)) - (ri M1 69 (nx 23)) / (ri M1 69 (nx 12)) * (ri M1 69 (nx 12))))))]) (hd := dX9_dropStraw_73) (i := 1) (hi := rfl) (hn := by decide) (hf := rfl) (hl := rfl) ?_
      refine rn_aload_n (i := 0) (x := 58) dX9_dropStraw_74 rfl (by simp) ?_
      refine rn_iload_n (i := 1) (x := ri M1 69 (nx ((ri M1 69 (nx 23)) - (ri M1 69 (nx 23)) / (ri M1 69 (nx 12)) * (ri M1 69 (nx 12))))) dX9_dropStraw_75 rfl (by simp) ?_
      refine rn_iconst (v := 0) dX9_dropStraw_76 rfl ?_
      refine rn_callSi (as := [.int (ri M1 69 (nx ((ri M1 69 (nx 23)) - (ri M1 69 (nx 23)) / (ri M1 69 (nx 12)) * (ri M1 69 (nx 12))))), .int 0]) (st := [.ref 58]) dX9_dropStraw_77 mf_X9_lordOf lk_X9_320 sm_X9_lordOf rfl (Nat.le_of_ble_eq_true rfl) (Nat.le_of_ble_eq_true rfl) rfl (RI.mono h (fun r3 M2 h => ?_))
      refine rn_iload_n (i := 1) (x := ri M1 69 (nx ((ri M1 69 (nx 23)) - (ri M1 69 (nx 23)) / (ri M1 69 (nx 12)) * (ri M1 69 (nx 12))))) dX9_dropStraw_80 rfl (by simp) ?_
      refine rn_iconst (v := 1) dX9_dropStraw_81 rfl ?_
      refine rn_callSi (as := [.int (ri M1 69 (nx ((ri M1 69 (nx 23)) - (ri M1 69 (nx 23)) / (ri M1 69 (nx 12)) * (ri M1 69 (nx 12))))), .int 1]) (st := [.int r3, .ref 58]) dX9_dropStraw_82 mf_X9_lordOf lk_X9_320 sm_X9_lordOf rfl (Nat.le_of_ble_eq_true rfl) (Nat.le_of_ble_eq_true rfl) rfl (RI.mono h (fun r5 M4 h => ?_))
      refine rn_callVi (as := [.int r3, .int r5]) (st := []) dX9_dropStraw_85 mf_X9_canFlip lk_X9_329 im_X9_canFlip rfl rfl rfl rfl (Nat.le_of_ble_eq_true rfl) (Nat.le_of_ble_eq_true rfl) rfl (RI.mono h (fun r7 M6 h => ?_))
      refine rn_if_eq (tgt := 106) dX9_dropStraw_88 (by decide) (ite_go h (fun hc h => ?_) (fun hc h => ?_))
      · exact rn_ret dX9_dropStraw_106 rfl ⟨rfl, h⟩
      · refine rn_aload_n (i := 0) (x := 58) dX9_dropStraw_91 rfl (by simp) ?_
        refine rn_iload_n (i := 1) (x := ri M1 69 (nx ((ri M1 69 (nx 23)) - (ri M1 69 (nx 23)) / (ri M1 69 (nx 12)) * (ri M1 69 (nx 12))))) dX9_dropStraw_92 rfl (by simp) ?_
        refine rn_iconst (v := 0) dX9_dropStraw_93 rfl ?_
        refine rn_callSi (as := [.int (ri M1 69 (nx ((ri M1 69 (nx 23)) - (ri M1 69 (nx 23)) / (ri M1 69 (nx 12)) * (ri M1 69 (nx 12))))), .int 0]) (st := [.ref 58]) dX9_dropStraw_94 mf_X9_lordOf lk_X9_320 sm_X9_lordOf rfl (Nat.le_of_ble_eq_true rfl) (Nat.le_of_ble_eq_true rfl) rfl (RI.mono h (fun r9 M8 h => ?_))
        refine rn_iload_n (i := 1) (x := ri M1 69 (nx ((ri M1 69 (nx 23)) - (ri M1 69 (nx 23)) / (ri M1 69 (nx 12)) * (ri M1 69 (nx 12))))) dX9_dropStraw_97 rfl (by simp) ?_
        refine rn_iconst (v := 1) dX9_dropStraw_98 rfl ?_
        refine rn_callSi (as := [.int (ri M1 69 (nx ((ri M1 69 (nx 23)) - (ri M1 69 (nx 23)) / (ri M1 69 (nx 12)) * (ri M1 69 (nx 12))))), .int 1]) (st := [.int r9, .ref 58]) dX9_dropStraw_99 mf_X9_lordOf lk_X9_320 sm_X9_lordOf rfl (Nat.le_of_ble_eq_true rfl) (Nat.le_of_ble_eq_true rfl) rfl (RI.mono h (fun r11 M10 h => ?_))
        refine rn_callVi (as := [.int r9, .int r11]) (st := []) dX9_dropStraw_102 mf_X9_doFlip lk_X9_332 im_X9_doFlip rfl rfl rfl rfl (Nat.le_of_ble_eq_true rfl) (Nat.le_of_ble_eq_true rfl) rfl (RI.mono h (fun r13 M12 h => ?_))
        refine rn_pop dX9_dropStraw_105 rfl ?_
        exact rn_ret dX9_dropStraw_106 rfl ⟨rfl, h⟩
theorem dX9_readBirth_0 : decode μX9_readBirth.2.1 0 = .ok (.aload_n 0, 1) := by decide +kernel
theorem dX9_readBirth_1 : decode μX9_readBirth.2.1 1 = .ok (.ldc2_w 150, 3) := by decide +kernel
theorem dX9_readBirth_4 : decode μX9_readBirth.2.1 4 = .ok (.invokevirtual 188, 3) := by decide +kernel
theorem dX9_readBirth_7 : decode μX9_readBirth.2.1 7 = .ok (.aload_n 0, 1) := by decide +kernel
theorem dX9_readBirth_8 : decode μX9_readBirth.2.1 8 = .ok (.invokevirtual 356, 3) := by decide +kernel
theorem dX9_readBirth_11 : decode μX9_readBirth.2.1 11 = .ok (.istore_n 1, 1) := by decide +kernel
theorem dX9_readBirth_12 : decode μX9_readBirth.2.1 12 = .ok (.aload_n 0, 1) := by decide +kernel
theorem dX9_readBirth_13 : decode μX9_readBirth.2.1 13 = .ok (.getfield 143, 3) := by decide +kernel
theorem dX9_readBirth_16 : decode μX9_readBirth.2.1 16 = .ok (.ifCond .ne 7, 3) := by decide +kernel
theorem dX9_readBirth_19 : decode μX9_readBirth.2.1 19 = .ok (.aload_n 0, 1) := by decide +kernel
theorem dX9_readBirth_20 : decode μX9_readBirth.2.1 20 = .ok (.invokevirtual 185, 3) := by decide +kernel
theorem dX9_readBirth_23 : decode μX9_readBirth.2.1 23 = .ok (.aload_n 0, 1) := by decide +kernel
theorem dX9_readBirth_24 : decode μX9_readBirth.2.1 24 = .ok (.invokevirtual 356, 3) := by decide +kernel
theorem dX9_readBirth_27 : decode μX9_readBirth.2.1 27 = .ok (.istore_n 2, 1) := by decide +kernel
theorem dX9_readBirth_28 : decode μX9_readBirth.2.1 28 = .ok (.aload_n 0, 1) := by decide +kernel
theorem dX9_readBirth_29 : decode μX9_readBirth.2.1 29 = .ok (.getfield 143, 3) := by decide +kernel
theorem dX9_readBirth_32 : decode μX9_readBirth.2.1 32 = .ok (.ifCond .ne 7, 3) := by decide +kernel
theorem dX9_readBirth_35 : decode μX9_readBirth.2.1 35 = .ok (.aload_n 0, 1) := by decide +kernel
theorem dX9_readBirth_36 : decode μX9_readBirth.2.1 36 = .ok (.invokevirtual 185, 3) := by decide +kernel
theorem dX9_readBirth_39 : decode μX9_readBirth.2.1 39 = .ok (.aload_n 0, 1) := by decide +kernel
theorem dX9_readBirth_40 : decode μX9_readBirth.2.1 40 = .ok (.invokevirtual 356, 3) := by decide +kernel
theorem dX9_readBirth_43 : decode μX9_readBirth.2.1 43 = .ok (.istore_n 3, 1) := by decide +kernel
theorem dX9_readBirth_44 : decode μX9_readBirth.2.1 44 = .ok (.aload_n 0, 1) := by decide +kernel
theorem dX9_readBirth_45 : decode μX9_readBirth.2.1 45 = .ok (.getfield 143, 3) := by decide +kernel
theorem dX9_readBirth_48 : decode μX9_readBirth.2.1 48 = .ok (.ifCond .ne 36, 3) := by decide +kernel
theorem dX9_readBirth_51 : decode μX9_readBirth.2.1 51 = .ok (.iload_n 1, 1) := by decide +kernel
theorem dX9_readBirth_52 : decode μX9_readBirth.2.1 52 = .ok (.iload_n 2, 1) := by decide +kernel
theorem dX9_readBirth_53 : decode μX9_readBirth.2.1 53 = .ok (.if_icmp .eq 26, 3) := by decide +kernel
theorem dX9_readBirth_56 : decode μX9_readBirth.2.1 56 = .ok (.iload_n 1, 1) := by decide +kernel
theorem dX9_readBirth_57 : decode μX9_readBirth.2.1 57 = .ok (.iload_n 3, 1) := by decide +kernel
theorem dX9_readBirth_58 : decode μX9_readBirth.2.1 58 = .ok (.if_icmp .eq 21, 3) := by decide +kernel
theorem dX9_readBirth_61 : decode μX9_readBirth.2.1 61 = .ok (.iload_n 2, 1) := by decide +kernel
theorem dX9_readBirth_62 : decode μX9_readBirth.2.1 62 = .ok (.iload_n 3, 1) := by decide +kernel
theorem dX9_readBirth_63 : decode μX9_readBirth.2.1 63 = .ok (.if_icmp .eq 16, 3) := by decide +kernel
theorem dX9_readBirth_66 : decode μX9_readBirth.2.1 66 = .ok (.aload_n 0, 1) := by decide +kernel
theorem dX9_readBirth_67 : decode μX9_readBirth.2.1 67 = .ok (.iload_n 1, 1) := by decide +kernel
theorem dX9_readBirth_68 : decode μX9_readBirth.2.1 68 = .ok (.iload_n 2, 1) := by decide +kernel
theorem dX9_readBirth_69 : decode μX9_readBirth.2.1 69 = .ok (.iload_n 3, 1) := by decide +kernel
theorem dX9_readBirth_70 : decode μX9_readBirth.2.1 70 = .ok (.invokestatic 297, 3) := by decide +kernel
theorem dX9_readBirth_73 : decode μX9_readBirth.2.1 73 = .ok (.invokevirtual 359, 3) := by decide +kernel
theorem dX9_readBirth_76 : decode μX9_readBirth.2.1 76 = .ok (.ifCond .ne 8, 3) := by decide +kernel
theorem dX9_readBirth_79 : decode μX9_readBirth.2.1 79 = .ok (.aload_n 0, 1) := by decide +kernel
theorem dX9_readBirth_80 : decode μX9_readBirth.2.1 80 = .ok (.iconst 3, 1) := by decide +kernel
theorem dX9_readBirth_81 : decode μX9_readBirth.2.1 81 = .ok (.invokevirtual 182, 3) := by decide +kernel
theorem dX9_readBirth_84 : decode μX9_readBirth.2.1 84 = .ok (.aload_n 0, 1) := by decide +kernel
theorem dX9_readBirth_85 : decode μX9_readBirth.2.1 85 = .ok (.getfield 143, 3) := by decide +kernel
theorem dX9_readBirth_88 : decode μX9_readBirth.2.1 88 = .ok (.ifCond .le 4, 3) := by decide +kernel
theorem dX9_readBirth_91 : decode μX9_readBirth.2.1 91 = .ok (.return_, 1) := by decide +kernel
theorem dX9_readBirth_92 : decode μX9_readBirth.2.1 92 = .ok (.aload_n 0, 1) := by decide +kernel
theorem dX9_readBirth_93 : decode μX9_readBirth.2.1 93 = .ok (.invokevirtual 185, 3) := by decide +kernel
theorem dX9_readBirth_96 : decode μX9_readBirth.2.1 96 = .ok (.aload_n 0, 1) := by decide +kernel
theorem dX9_readBirth_97 : decode μX9_readBirth.2.1 97 = .ok (.iload_n 1, 1) := by decide +kernel
theorem dX9_readBirth_98 : decode μX9_readBirth.2.1 98 = .ok (.iload_n 2, 1) := by decide +kernel
theorem dX9_readBirth_99 : decode μX9_readBirth.2.1 99 = .ok (.iload_n 3, 1) := by decide +kernel
theorem dX9_readBirth_100 : decode μX9_readBirth.2.1 100 = .ok (.invokestatic 297, 3) := by decide +kernel
theorem dX9_readBirth_103 : decode μX9_readBirth.2.1 103 = .ok (.invokevirtual 313, 3) := by decide +kernel
theorem dX9_readBirth_106 : decode μX9_readBirth.2.1 106 = .ok (.aload_n 0, 1) := by decide +kernel
theorem dX9_readBirth_107 : decode μX9_readBirth.2.1 107 = .ok (.iload_n 1, 1) := by decide +kernel
theorem dX9_readBirth_108 : decode μX9_readBirth.2.1 108 = .ok (.iload_n 2, 1) := by decide +kernel
theorem dX9_readBirth_109 : decode μX9_readBirth.2.1 109 = .ok (.aload_n 0, 1) := by decide +kernel
theorem dX9_readBirth_110 : decode μX9_readBirth.2.1 110 = .ok (.getfield 195, 3) := by decide +kernel
theorem dX9_readBirth_113 : decode μX9_readBirth.2.1 113 = .ok (.invokevirtual 316, 3) := by decide +kernel
theorem dX9_readBirth_116 : decode μX9_readBirth.2.1 116 = .ok (.aload_n 0, 1) := by decide +kernel
theorem dX9_readBirth_117 : decode μX9_readBirth.2.1 117 = .ok (.iload_n 1, 1) := by decide +kernel
theorem dX9_readBirth_118 : decode μX9_readBirth.2.1 118 = .ok (.iload_n 3, 1) := by decide +kernel
theorem dX9_readBirth_119 : decode μX9_readBirth.2.1 119 = .ok (.aload_n 0, 1) := by decide +kernel
theorem dX9_readBirth_120 : decode μX9_readBirth.2.1 120 = .ok (.getfield 195, 3) := by decide +kernel
theorem dX9_readBirth_123 : decode μX9_readBirth.2.1 123 = .ok (.invokevirtual 316, 3) := by decide +kernel
theorem dX9_readBirth_126 : decode μX9_readBirth.2.1 126 = .ok (.aload_n 0, 1) := by decide +kernel
theorem dX9_readBirth_127 : decode μX9_readBirth.2.1 127 = .ok (.iload_n 2, 1) := by decide +kernel
theorem dX9_readBirth_128 : decode μX9_readBirth.2.1 128 = .ok (.iload_n 3, 1) := by decide +kernel
theorem dX9_readBirth_129 : decode μX9_readBirth.2.1 129 = .ok (.aload_n 0, 1) := by decide +kernel
theorem dX9_readBirth_130 : decode μX9_readBirth.2.1 130 = .ok (.getfield 195, 3) := by decide +kernel
theorem dX9_readBirth_133 : decode μX9_readBirth.2.1 133 = .ok (.invokevirtual 316, 3) := by decide +kernel
theorem dX9_readBirth_136 : decode μX9_readBirth.2.1 136 = .ok (.return_, 1) := by decide +kernel
set_option maxRecDepth 20000 in
theorem sg_X9_readBirth_0 {d : Nat}  {M : Mem} {K : (Mem → Prop)}  (h : (CV d μX9_want [.ref 58, .long 24948] M (fun M1 => (CI d μX9_oldLord [.ref 58] M1 (fun r3 M2 => (if ri M2 58 2 = 0 then (CV d μX9_token [.ref 58] M2 (fun M4 => RV (d + 1) μX9_readBirth 23 [(0, .ref 58), (1, .int r3)] [] M4 K)) else RV (d + 1) μX9_readBirth 23 [(0, .ref 58), (1, .int r3)] [] M2 K)))))) : CV (d + 1) μX9_readBirth [.ref 58] M K := by
  show Rn (d + 1) μX9_readBirth 0 [(0, .ref 58)] [] M _
  refine rn_aload_n (i := 0) (x := 58) dX9_readBirth_0 rfl (by simp) ?_
  refine rn_ldc2 (v := 24948) dX9_readBirth_1 lk_X9_150 ?_
  refine rn_callVv (as := [.long 24948]) (st := []) dX9_readBirth_4 mf_X9_want lk_X9_188 im_X9_want rfl rfl rfl rfl (Nat.le_of_ble_eq_true rfl) (Nat.le_of_ble_eq_true rfl) rfl (RV.mono h (fun M1 h => ?_))
  refine rn_aload_n (i := 0) (x := 58) dX9_readBirth_7 rfl (by simp) ?_
  refine rn_callVi (as := []) (st := []) dX9_readBirth_8 mf_X9_oldLord lk_X9_356 im_X9_oldLord rfl rfl rfl rfl (Nat.le_of_ble_eq_true rfl) (Nat.le_of_ble_eq_true rfl) rfl (RI.mono h (fun r3 M2 h => ?_))
  refine rn_istore_n (lv' := [(0, .ref 58), (1, .int r3)]) (hd := dX9_readBirth_11) (i := 1) (hi := rfl) (hn := by decide) (hf := rfl) (hl := rfl) ?_
  refine rn_aload_n (i := 0) (x := 58) dX9_readBirth_12 rfl (by simp) ?_
  refine rn_geti dX9_readBirth_13 rfl gf_X9_143 (by decide) ?_
  refine rn_if_ne (tgt := 23) dX9_readBirth_16 (by decide) (ite_go h (fun hc h => ?_) (fun hc h => ?_))
  · refine rn_aload_n (i := 0) (x := 58) dX9_readBirth_19 rfl (by simp) ?_
    refine rn_callVv (as := []) (st := []) dX9_readBirth_20 mf_X9_token lk_X9_185 im_X9_token rfl rfl rfl rfl (Nat.le_of_ble_eq_true rfl) (Nat.le_of_ble_eq_true rfl) rfl (RV.mono h (fun M4 h => ?_))
    exact h
  · exact h
set_option maxRecDepth 20000 in
theorem sg_X9_readBirth_23 {d : Nat} {x1 : Int32} {M : Mem} {K : (Mem → Prop)}  (h : (CI d μX9_oldLord [.ref 58] M (fun r2 M1 => (if ri M1 58 2 = 0 then (CV d μX9_token [.ref 58] M1 (fun M3 => RV (d + 1) μX9_readBirth 39 [(0, .ref 58), (1, .int x1), (2, .int r2)] [] M3 K)) else RV (d + 1) μX9_readBirth 39 [(0, .ref 58), (1, .int x1), (2, .int r2)] [] M1 K)))) : RV (d + 1) μX9_readBirth 23 [(0, .ref 58), (1, .int x1)] [] M K := by
  show Rn (d + 1) μX9_readBirth 23 [(0, .ref 58), (1, .int x1)] [] M _
  refine rn_aload_n (i := 0) (x := 58) dX9_readBirth_23 rfl (by simp) ?_
  refine rn_callVi (as := []) (st := []) dX9_readBirth_24 mf_X9_oldLord lk_X9_356 im_X9_oldLord rfl rfl rfl rfl (Nat.le_of_ble_eq_true rfl) (Nat.le_of_ble_eq_true rfl) rfl (RI.mono h (fun r2 M1 h => ?_))
  refine rn_istore_n (lv' := [(0, .ref 58), (1, .int x1), (2, .int r2)]) (hd := dX9_readBirth_27) (i := 2) (hi := rfl) (hn := by decide) (hf := rfl) (hl := rfl) ?_
  refine rn_aload_n (i := 0) (x := 58) dX9_readBirth_28 rfl (by simp) ?_
  refine rn_geti dX9_readBirth_29 rfl gf_X9_143 (by decide) ?_
  refine rn_if_ne (tgt := 39) dX9_readBirth_32 (by decide) (ite_go h (fun hc h => ?_) (fun hc h => ?_))
  · refine rn_aload_n (i := 0) (x := 58) dX9_readBirth_35 rfl (by simp) ?_
    refine rn_callVv (as := []) (st := []) dX9_readBirth_36 mf_X9_token lk_X9_185 im_X9_token rfl rfl rfl rfl (Nat.le_of_ble_eq_true rfl) (Nat.le_of_ble_eq_true rfl) rfl (RV.mono h (fun M3 h => ?_))
    exact h
  · exact h
set_option maxRecDepth 20000 in
theorem sg_X9_readBirth_39 {d : Nat} {x1 : Int32} {x2 : Int32} {M : Mem} {K : (Mem → Prop)}  (h : (CI d μX9_oldLord [.ref 58] M (fun r2 M1 => (if ri M1 58 2 = 0 then (if x1 = x2 then (CV d μX9_wrong [.ref 58, .int 3] M1 (fun M3 => RV (d + 1) μX9_readBirth 84 [(0, .ref 58), (1, .int x1), (2, .int x2), (3, .int r2)] [] M3 K)) else (if x1 = r2 then (CV d μX9_wrong [.ref 58, .int 3] M1 (fun M4 => RV (d + 1) μX9_readBirth 84 [(0, .ref 58), (1, .int x1), (2, .int x2), (3, .int r2)] [] M4 K)) else (if x2 = r2 then (CV d μX9_wrong [.ref 58, .int 3] M1 (fun M5 => RV (d + 1) μX9_readBirth 84 [(0, .ref 58), (1, .int x1), (2, .int x2), (3, .int r2)] [] M5 K)) else (CI d μX9_cornerOf [.int x1, .int x2, .int r2] M1 (fun r7 M6 => (CI d μX9_isCorner [.ref 58, .int r7] M6 (fun r9 M8 => (if r9 = 0 then (CV d μX9_wrong [.ref 58, .int 3] M8 (fun M10 => RV (d + 1) μX9_readBirth 84 [(0, .ref 58), (1, .int x1), (2, .int x2), (3, .int r2)] [] M10 K)) else RV (d + 1) μX9_readBirth 84 [(0, .ref 58), (1, .int x1), (2, .int x2), (3, .int r2)] [] M8 K)))))))) else RV (d + 1) μX9_readBirth 84 [(0, .ref 58), (1, .int x1), (2, .int x2), (3, .int r2)] [] M1 K)))) : RV (d + 1) μX9_readBirth 39 [(0, .ref 58), (1, .int x1), (2, .int x2)] [] M K := by
  show Rn (d + 1) μX9_readBirth 39 [(0, .ref 58), (1, .int x1), (2, .int x2)] [] M _
  refine rn_aload_n (i := 0) (x := 58) dX9_readBirth_39 rfl (by simp) ?_
  refine rn_callVi (as := []) (st := []) dX9_readBirth_40 mf_X9_oldLord lk_X9_356 im_X9_oldLord rfl rfl rfl rfl (Nat.le_of_ble_eq_true rfl) (Nat.le_of_ble_eq_true rfl) rfl (RI.mono h (fun r2 M1 h => ?_))
  refine rn_istore_n (lv' := [(0, .ref 58), (1, .int x1), (2, .int x2), (3, .int r2)]) (hd := dX9_readBirth_43) (i := 3) (hi := rfl) (hn := by decide) (hf := rfl) (hl := rfl) ?_
  refine rn_aload_n (i := 0) (x := 58) dX9_readBirth_44 rfl (by simp) ?_
  refine rn_geti dX9_readBirth_45 rfl gf_X9_143 (by decide) ?_
  refine rn_if_ne (tgt := 84) dX9_readBirth_48 (by decide) (ite_go h (fun hc h => ?_) (fun hc h => ?_))
  · refine rn_iload_n (i := 1) (x := x1) dX9_readBirth_51 rfl (by simp) ?_
    refine rn_iload_n (i := 2) (x := x2) dX9_readBirth_52 rfl (by simp) ?_
    refine rn_icmp_eq (tgt := 79) dX9_readBirth_53 (by decide) (ite_go h (fun hc h => ?_) (fun hc h => ?_))
    · refine rn_aload_n (i := 0) (x := 58) dX9_readBirth_79 rfl (by simp) ?_
      refine rn_iconst (v := 3) dX9_readBirth_80 rfl ?_
      refine rn_callVv (as := [.int 3]) (st := []) dX9_readBirth_81 mf_X9_wrong lk_X9_182 im_X9_wrong rfl rfl rfl rfl (Nat.le_of_ble_eq_true rfl) (Nat.le_of_ble_eq_true rfl) rfl (RV.mono h (fun M3 h => ?_))
      exact h
    · refine rn_iload_n (i := 1) (x := x1) dX9_readBirth_56 rfl (by simp) ?_
      refine rn_iload_n (i := 3) (x := r2) dX9_readBirth_57 rfl (by simp) ?_
      refine rn_icmp_eq (tgt := 79) dX9_readBirth_58 (by decide) (ite_go h (fun hc h => ?_) (fun hc h => ?_))
      · refine rn_aload_n (i := 0) (x := 58) dX9_readBirth_79 rfl (by simp) ?_
        refine rn_iconst (v := 3) dX9_readBirth_80 rfl ?_
        refine rn_callVv (as := [.int 3]) (st := []) dX9_readBirth_81 mf_X9_wrong lk_X9_182 im_X9_wrong rfl rfl rfl rfl (Nat.le_of_ble_eq_true rfl) (Nat.le_of_ble_eq_true rfl) rfl (RV.mono h (fun M4 h => ?_))
        exact h
      · refine rn_iload_n (i := 2) (x := x2) dX9_readBirth_61 rfl (by simp) ?_
        refine rn_iload_n (i := 3) (x := r2) dX9_readBirth_62 rfl (by simp) ?_
        refine rn_icmp_eq (tgt := 79) dX9_readBirth_63 (by decide) (ite_go h (fun hc h => ?_) (fun hc h => ?_))
        · refine rn_aload_n (i := 0) (x := 58) dX9_readBirth_79 rfl (by simp) ?_
          refine rn_iconst (v := 3) dX9_readBirth_80 rfl ?_
          refine rn_callVv (as := [.int 3]) (st := []) dX9_readBirth_81 mf_X9_wrong lk_X9_182 im_X9_wrong rfl rfl rfl rfl (Nat.le_of_ble_eq_true rfl) (Nat.le_of_ble_eq_true rfl) rfl (RV.mono h (fun M5 h => ?_))
          exact h
        · refine rn_aload_n (i := 0) (x := 58) dX9_readBirth_66 rfl (by simp) ?_
          refine rn_iload_n (i := 1) (x := x1) dX9_readBirth_67 rfl (by simp) ?_
          refine rn_iload_n (i := 2) (x := x2) dX9_readBirth_68 rfl (by simp) ?_
          refine rn_iload_n (i := 3) (x := r2) dX9_readBirth_69 rfl (by simp) ?_
          refine rn_callSi (as := [.int x1, .int x2, .int r2]) (st := [.ref 58]) dX9_readBirth_70 mf_X9_cornerOf lk_X9_297 sm_X9_cornerOf rfl (Nat.le_of_ble_eq_true rfl) (Nat.le_of_ble_eq_true rfl) rfl (RI.mono h (fun r7 M6 h => ?_))
          refine rn_callVi (as := [.int r7]) (st := []) dX9_readBirth_73 mf_X9_isCorner lk_X9_359 im_X9_isCorner rfl rfl rfl rfl (Nat.le_of_ble_eq_true rfl) (Nat.le_of_ble_eq_true rfl) rfl (RI.mono h (fun r9 M8 h => ?_))
          refine rn_if_ne (tgt := 84) dX9_readBirth_76 (by decide) (ite_go h (fun hc h => ?_) (fun hc h => ?_))
          · refine rn_aload_n (i := 0) (x := 58) dX9_readBirth_79 rfl (by simp) ?_
            refine rn_iconst (v := 3) dX9_readBirth_80 rfl ?_
            refine rn_callVv (as := [.int 3]) (st := []) dX9_readBirth_81 mf_X9_wrong lk_X9_182 im_X9_wrong rfl rfl rfl rfl (Nat.le_of_ble_eq_true rfl) (Nat.le_of_ble_eq_true rfl) rfl (RV.mono h (fun M10 h => ?_))
            exact h
          · exact h
  · exact h
set_option maxRecDepth 20000 in
theorem sg_X9_readBirth_84 {d : Nat} {x1 : Int32} {x2 : Int32} {x3 : Int32} {M : Mem} {K : (Mem → Prop)}  (h : (if ri M 58 2 ≤ 0 then (CV d μX9_token [.ref 58] M (fun M1 => (CI d μX9_cornerOf [.int x1, .int x2, .int x3] M1 (fun r3 M2 => (CV d μX9_takeCorner [.ref 58, .int r3] M2 (fun M4 => (CV d μX9_addCorner [.ref 58, .int x1, .int x2, .int (ri M4 58 31)] M4 (fun M5 => (CV d μX9_addCorner [.ref 58, .int x1, .int x3, .int (ri M5 58 31)] M5 (fun M6 => (CV d μX9_addCorner [.ref 58, .int x2, .int x3, .int (ri M6 58 31)] M6 (fun M7 => K M7)))))))))))) else K M)) : RV (d + 1) μX9_readBirth 84 [(0, .ref 58), (1, .int x1), (2, .int x2), (3, .int x3)] [] M K := by
  show Rn (d + 1) μX9_readBirth 84 [(0, .ref 58), (1, .int x1), (2, .int x2), (3, .int x3)] [] M _
  refine rn_aload_n (i := 0) (x := 58) dX9_readBirth_84 rfl (by simp) ?_
  refine rn_geti dX9_readBirth_85 rfl gf_X9_143 (by decide) ?_
  refine rn_if_le (tgt := 92) dX9_readBirth_88 (by decide) (ite_go h (fun hc h => ?_) (fun hc h => ?_))
  · refine rn_aload_n (i := 0) (x := 58) dX9_readBirth_92 rfl (by simp) ?_
    refine rn_callVv (as := []) (st := []) dX9_readBirth_93 mf_X9_token lk_X9_185 im_X9_token rfl rfl rfl rfl (Nat.le_of_ble_eq_true rfl) (Nat.le_of_ble_eq_true rfl) rfl (RV.mono h (fun M1 h => ?_))
    refine rn_aload_n (i := 0) (x := 58) dX9_readBirth_96 rfl (by simp) ?_
    refine rn_iload_n (i := 1) (x := x1) dX9_readBirth_97 rfl (by simp) ?_
    refine rn_iload_n (i := 2) (x := x2) dX9_readBirth_98 rfl (by simp) ?_
    refine rn_iload_n (i := 3) (x := x3) dX9_readBirth_99 rfl (by simp) ?_
    refine rn_callSi (as := [.int x1, .int x2, .int x3]) (st := [.ref 58]) dX9_readBirth_100 mf_X9_cornerOf lk_X9_297 sm_X9_cornerOf rfl (Nat.le_of_ble_eq_true rfl) (Nat.le_of_ble_eq_true rfl) rfl (RI.mono h (fun r3 M2 h => ?_))
    refine rn_callVv (as := [.int r3]) (st := []) dX9_readBirth_103 mf_X9_takeCorner lk_X9_313 im_X9_takeCorner rfl rfl rfl rfl (Nat.le_of_ble_eq_true rfl) (Nat.le_of_ble_eq_true rfl) rfl (RV.mono h (fun M4 h => ?_))
    refine rn_aload_n (i := 0) (x := 58) dX9_readBirth_106 rfl (by simp) ?_
    refine rn_iload_n (i := 1) (x := x1) dX9_readBirth_107 rfl (by simp) ?_
    refine rn_iload_n (i := 2) (x := x2) dX9_readBirth_108 rfl (by simp) ?_
    refine rn_aload_n (i := 0) (x := 58) dX9_readBirth_109 rfl (by simp) ?_
    refine rn_geti dX9_readBirth_110 rfl gf_X9_195 (by decide) ?_
    refine rn_callVv (as := [.int x1, .int x2, .int (ri M4 58 31)]) (st := []) dX9_readBirth_113 mf_X9_addCorner lk_X9_316 im_X9_addCorner rfl rfl rfl rfl (Nat.le_of_ble_eq_true rfl) (Nat.le_of_ble_eq_true rfl) rfl (RV.mono h (fun M5 h => ?_))
    refine rn_aload_n (i := 0) (x := 58) dX9_readBirth_116 rfl (by simp) ?_
    refine rn_iload_n (i := 1) (x := x1) dX9_readBirth_117 rfl (by simp) ?_
    refine rn_iload_n (i := 3) (x := x3) dX9_readBirth_118 rfl (by simp) ?_
    refine rn_aload_n (i := 0) (x := 58) dX9_readBirth_119 rfl (by simp) ?_
    refine rn_geti dX9_readBirth_120 rfl gf_X9_195 (by decide) ?_
    refine rn_callVv (as := [.int x1, .int x3, .int (ri M5 58 31)]) (st := []) dX9_readBirth_123 mf_X9_addCorner lk_X9_316 im_X9_addCorner rfl rfl rfl rfl (Nat.le_of_ble_eq_true rfl) (Nat.le_of_ble_eq_true rfl) rfl (RV.mono h (fun M6 h => ?_))
    refine rn_aload_n (i := 0) (x := 58) dX9_readBirth_126 rfl (by simp) ?_
    refine rn_iload_n (i := 2) (x := x2) dX9_readBirth_127 rfl (by simp) ?_
    refine rn_iload_n (i := 3) (x := x3) dX9_readBirth_128 rfl (by simp) ?_
    refine rn_aload_n (i := 0) (x := 58) dX9_readBirth_129 rfl (by simp) ?_
    refine rn_geti dX9_readBirth_130 rfl gf_X9_195 (by decide) ?_
    refine rn_callVv (as := [.int x2, .int x3, .int (ri M6 58 31)]) (st := []) dX9_readBirth_133 mf_X9_addCorner lk_X9_316 im_X9_addCorner rfl rfl rfl rfl (Nat.le_of_ble_eq_true rfl) (Nat.le_of_ble_eq_true rfl) rfl (RV.mono h (fun M7 h => ?_))
    exact rn_ret dX9_readBirth_136 rfl ⟨rfl, h⟩
  · exact rn_ret dX9_readBirth_91 rfl ⟨rfl, h⟩
theorem dX9_readLord_0 : decode μX9_readLord.2.1 0 = .ok (.aload_n 0, 1) := by decide +kernel
theorem dX9_readLord_1 : decode μX9_readLord.2.1 1 = .ok (.invokevirtual 362, 3) := by decide +kernel
theorem dX9_readLord_4 : decode μX9_readLord.2.1 4 = .ok (.aload_n 0, 1) := by decide +kernel
theorem dX9_readLord_5 : decode μX9_readLord.2.1 5 = .ok (.ldc2_w 148, 3) := by decide +kernel
theorem dX9_readLord_8 : decode μX9_readLord.2.1 8 = .ok (.sipush 999, 3) := by decide +kernel
theorem dX9_readLord_11 : decode μX9_readLord.2.1 11 = .ok (.invokevirtual 365, 3) := by decide +kernel
theorem dX9_readLord_14 : decode μX9_readLord.2.1 14 = .ok (.istore_n 1, 1) := by decide +kernel
theorem dX9_readLord_15 : decode μX9_readLord.2.1 15 = .ok (.aload_n 0, 1) := by decide +kernel
theorem dX9_readLord_16 : decode μX9_readLord.2.1 16 = .ok (.getfield 143, 3) := by decide +kernel
theorem dX9_readLord_19 : decode μX9_readLord.2.1 19 = .ok (.ifCond .ne 15, 3) := by decide +kernel
theorem dX9_readLord_22 : decode μX9_readLord.2.1 22 = .ok (.aload_n 0, 1) := by decide +kernel
theorem dX9_readLord_23 : decode μX9_readLord.2.1 23 = .ok (.getfield 195, 3) := by decide +kernel
theorem dX9_readLord_26 : decode μX9_readLord.2.1 26 = .ok (.iconst 2, 1) := by decide +kernel
theorem dX9_readLord_27 : decode μX9_readLord.2.1 27 = .ok (.if_icmp .le 7, 3) := by decide +kernel
theorem dX9_readLord_30 : decode μX9_readLord.2.1 30 = .ok (.aload_n 0, 1) := by decide +kernel
theorem dX9_readLord_31 : decode μX9_readLord.2.1 31 = .ok (.invokevirtual 369, 3) := by decide +kernel
theorem dX9_readLord_34 : decode μX9_readLord.2.1 34 = .ok (.aload_n 0, 1) := by decide +kernel
theorem dX9_readLord_35 : decode μX9_readLord.2.1 35 = .ok (.getfield 143, 3) := by decide +kernel
theorem dX9_readLord_38 : decode μX9_readLord.2.1 38 = .ok (.ifCond .le 4, 3) := by decide +kernel
theorem dX9_readLord_41 : decode μX9_readLord.2.1 41 = .ok (.return_, 1) := by decide +kernel
theorem dX9_readLord_42 : decode μX9_readLord.2.1 42 = .ok (.aload_n 0, 1) := by decide +kernel
theorem dX9_readLord_43 : decode μX9_readLord.2.1 43 = .ok (.getfield 45, 3) := by decide +kernel
theorem dX9_readLord_46 : decode μX9_readLord.2.1 46 = .ok (.bipush 14, 2) := by decide +kernel
theorem dX9_readLord_48 : decode μX9_readLord.2.1 48 = .ok (.aload_n 0, 1) := by decide +kernel
theorem dX9_readLord_49 : decode μX9_readLord.2.1 49 = .ok (.getfield 195, 3) := by decide +kernel
theorem dX9_readLord_52 : decode μX9_readLord.2.1 52 = .ok (.iadd, 1) := by decide +kernel
theorem dX9_readLord_53 : decode μX9_readLord.2.1 53 = .ok (.iload_n 1, 1) := by decide +kernel
theorem dX9_readLord_54 : decode μX9_readLord.2.1 54 = .ok (.iastore, 1) := by decide +kernel
theorem dX9_readLord_55 : decode μX9_readLord.2.1 55 = .ok (.aload_n 0, 1) := by decide +kernel
theorem dX9_readLord_56 : decode μX9_readLord.2.1 56 = .ok (.getfield 45, 3) := by decide +kernel
theorem dX9_readLord_59 : decode μX9_readLord.2.1 59 = .ok (.bipush 13, 2) := by decide +kernel
theorem dX9_readLord_61 : decode μX9_readLord.2.1 61 = .ok (.dup2, 1) := by decide +kernel
theorem dX9_readLord_62 : decode μX9_readLord.2.1 62 = .ok (.iaload, 1) := by decide +kernel
theorem dX9_readLord_63 : decode μX9_readLord.2.1 63 = .ok (.iconst 1, 1) := by decide +kernel
theorem dX9_readLord_64 : decode μX9_readLord.2.1 64 = .ok (.aload_n 0, 1) := by decide +kernel
theorem dX9_readLord_65 : decode μX9_readLord.2.1 65 = .ok (.getfield 195, 3) := by decide +kernel
theorem dX9_readLord_68 : decode μX9_readLord.2.1 68 = .ok (.ishl, 1) := by decide +kernel
theorem dX9_readLord_69 : decode μX9_readLord.2.1 69 = .ok (.ior, 1) := by decide +kernel
theorem dX9_readLord_70 : decode μX9_readLord.2.1 70 = .ok (.iastore, 1) := by decide +kernel
theorem dX9_readLord_71 : decode μX9_readLord.2.1 71 = .ok (.aload_n 0, 1) := by decide +kernel
theorem dX9_readLord_72 : decode μX9_readLord.2.1 72 = .ok (.dup, 1) := by decide +kernel
theorem dX9_readLord_73 : decode μX9_readLord.2.1 73 = .ok (.getfield 195, 3) := by decide +kernel
theorem dX9_readLord_76 : decode μX9_readLord.2.1 76 = .ok (.iconst 1, 1) := by decide +kernel
theorem dX9_readLord_77 : decode μX9_readLord.2.1 77 = .ok (.iadd, 1) := by decide +kernel
theorem dX9_readLord_78 : decode μX9_readLord.2.1 78 = .ok (.putfield 195, 3) := by decide +kernel
theorem dX9_readLord_81 : decode μX9_readLord.2.1 81 = .ok (.aload_n 0, 1) := by decide +kernel
theorem dX9_readLord_82 : decode μX9_readLord.2.1 82 = .ok (.getfield 195, 3) := by decide +kernel
theorem dX9_readLord_85 : decode μX9_readLord.2.1 85 = .ok (.iconst 3, 1) := by decide +kernel
theorem dX9_readLord_86 : decode μX9_readLord.2.1 86 = .ok (.if_icmp .eq 4, 3) := by decide +kernel
theorem dX9_readLord_89 : decode μX9_readLord.2.1 89 = .ok (.return_, 1) := by decide +kernel
theorem dX9_readLord_90 : decode μX9_readLord.2.1 90 = .ok (.aload_n 0, 1) := by decide +kernel
theorem dX9_readLord_91 : decode μX9_readLord.2.1 91 = .ok (.iconst 0, 1) := by decide +kernel
theorem dX9_readLord_92 : decode μX9_readLord.2.1 92 = .ok (.iconst 1, 1) := by decide +kernel
theorem dX9_readLord_93 : decode μX9_readLord.2.1 93 = .ok (.iconst 2, 1) := by decide +kernel
theorem dX9_readLord_94 : decode μX9_readLord.2.1 94 = .ok (.invokevirtual 316, 3) := by decide +kernel
theorem dX9_readLord_97 : decode μX9_readLord.2.1 97 = .ok (.aload_n 0, 1) := by decide +kernel
theorem dX9_readLord_98 : decode μX9_readLord.2.1 98 = .ok (.iconst 0, 1) := by decide +kernel
theorem dX9_readLord_99 : decode μX9_readLord.2.1 99 = .ok (.iconst 1, 1) := by decide +kernel
theorem dX9_readLord_100 : decode μX9_readLord.2.1 100 = .ok (.iconst 2, 1) := by decide +kernel
theorem dX9_readLord_101 : decode μX9_readLord.2.1 101 = .ok (.invokevirtual 316, 3) := by decide +kernel
theorem dX9_readLord_104 : decode μX9_readLord.2.1 104 = .ok (.return_, 1) := by decide +kernel
set_option maxRecDepth 20000 in
theorem sg_X9_readLord_0 {d : Nat}  {M : Mem} {K : (Mem → Prop)}  (h : (CV d μX9_newName [.ref 58] M (fun M1 => (CI d μX9_told [.ref 58, .long 1936292453, .int 999] M1 (fun r3 M2 => (if ri M2 58 2 = 0 then (if ri M2 58 31 ≤ 2 then RV (d + 1) μX9_readLord 34 [(0, .ref 58), (1, .int r3)] [] M2 K else (CV d μX9_readBirth [.ref 58] M2 (fun M4 => RV (d + 1) μX9_readLord 34 [(0, .ref 58), (1, .int r3)] [] M4 K))) else RV (d + 1) μX9_readLord 34 [(0, .ref 58), (1, .int r3)] [] M2 K)))))) : CV (d + 1) μX9_readLord [.ref 58] M K := by
  show Rn (d + 1) μX9_readLord 0 [(0, .ref 58)] [] M _
  refine rn_aload_n (i := 0) (x := 58) dX9_readLord_0 rfl (by simp) ?_
  refine rn_callVv (as := []) (st := []) dX9_readLord_1 mf_X9_newName lk_X9_362 im_X9_newName rfl rfl rfl rfl (Nat.le_of_ble_eq_true rfl) (Nat.le_of_ble_eq_true rfl) rfl (RV.mono h (fun M1 h => ?_))
  refine rn_aload_n (i := 0) (x := 58) dX9_readLord_4 rfl (by simp) ?_
  refine rn_ldc2 (v := 1936292453) dX9_readLord_5 lk_X9_148 ?_
  refine rn_sipush (v := 999) dX9_readLord_8 rfl ?_
  refine rn_callVi (as := [.long 1936292453, .int 999]) (st := []) dX9_readLord_11 mf_X9_told lk_X9_365 im_X9_told rfl rfl rfl rfl (Nat.le_of_ble_eq_true rfl) (Nat.le_of_ble_eq_true rfl) rfl (RI.mono h (fun r3 M2 h => ?_))
  refine rn_istore_n (lv' := [(0, .ref 58), (1, .int r3)]) (hd := dX9_readLord_14) (i := 1) (hi := rfl) (hn := by decide) (hf := rfl) (hl := rfl) ?_
  refine rn_aload_n (i := 0) (x := 58) dX9_readLord_15 rfl (by simp) ?_
  refine rn_geti dX9_readLord_16 rfl gf_X9_143 (by decide) ?_
  refine rn_if_ne (tgt := 34) dX9_readLord_19 (by decide) (ite_go h (fun hc h => ?_) (fun hc h => ?_))
  · refine rn_aload_n (i := 0) (x := 58) dX9_readLord_22 rfl (by simp) ?_
    refine rn_geti dX9_readLord_23 rfl gf_X9_195 (by decide) ?_
    refine rn_iconst (v := 2) dX9_readLord_26 rfl ?_
    refine rn_icmp_le (tgt := 34) dX9_readLord_27 (by decide) (ite_go h (fun hc h => ?_) (fun hc h => ?_))
    · exact h
    · refine rn_aload_n (i := 0) (x := 58) dX9_readLord_30 rfl (by simp) ?_
      refine rn_callVv (as := []) (st := []) dX9_readLord_31 mf_X9_readBirth lk_X9_369 im_X9_readBirth rfl rfl rfl rfl (Nat.le_of_ble_eq_true rfl) (Nat.le_of_ble_eq_true rfl) rfl (RV.mono h (fun M4 h => ?_))
      exact h
  · exact h
set_option maxRecDepth 20000 in
theorem sg_X9_readLord_34 {d : Nat} {x1 : Int32} {M : Mem} {K : (Mem → Prop)}  (h : (if ri M 58 2 ≤ 0 then (vp_in (14 + (ri M 58 31)) 24 ∧ ∀ M1, M1 = wi M 69 (nx (14 + (ri M 58 31))) x1 → (∀ M2, M2 = wi M1 69 (nx 13) ((ri M1 69 (nx 13)) ||| ((1 : Int32) <<< ((ri M1 58 31) &&& 31))) → (∀ M3, M3 = wi M2 58 31 ((ri M2 58 31) + 1) → (if ri M3 58 31 = 3 then (CV d μX9_addCorner [.ref 58, .int 0, .int 1, .int 2] M3 (fun M4 => (CV d μX9_addCorner [.ref 58, .int 0, .int 1, .int 2] M4 (fun M5 => K M5)))) else K M3)))) else K M)) : RV (d + 1) μX9_readLord 34 [(0, .ref 58), (1, .int x1)] [] M K := by
  show Rn (d + 1) μX9_readLord 34 [(0, .ref 58), (1, .int x1)] [] M _
  refine rn_aload_n (i := 0) (x := 58) dX9_readLord_34 rfl (by simp) ?_
  refine rn_geti dX9_readLord_35 rfl gf_X9_143 (by decide) ?_
  refine rn_if_le (tgt := 42) dX9_readLord_38 (by decide) (ite_go h (fun hc h => ?_) (fun hc h => ?_))
  · refine rn_aload_n (i := 0) (x := 58) dX9_readLord_42 rfl (by simp) ?_
    refine rn_getr (t := 69) dX9_readLord_43 rfl gf_X9_45 rfl rfl ?_
    refine rn_bipush (v := 14) dX9_readLord_46 rfl ?_
    refine rn_aload_n (i := 0) (x := 58) dX9_readLord_48 rfl (by simp) ?_
    refine rn_geti dX9_readLord_49 rfl gf_X9_195 (by decide) ?_
    refine rn_iadd dX9_readLord_52 ?_
    refine rn_iload_n (i := 1) (x := x1) dX9_readLord_53 rfl (by simp) ?_
    obtain ⟨hi, h⟩ := h
    have h := h _ rfl
    refine rn_iastore dX9_readLord_54 rfl hi ?_
    generalize wi M 69 (nx (14 + (ri M 58 31))) x1 = M1 at h ⊢
    refine rn_aload_n (i := 0) (x := 58) dX9_readLord_55 rfl (by simp) ?_
    refine rn_getr (t := 69) dX9_readLord_56 rfl gf_X9_45 rfl rfl ?_
    refine rn_bipush (v := 13) dX9_readLord_59 rfl ?_
    refine rn_dup2 dX9_readLord_61 rfl rfl ?_
    refine rn_iaload dX9_readLord_62 rfl (by unfold vp_in; decide) ?_
    refine rn_iconst (v := 1) dX9_readLord_63 rfl ?_
    refine rn_aload_n (i := 0) (x := 58) dX9_readLord_64 rfl (by simp) ?_
    refine rn_geti dX9_readLord_65 rfl gf_X9_195 (by decide) ?_
    refine rn_ishl dX9_readLord_68 ?_
    refine rn_ior dX9_readLord_69 ?_
    have h := h _ rfl
    refine rn_iastore dX9_readLord_70 rfl (by unfold vp_in; decide) ?_
    generalize wi M1 69 (nx 13) ((ri M1 69 (nx 13)) ||| ((1 : Int32) <<< ((ri M1 58 31) &&& 31))) = M2 at h ⊢
    refine rn_aload_n (i := 0) (x := 58) dX9_readLord_71 rfl (by simp) ?_
    refine rn_dup dX9_readLord_72 rfl ?_
    refine rn_geti dX9_readLord_73 rfl gf_X9_195 (by decide) ?_
    refine rn_iconst (v := 1) dX9_readLord_76 rfl ?_
    refine rn_iadd dX9_readLord_77 ?_
    have h := h _ rfl
    refine rn_puti dX9_readLord_78 rfl pf_X9_195 (by decide) rfl rfl ?_
    generalize wi M2 58 31 ((ri M2 58 31) + 1) = M3 at h ⊢
    refine rn_aload_n (i := 0) (x := 58) dX9_readLord_81 rfl (by simp) ?_
    refine rn_geti dX9_readLord_82 rfl gf_X9_195 (by decide) ?_
    refine rn_iconst (v := 3) dX9_readLord_85 rfl ?_
    refine rn_icmp_eq (tgt := 90) dX9_readLord_86 (by decide) (ite_go h (fun hc h => ?_) (fun hc h => ?_))
    · refine rn_aload_n (i := 0) (x := 58) dX9_readLord_90 rfl (by simp) ?_
      refine rn_iconst (v := 0) dX9_readLord_91 rfl ?_
      refine rn_iconst (v := 1) dX9_readLord_92 rfl ?_
      refine rn_iconst (v := 2) dX9_readLord_93 rfl ?_
      refine rn_callVv (as := [.int 0, .int 1, .int 2]) (st := []) dX9_readLord_94 mf_X9_addCorner lk_X9_316 im_X9_addCorner rfl rfl rfl rfl (Nat.le_of_ble_eq_true rfl) (Nat.le_of_ble_eq_true rfl) rfl (RV.mono h (fun M4 h => ?_))
      refine rn_aload_n (i := 0) (x := 58) dX9_readLord_97 rfl (by simp) ?_
      refine rn_iconst (v := 0) dX9_readLord_98 rfl ?_
      refine rn_iconst (v := 1) dX9_readLord_99 rfl ?_
      refine rn_iconst (v := 2) dX9_readLord_100 rfl ?_
      refine rn_callVv (as := [.int 0, .int 1, .int 2]) (st := []) dX9_readLord_101 mf_X9_addCorner lk_X9_316 im_X9_addCorner rfl rfl rfl rfl (Nat.le_of_ble_eq_true rfl) (Nat.le_of_ble_eq_true rfl) rfl (RV.mono h (fun M5 h => ?_))
      exact rn_ret dX9_readLord_104 rfl ⟨rfl, h⟩
    · exact rn_ret dX9_readLord_89 rfl ⟨rfl, h⟩
  · exact rn_ret dX9_readLord_41 rfl ⟨rfl, h⟩
theorem dX9_readFlip_0 : decode μX9_readFlip.2.1 0 = .ok (.aload_n 0, 1) := by decide +kernel
theorem dX9_readFlip_1 : decode μX9_readFlip.2.1 1 = .ok (.invokevirtual 185, 3) := by decide +kernel
theorem dX9_readFlip_4 : decode μX9_readFlip.2.1 4 = .ok (.aload_n 0, 1) := by decide +kernel
theorem dX9_readFlip_5 : decode μX9_readFlip.2.1 5 = .ok (.invokevirtual 356, 3) := by decide +kernel
theorem dX9_readFlip_8 : decode μX9_readFlip.2.1 8 = .ok (.istore_n 1, 1) := by decide +kernel
theorem dX9_readFlip_9 : decode μX9_readFlip.2.1 9 = .ok (.aload_n 0, 1) := by decide +kernel
theorem dX9_readFlip_10 : decode μX9_readFlip.2.1 10 = .ok (.getfield 143, 3) := by decide +kernel
theorem dX9_readFlip_13 : decode μX9_readFlip.2.1 13 = .ok (.ifCond .ne 7, 3) := by decide +kernel
theorem dX9_readFlip_16 : decode μX9_readFlip.2.1 16 = .ok (.aload_n 0, 1) := by decide +kernel
theorem dX9_readFlip_17 : decode μX9_readFlip.2.1 17 = .ok (.invokevirtual 185, 3) := by decide +kernel
theorem dX9_readFlip_20 : decode μX9_readFlip.2.1 20 = .ok (.aload_n 0, 1) := by decide +kernel
theorem dX9_readFlip_21 : decode μX9_readFlip.2.1 21 = .ok (.invokevirtual 356, 3) := by decide +kernel
theorem dX9_readFlip_24 : decode μX9_readFlip.2.1 24 = .ok (.istore_n 2, 1) := by decide +kernel
theorem dX9_readFlip_25 : decode μX9_readFlip.2.1 25 = .ok (.aload_n 0, 1) := by decide +kernel
theorem dX9_readFlip_26 : decode μX9_readFlip.2.1 26 = .ok (.getfield 143, 3) := by decide +kernel
theorem dX9_readFlip_29 : decode μX9_readFlip.2.1 29 = .ok (.ifCond .ne 17, 3) := by decide +kernel
theorem dX9_readFlip_32 : decode μX9_readFlip.2.1 32 = .ok (.aload_n 0, 1) := by decide +kernel
theorem dX9_readFlip_33 : decode μX9_readFlip.2.1 33 = .ok (.iload_n 1, 1) := by decide +kernel
theorem dX9_readFlip_34 : decode μX9_readFlip.2.1 34 = .ok (.iload_n 2, 1) := by decide +kernel
theorem dX9_readFlip_35 : decode μX9_readFlip.2.1 35 = .ok (.invokevirtual 329, 3) := by decide +kernel
theorem dX9_readFlip_38 : decode μX9_readFlip.2.1 38 = .ok (.ifCond .ne 8, 3) := by decide +kernel
theorem dX9_readFlip_41 : decode μX9_readFlip.2.1 41 = .ok (.aload_n 0, 1) := by decide +kernel
theorem dX9_readFlip_42 : decode μX9_readFlip.2.1 42 = .ok (.iconst 3, 1) := by decide +kernel
theorem dX9_readFlip_43 : decode μX9_readFlip.2.1 43 = .ok (.invokevirtual 182, 3) := by decide +kernel
theorem dX9_readFlip_46 : decode μX9_readFlip.2.1 46 = .ok (.aload_n 0, 1) := by decide +kernel
theorem dX9_readFlip_47 : decode μX9_readFlip.2.1 47 = .ok (.getfield 143, 3) := by decide +kernel
theorem dX9_readFlip_50 : decode μX9_readFlip.2.1 50 = .ok (.ifCond .le 4, 3) := by decide +kernel
theorem dX9_readFlip_53 : decode μX9_readFlip.2.1 53 = .ok (.return_, 1) := by decide +kernel
theorem dX9_readFlip_54 : decode μX9_readFlip.2.1 54 = .ok (.aload_n 0, 1) := by decide +kernel
theorem dX9_readFlip_55 : decode μX9_readFlip.2.1 55 = .ok (.invokevirtual 185, 3) := by decide +kernel
theorem dX9_readFlip_58 : decode μX9_readFlip.2.1 58 = .ok (.aload_n 0, 1) := by decide +kernel
theorem dX9_readFlip_59 : decode μX9_readFlip.2.1 59 = .ok (.iload_n 1, 1) := by decide +kernel
theorem dX9_readFlip_60 : decode μX9_readFlip.2.1 60 = .ok (.iload_n 2, 1) := by decide +kernel
theorem dX9_readFlip_61 : decode μX9_readFlip.2.1 61 = .ok (.invokevirtual 332, 3) := by decide +kernel
theorem dX9_readFlip_64 : decode μX9_readFlip.2.1 64 = .ok (.pop, 1) := by decide +kernel
theorem dX9_readFlip_65 : decode μX9_readFlip.2.1 65 = .ok (.aload_n 0, 1) := by decide +kernel
theorem dX9_readFlip_66 : decode μX9_readFlip.2.1 66 = .ok (.dup, 1) := by decide +kernel
theorem dX9_readFlip_67 : decode μX9_readFlip.2.1 67 = .ok (.getfield 372, 3) := by decide +kernel
theorem dX9_readFlip_70 : decode μX9_readFlip.2.1 70 = .ok (.iconst 1, 1) := by decide +kernel
theorem dX9_readFlip_71 : decode μX9_readFlip.2.1 71 = .ok (.iadd, 1) := by decide +kernel
theorem dX9_readFlip_72 : decode μX9_readFlip.2.1 72 = .ok (.putfield 372, 3) := by decide +kernel
theorem dX9_readFlip_75 : decode μX9_readFlip.2.1 75 = .ok (.return_, 1) := by decide +kernel
set_option maxRecDepth 20000 in
theorem sg_X9_readFlip_0 {d : Nat}  {M : Mem} {K : (Mem → Prop)}  (h : (CV d μX9_token [.ref 58] M (fun M1 => (CI d μX9_oldLord [.ref 58] M1 (fun r3 M2 => (if ri M2 58 2 = 0 then (CV d μX9_token [.ref 58] M2 (fun M4 => RV (d + 1) μX9_readFlip 20 [(0, .ref 58), (1, .int r3)] [] M4 K)) else RV (d + 1) μX9_readFlip 20 [(0, .ref 58), (1, .int r3)] [] M2 K)))))) : CV (d + 1) μX9_readFlip [.ref 58] M K := by
  show Rn (d + 1) μX9_readFlip 0 [(0, .ref 58)] [] M _
  refine rn_aload_n (i := 0) (x := 58) dX9_readFlip_0 rfl (by simp) ?_
  refine rn_callVv (as := []) (st := []) dX9_readFlip_1 mf_X9_token lk_X9_185 im_X9_token rfl rfl rfl rfl (Nat.le_of_ble_eq_true rfl) (Nat.le_of_ble_eq_true rfl) rfl (RV.mono h (fun M1 h => ?_))
  refine rn_aload_n (i := 0) (x := 58) dX9_readFlip_4 rfl (by simp) ?_
  refine rn_callVi (as := []) (st := []) dX9_readFlip_5 mf_X9_oldLord lk_X9_356 im_X9_oldLord rfl rfl rfl rfl (Nat.le_of_ble_eq_true rfl) (Nat.le_of_ble_eq_true rfl) rfl (RI.mono h (fun r3 M2 h => ?_))
  refine rn_istore_n (lv' := [(0, .ref 58), (1, .int r3)]) (hd := dX9_readFlip_8) (i := 1) (hi := rfl) (hn := by decide) (hf := rfl) (hl := rfl) ?_
  refine rn_aload_n (i := 0) (x := 58) dX9_readFlip_9 rfl (by simp) ?_
  refine rn_geti dX9_readFlip_10 rfl gf_X9_143 (by decide) ?_
  refine rn_if_ne (tgt := 20) dX9_readFlip_13 (by decide) (ite_go h (fun hc h => ?_) (fun hc h => ?_))
  · refine rn_aload_n (i := 0) (x := 58) dX9_readFlip_16 rfl (by simp) ?_
    refine rn_callVv (as := []) (st := []) dX9_readFlip_17 mf_X9_token lk_X9_185 im_X9_token rfl rfl rfl rfl (Nat.le_of_ble_eq_true rfl) (Nat.le_of_ble_eq_true rfl) rfl (RV.mono h (fun M4 h => ?_))
    exact h
  · exact h
set_option maxRecDepth 20000 in
theorem sg_X9_readFlip_20 {d : Nat} {x1 : Int32} {M : Mem} {K : (Mem → Prop)}  (h : (CI d μX9_oldLord [.ref 58] M (fun r2 M1 => (if ri M1 58 2 = 0 then (CI d μX9_canFlip [.ref 58, .int x1, .int r2] M1 (fun r4 M3 => (if r4 = 0 then (CV d μX9_wrong [.ref 58, .int 3] M3 (fun M5 => RV (d + 1) μX9_readFlip 46 [(0, .ref 58), (1, .int x1), (2, .int r2)] [] M5 K)) else RV (d + 1) μX9_readFlip 46 [(0, .ref 58), (1, .int x1), (2, .int r2)] [] M3 K))) else RV (d + 1) μX9_readFlip 46 [(0, .ref 58), (1, .int x1), (2, .int r2)] [] M1 K)))) : RV (d + 1) μX9_readFlip 20 [(0, .ref 58), (1, .int x1)] [] M K := by
  show Rn (d + 1) μX9_readFlip 20 [(0, .ref 58), (1, .int x1)] [] M _
  refine rn_aload_n (i := 0) (x := 58) dX9_readFlip_20 rfl (by simp) ?_
  refine rn_callVi (as := []) (st := []) dX9_readFlip_21 mf_X9_oldLord lk_X9_356 im_X9_oldLord rfl rfl rfl rfl (Nat.le_of_ble_eq_true rfl) (Nat.le_of_ble_eq_true rfl) rfl (RI.mono h (fun r2 M1 h => ?_))
  refine rn_istore_n (lv' := [(0, .ref 58), (1, .int x1), (2, .int r2)]) (hd := dX9_readFlip_24) (i := 2) (hi := rfl) (hn := by decide) (hf := rfl) (hl := rfl) ?_
  refine rn_aload_n (i := 0) (x := 58) dX9_readFlip_25 rfl (by simp) ?_
  refine rn_geti dX9_readFlip_26 rfl gf_X9_143 (by decide) ?_
  refine rn_if_ne (tgt := 46) dX9_readFlip_29 (by decide) (ite_go h (fun hc h => ?_) (fun hc h => ?_))
  · refine rn_aload_n (i := 0) (x := 58) dX9_readFlip_32 rfl (by simp) ?_
    refine rn_iload_n (i := 1) (x := x1) dX9_readFlip_33 rfl (by simp) ?_
    refine rn_iload_n (i := 2) (x := r2) dX9_readFlip_34 rfl (by simp) ?_
    refine rn_callVi (as := [.int x1, .int r2]) (st := []) dX9_readFlip_35 mf_X9_canFlip lk_X9_329 im_X9_canFlip rfl rfl rfl rfl (Nat.le_of_ble_eq_true rfl) (Nat.le_of_ble_eq_true rfl) rfl (RI.mono h (fun r4 M3 h => ?_))
    refine rn_if_ne (tgt := 46) dX9_readFlip_38 (by decide) (ite_go h (fun hc h => ?_) (fun hc h => ?_))
    · refine rn_aload_n (i := 0) (x := 58) dX9_readFlip_41 rfl (by simp) ?_
      refine rn_iconst (v := 3) dX9_readFlip_42 rfl ?_
      refine rn_callVv (as := [.int 3]) (st := []) dX9_readFlip_43 mf_X9_wrong lk_X9_182 im_X9_wrong rfl rfl rfl rfl (Nat.le_of_ble_eq_true rfl) (Nat.le_of_ble_eq_true rfl) rfl (RV.mono h (fun M5 h => ?_))
      exact h
    · exact h
  · exact h
set_option maxRecDepth 20000 in
theorem sg_X9_readFlip_46 {d : Nat} {x1 : Int32} {x2 : Int32} {M : Mem} {K : (Mem → Prop)}  (h : (if ri M 58 2 ≤ 0 then (CV d μX9_token [.ref 58] M (fun M1 => (CI d μX9_doFlip [.ref 58, .int x1, .int x2] M1 (fun r3 M2 => (∀ M4, M4 = wi M2 58 32 ((ri M2 58 32) + 1) → K M4))))) else K M)) : RV (d + 1) μX9_readFlip 46 [(0, .ref 58), (1, .int x1), (2, .int x2)] [] M K := by
  show Rn (d + 1) μX9_readFlip 46 [(0, .ref 58), (1, .int x1), (2, .int x2)] [] M _
  refine rn_aload_n (i := 0) (x := 58) dX9_readFlip_46 rfl (by simp) ?_
  refine rn_geti dX9_readFlip_47 rfl gf_X9_143 (by decide) ?_
  refine rn_if_le (tgt := 54) dX9_readFlip_50 (by decide) (ite_go h (fun hc h => ?_) (fun hc h => ?_))
  · refine rn_aload_n (i := 0) (x := 58) dX9_readFlip_54 rfl (by simp) ?_
    refine rn_callVv (as := []) (st := []) dX9_readFlip_55 mf_X9_token lk_X9_185 im_X9_token rfl rfl rfl rfl (Nat.le_of_ble_eq_true rfl) (Nat.le_of_ble_eq_true rfl) rfl (RV.mono h (fun M1 h => ?_))
    refine rn_aload_n (i := 0) (x := 58) dX9_readFlip_58 rfl (by simp) ?_
    refine rn_iload_n (i := 1) (x := x1) dX9_readFlip_59 rfl (by simp) ?_
    refine rn_iload_n (i := 2) (x := x2) dX9_readFlip_60 rfl (by simp) ?_
    refine rn_callVi (as := [.int x1, .int x2]) (st := []) dX9_readFlip_61 mf_X9_doFlip lk_X9_332 im_X9_doFlip rfl rfl rfl rfl (Nat.le_of_ble_eq_true rfl) (Nat.le_of_ble_eq_true rfl) rfl (RI.mono h (fun r3 M2 h => ?_))
    refine rn_pop dX9_readFlip_64 rfl ?_
    refine rn_aload_n (i := 0) (x := 58) dX9_readFlip_65 rfl (by simp) ?_
    refine rn_dup dX9_readFlip_66 rfl ?_
    refine rn_geti dX9_readFlip_67 rfl gf_X9_372 (by decide) ?_
    refine rn_iconst (v := 1) dX9_readFlip_70 rfl ?_
    refine rn_iadd dX9_readFlip_71 ?_
    have h := h _ rfl
    refine rn_puti dX9_readFlip_72 rfl pf_X9_372 (by decide) rfl rfl ?_
    generalize wi M2 58 32 ((ri M2 58 32) + 1) = M4 at h ⊢
    exact rn_ret dX9_readFlip_75 rfl ⟨rfl, h⟩
  · exact rn_ret dX9_readFlip_53 rfl ⟨rfl, h⟩
theorem dX9_readLine_0 : decode μX9_readLine.2.1 0 = .ok (.aload_n 0, 1) := by decide +kernel
theorem dX9_readLine_1 : decode μX9_readLine.2.1 1 = .ok (.ldc2_w 146, 3) := by decide +kernel
theorem dX9_readLine_4 : decode μX9_readLine.2.1 4 = .ok (.invokevirtual 178, 3) := by decide +kernel
theorem dX9_readLine_7 : decode μX9_readLine.2.1 7 = .ok (.ifCond .eq 19, 3) := by decide +kernel
theorem dX9_readLine_10 : decode μX9_readLine.2.1 10 = .ok (.aload_n 0, 1) := by decide +kernel
theorem dX9_readLine_11 : decode μX9_readLine.2.1 11 = .ok (.getfield 195, 3) := by decide +kernel
theorem dX9_readLine_14 : decode μX9_readLine.2.1 14 = .ok (.bipush 8, 2) := by decide +kernel
theorem dX9_readLine_16 : decode μX9_readLine.2.1 16 = .ok (.if_icmp .ge 10, 3) := by decide +kernel
theorem dX9_readLine_19 : decode μX9_readLine.2.1 19 = .ok (.aload_n 0, 1) := by decide +kernel
theorem dX9_readLine_20 : decode μX9_readLine.2.1 20 = .ok (.invokevirtual 375, 3) := by decide +kernel
theorem dX9_readLine_23 : decode μX9_readLine.2.1 23 = .ok (.goto 135, 3) := by decide +kernel
theorem dX9_readLine_26 : decode μX9_readLine.2.1 26 = .ok (.aload_n 0, 1) := by decide +kernel
theorem dX9_readLine_27 : decode μX9_readLine.2.1 27 = .ok (.ldc2_w 152, 3) := by decide +kernel
theorem dX9_readLine_30 : decode μX9_readLine.2.1 30 = .ok (.invokevirtual 178, 3) := by decide +kernel
theorem dX9_readLine_33 : decode μX9_readLine.2.1 33 = .ok (.ifCond .eq 19, 3) := by decide +kernel
theorem dX9_readLine_36 : decode μX9_readLine.2.1 36 = .ok (.aload_n 0, 1) := by decide +kernel
theorem dX9_readLine_37 : decode μX9_readLine.2.1 37 = .ok (.getfield 372, 3) := by decide +kernel
theorem dX9_readLine_40 : decode μX9_readLine.2.1 40 = .ok (.bipush 12, 2) := by decide +kernel
theorem dX9_readLine_42 : decode μX9_readLine.2.1 42 = .ok (.if_icmp .ge 10, 3) := by decide +kernel
theorem dX9_readLine_45 : decode μX9_readLine.2.1 45 = .ok (.aload_n 0, 1) := by decide +kernel
theorem dX9_readLine_46 : decode μX9_readLine.2.1 46 = .ok (.invokevirtual 378, 3) := by decide +kernel
theorem dX9_readLine_49 : decode μX9_readLine.2.1 49 = .ok (.goto 109, 3) := by decide +kernel
theorem dX9_readLine_52 : decode μX9_readLine.2.1 52 = .ok (.aload_n 0, 1) := by decide +kernel
theorem dX9_readLine_53 : decode μX9_readLine.2.1 53 = .ok (.ldc2_w 154, 3) := by decide +kernel
theorem dX9_readLine_56 : decode μX9_readLine.2.1 56 = .ok (.invokevirtual 178, 3) := by decide +kernel
theorem dX9_readLine_59 : decode μX9_readLine.2.1 59 = .ok (.ifCond .eq 17, 3) := by decide +kernel
theorem dX9_readLine_62 : decode μX9_readLine.2.1 62 = .ok (.aload_n 0, 1) := by decide +kernel
theorem dX9_readLine_63 : decode μX9_readLine.2.1 63 = .ok (.getfield 242, 3) := by decide +kernel
theorem dX9_readLine_66 : decode μX9_readLine.2.1 66 = .ok (.ifCond .ne 10, 3) := by decide +kernel
theorem dX9_readLine_69 : decode μX9_readLine.2.1 69 = .ok (.aload_n 0, 1) := by decide +kernel
theorem dX9_readLine_70 : decode μX9_readLine.2.1 70 = .ok (.invokevirtual 381, 3) := by decide +kernel
theorem dX9_readLine_73 : decode μX9_readLine.2.1 73 = .ok (.goto 85, 3) := by decide +kernel
theorem dX9_readLine_76 : decode μX9_readLine.2.1 76 = .ok (.aload_n 0, 1) := by decide +kernel
theorem dX9_readLine_77 : decode μX9_readLine.2.1 77 = .ok (.ldc2_w 156, 3) := by decide +kernel
theorem dX9_readLine_80 : decode μX9_readLine.2.1 80 = .ok (.invokevirtual 178, 3) := by decide +kernel
theorem dX9_readLine_83 : decode μX9_readLine.2.1 83 = .ok (.ifCond .eq 31, 3) := by decide +kernel
theorem dX9_readLine_86 : decode μX9_readLine.2.1 86 = .ok (.aload_n 0, 1) := by decide +kernel
theorem dX9_readLine_87 : decode μX9_readLine.2.1 87 = .ok (.getfield 384, 3) := by decide +kernel
theorem dX9_readLine_90 : decode μX9_readLine.2.1 90 = .ok (.ifCond .ne 24, 3) := by decide +kernel
theorem dX9_readLine_93 : decode μX9_readLine.2.1 93 = .ok (.aload_n 0, 1) := by decide +kernel
theorem dX9_readLine_94 : decode μX9_readLine.2.1 94 = .ok (.iconst 1, 1) := by decide +kernel
theorem dX9_readLine_95 : decode μX9_readLine.2.1 95 = .ok (.putfield 384, 3) := by decide +kernel
theorem dX9_readLine_98 : decode μX9_readLine.2.1 98 = .ok (.aload_n 0, 1) := by decide +kernel
theorem dX9_readLine_99 : decode μX9_readLine.2.1 99 = .ok (.aload_n 0, 1) := by decide +kernel
theorem dX9_readLine_100 : decode μX9_readLine.2.1 100 = .ok (.ldc2_w 156, 3) := by decide +kernel
theorem dX9_readLine_103 : decode μX9_readLine.2.1 103 = .ok (.bipush 100, 2) := by decide +kernel
theorem dX9_readLine_105 : decode μX9_readLine.2.1 105 = .ok (.invokevirtual 365, 3) := by decide +kernel
theorem dX9_readLine_108 : decode μX9_readLine.2.1 108 = .ok (.putfield 387, 3) := by decide +kernel
theorem dX9_readLine_111 : decode μX9_readLine.2.1 111 = .ok (.goto 47, 3) := by decide +kernel
theorem dX9_readLine_114 : decode μX9_readLine.2.1 114 = .ok (.aload_n 0, 1) := by decide +kernel
theorem dX9_readLine_115 : decode μX9_readLine.2.1 115 = .ok (.ldc2_w 158, 3) := by decide +kernel
theorem dX9_readLine_118 : decode μX9_readLine.2.1 118 = .ok (.invokevirtual 178, 3) := by decide +kernel
theorem dX9_readLine_121 : decode μX9_readLine.2.1 121 = .ok (.ifCond .eq 32, 3) := by decide +kernel
theorem dX9_readLine_124 : decode μX9_readLine.2.1 124 = .ok (.aload_n 0, 1) := by decide +kernel
theorem dX9_readLine_125 : decode μX9_readLine.2.1 125 = .ok (.getfield 390, 3) := by decide +kernel
theorem dX9_readLine_128 : decode μX9_readLine.2.1 128 = .ok (.ifCond .ne 25, 3) := by decide +kernel
theorem dX9_readLine_131 : decode μX9_readLine.2.1 131 = .ok (.aload_n 0, 1) := by decide +kernel
theorem dX9_readLine_132 : decode μX9_readLine.2.1 132 = .ok (.iconst 1, 1) := by decide +kernel
theorem dX9_readLine_133 : decode μX9_readLine.2.1 133 = .ok (.putfield 390, 3) := by decide +kernel
theorem dX9_readLine_136 : decode μX9_readLine.2.1 136 = .ok (.aload_n 0, 1) := by decide +kernel
theorem dX9_readLine_137 : decode μX9_readLine.2.1 137 = .ok (.aload_n 0, 1) := by decide +kernel
theorem dX9_readLine_138 : decode μX9_readLine.2.1 138 = .ok (.ldc2_w 158, 3) := by decide +kernel
theorem dX9_readLine_141 : decode μX9_readLine.2.1 141 = .ok (.sipush 999, 3) := by decide +kernel
theorem dX9_readLine_144 : decode μX9_readLine.2.1 144 = .ok (.invokevirtual 365, 3) := by decide +kernel
theorem dX9_readLine_147 : decode μX9_readLine.2.1 147 = .ok (.putfield 393, 3) := by decide +kernel
theorem dX9_readLine_150 : decode μX9_readLine.2.1 150 = .ok (.goto 8, 3) := by decide +kernel
theorem dX9_readLine_153 : decode μX9_readLine.2.1 153 = .ok (.aload_n 0, 1) := by decide +kernel
theorem dX9_readLine_154 : decode μX9_readLine.2.1 154 = .ok (.iconst 2, 1) := by decide +kernel
theorem dX9_readLine_155 : decode μX9_readLine.2.1 155 = .ok (.invokevirtual 182, 3) := by decide +kernel
theorem dX9_readLine_158 : decode μX9_readLine.2.1 158 = .ok (.aload_n 0, 1) := by decide +kernel
theorem dX9_readLine_159 : decode μX9_readLine.2.1 159 = .ok (.getfield 143, 3) := by decide +kernel
theorem dX9_readLine_162 : decode μX9_readLine.2.1 162 = .ok (.ifCond .ne 17, 3) := by decide +kernel
theorem dX9_readLine_165 : decode μX9_readLine.2.1 165 = .ok (.aload_n 0, 1) := by decide +kernel
theorem dX9_readLine_166 : decode μX9_readLine.2.1 166 = .ok (.getfield 130, 3) := by decide +kernel
theorem dX9_readLine_169 : decode μX9_readLine.2.1 169 = .ok (.bipush 59, 2) := by decide +kernel
theorem dX9_readLine_171 : decode μX9_readLine.2.1 171 = .ok (.if_icmp .eq 8, 3) := by decide +kernel
theorem dX9_readLine_174 : decode μX9_readLine.2.1 174 = .ok (.aload_n 0, 1) := by decide +kernel
theorem dX9_readLine_175 : decode μX9_readLine.2.1 175 = .ok (.iconst 2, 1) := by decide +kernel
theorem dX9_readLine_176 : decode μX9_readLine.2.1 176 = .ok (.invokevirtual 182, 3) := by decide +kernel
theorem dX9_readLine_179 : decode μX9_readLine.2.1 179 = .ok (.aload_n 0, 1) := by decide +kernel
theorem dX9_readLine_180 : decode μX9_readLine.2.1 180 = .ok (.getfield 143, 3) := by decide +kernel
theorem dX9_readLine_183 : decode μX9_readLine.2.1 183 = .ok (.ifCond .ne 7, 3) := by decide +kernel
theorem dX9_readLine_186 : decode μX9_readLine.2.1 186 = .ok (.aload_n 0, 1) := by decide +kernel
theorem dX9_readLine_187 : decode μX9_readLine.2.1 187 = .ok (.invokevirtual 185, 3) := by decide +kernel
theorem dX9_readLine_190 : decode μX9_readLine.2.1 190 = .ok (.return_, 1) := by decide +kernel
set_option maxRecDepth 20000 in
theorem sg_X9_readLine_0 {d : Nat}  {M : Mem} {K : (Mem → Prop)}  (h : (CI d μX9_isWord [.ref 58, .long 1819243108] M (fun r2 M1 => (if r2 = 0 then RV (d + 1) μX9_readLine 26 [(0, .ref 58)] [] M1 K else (if 8 ≤ ri M1 58 31 then RV (d + 1) μX9_readLine 26 [(0, .ref 58)] [] M1 K else (CV d μX9_readLord [.ref 58] M1 (fun M3 => RV (d + 1) μX9_readLine 158 [(0, .ref 58)] [] M3 K))))))) : CV (d + 1) μX9_readLine [.ref 58] M K := by
  show Rn (d + 1) μX9_readLine 0 [(0, .ref 58)] [] M _
  refine rn_aload_n (i := 0) (x := 58) dX9_readLine_0 rfl (by simp) ?_
  refine rn_ldc2 (v := 1819243108) dX9_readLine_1 lk_X9_146 ?_
  refine rn_callVi (as := [.long 1819243108]) (st := []) dX9_readLine_4 mf_X9_isWord lk_X9_178 im_X9_isWord rfl rfl rfl rfl (Nat.le_of_ble_eq_true rfl) (Nat.le_of_ble_eq_true rfl) rfl (RI.mono h (fun r2 M1 h => ?_))
  refine rn_if_eq (tgt := 26) dX9_readLine_7 (by decide) (ite_go h (fun hc h => ?_) (fun hc h => ?_))
  · exact h
  · refine rn_aload_n (i := 0) (x := 58) dX9_readLine_10 rfl (by simp) ?_
    refine rn_geti dX9_readLine_11 rfl gf_X9_195 (by decide) ?_
    refine rn_bipush (v := 8) dX9_readLine_14 rfl ?_
    refine rn_icmp_ge (tgt := 26) dX9_readLine_16 (by decide) (ite_go h (fun hc h => ?_) (fun hc h => ?_))
    · exact h
    · refine rn_aload_n (i := 0) (x := 58) dX9_readLine_19 rfl (by simp) ?_
      refine rn_callVv (as := []) (st := []) dX9_readLine_20 mf_X9_readLord lk_X9_375 im_X9_readLord rfl rfl rfl rfl (Nat.le_of_ble_eq_true rfl) (Nat.le_of_ble_eq_true rfl) rfl (RV.mono h (fun M3 h => ?_))
      refine rn_goto (tgt := 158) dX9_readLine_23 (by decide) ?_
      exact h
set_option maxRecDepth 20000 in
theorem sg_X9_readLine_26 {d : Nat}  {M : Mem} {K : (Mem → Prop)}  (h : (CI d μX9_isWord [.ref 58, .long 1718380912] M (fun r2 M1 => (if r2 = 0 then RV (d + 1) μX9_readLine 52 [(0, .ref 58)] [] M1 K else (if 12 ≤ ri M1 58 32 then RV (d + 1) μX9_readLine 52 [(0, .ref 58)] [] M1 K else (CV d μX9_readFlip [.ref 58] M1 (fun M3 => RV (d + 1) μX9_readLine 158 [(0, .ref 58)] [] M3 K))))))) : RV (d + 1) μX9_readLine 26 [(0, .ref 58)] [] M K := by
  show Rn (d + 1) μX9_readLine 26 [(0, .ref 58)] [] M _
  refine rn_aload_n (i := 0) (x := 58) dX9_readLine_26 rfl (by simp) ?_
  refine rn_ldc2 (v := 1718380912) dX9_readLine_27 lk_X9_152 ?_
  refine rn_callVi (as := [.long 1718380912]) (st := []) dX9_readLine_30 mf_X9_isWord lk_X9_178 im_X9_isWord rfl rfl rfl rfl (Nat.le_of_ble_eq_true rfl) (Nat.le_of_ble_eq_true rfl) rfl (RI.mono h (fun r2 M1 h => ?_))
  refine rn_if_eq (tgt := 52) dX9_readLine_33 (by decide) (ite_go h (fun hc h => ?_) (fun hc h => ?_))
  · exact h
  · refine rn_aload_n (i := 0) (x := 58) dX9_readLine_36 rfl (by simp) ?_
    refine rn_geti dX9_readLine_37 rfl gf_X9_372 (by decide) ?_
    refine rn_bipush (v := 12) dX9_readLine_40 rfl ?_
    refine rn_icmp_ge (tgt := 52) dX9_readLine_42 (by decide) (ite_go h (fun hc h => ?_) (fun hc h => ?_))
    · exact h
    · refine rn_aload_n (i := 0) (x := 58) dX9_readLine_45 rfl (by simp) ?_
      refine rn_callVv (as := []) (st := []) dX9_readLine_46 mf_X9_readFlip lk_X9_378 im_X9_readFlip rfl rfl rfl rfl (Nat.le_of_ble_eq_true rfl) (Nat.le_of_ble_eq_true rfl) rfl (RV.mono h (fun M3 h => ?_))
      refine rn_goto (tgt := 158) dX9_readLine_49 (by decide) ?_
      exact h
set_option maxRecDepth 20000 in
theorem sg_X9_readLine_52 {d : Nat}  {M : Mem} {K : (Mem → Prop)}  (h : (CI d μX9_isWord [.ref 58, .long 444301539187] M (fun r2 M1 => (if r2 = 0 then RV (d + 1) μX9_readLine 76 [(0, .ref 58)] [] M1 K else (if ri M1 58 24 = 0 then (CV d μX9_formula [.ref 58] M1 (fun M3 => RV (d + 1) μX9_readLine 158 [(0, .ref 58)] [] M3 K)) else RV (d + 1) μX9_readLine 76 [(0, .ref 58)] [] M1 K))))) : RV (d + 1) μX9_readLine 52 [(0, .ref 58)] [] M K := by
  show Rn (d + 1) μX9_readLine 52 [(0, .ref 58)] [] M _
  refine rn_aload_n (i := 0) (x := 58) dX9_readLine_52 rfl (by simp) ?_
  refine rn_ldc2 (v := 444301539187) dX9_readLine_53 lk_X9_154 ?_
  refine rn_callVi (as := [.long 444301539187]) (st := []) dX9_readLine_56 mf_X9_isWord lk_X9_178 im_X9_isWord rfl rfl rfl rfl (Nat.le_of_ble_eq_true rfl) (Nat.le_of_ble_eq_true rfl) rfl (RI.mono h (fun r2 M1 h => ?_))
  refine rn_if_eq (tgt := 76) dX9_readLine_59 (by decide) (ite_go h (fun hc h => ?_) (fun hc h => ?_))
  · exact h
  · refine rn_aload_n (i := 0) (x := 58) dX9_readLine_62 rfl (by simp) ?_
    refine rn_geti dX9_readLine_63 rfl gf_X9_242 (by decide) ?_
    refine rn_if_ne (tgt := 76) dX9_readLine_66 (by decide) (ite_go h (fun hc h => ?_) (fun hc h => ?_))
    · refine rn_aload_n (i := 0) (x := 58) dX9_readLine_69 rfl (by simp) ?_
      refine rn_callVv (as := []) (st := []) dX9_readLine_70 mf_X9_formula lk_X9_381 im_X9_formula rfl rfl rfl rfl (Nat.le_of_ble_eq_true rfl) (Nat.le_of_ble_eq_true rfl) rfl (RV.mono h (fun M3 h => ?_))
      refine rn_goto (tgt := 158) dX9_readLine_73 (by decide) ?_
      exact h
    · exact h
set_option maxRecDepth 20000 in
theorem sg_X9_readLine_76 {d : Nat}  {M : Mem} {K : (Mem → Prop)}  (h : (CI d μX9_isWord [.ref 58, .long 495874892151] M (fun r2 M1 => (if r2 = 0 then RV (d + 1) μX9_readLine 114 [(0, .ref 58)] [] M1 K else (if ri M1 58 37 = 0 then (∀ M3, M3 = wi M1 58 37 1 → (CI d μX9_told [.ref 58, .long 495874892151, .int 100] M3 (fun r5 M4 => (∀ M6, M6 = wi M4 58 33 r5 → RV (d + 1) μX9_readLine 158 [(0, .ref 58)] [] M6 K)))) else RV (d + 1) μX9_readLine 114 [(0, .ref 58)] [] M1 K))))) : RV (d + 1) μX9_readLine 76 [(0, .ref 58)] [] M K := by
  show Rn (d + 1) μX9_readLine 76 [(0, .ref 58)] [] M _
  refine rn_aload_n (i := 0) (x := 58) dX9_readLine_76 rfl (by simp) ?_
  refine rn_ldc2 (v := 495874892151) dX9_readLine_77 lk_X9_156 ?_
  refine rn_callVi (as := [.long 495874892151]) (st := []) dX9_readLine_80 mf_X9_isWord lk_X9_178 im_X9_isWord rfl rfl rfl rfl (Nat.le_of_ble_eq_true rfl) (Nat.le_of_ble_eq_true rfl) rfl (RI.mono h (fun r2 M1 h => ?_))
  refine rn_if_eq (tgt := 114) dX9_readLine_83 (by decide) (ite_go h (fun hc h => ?_) (fun hc h => ?_))
  · exact h
  · refine rn_aload_n (i := 0) (x := 58) dX9_readLine_86 rfl (by simp) ?_
    refine rn_geti dX9_readLine_87 rfl gf_X9_384 (by decide) ?_
    refine rn_if_ne (tgt := 114) dX9_readLine_90 (by decide) (ite_go h (fun hc h => ?_) (fun hc h => ?_))
    · refine rn_aload_n (i := 0) (x := 58) dX9_readLine_93 rfl (by simp) ?_
      refine rn_iconst (v := 1) dX9_readLine_94 rfl ?_
      have h := h _ rfl
      refine rn_puti dX9_readLine_95 rfl pf_X9_384 (by decide) rfl rfl ?_
      generalize wi M1 58 37 1 = M3 at h ⊢
      refine rn_aload_n (i := 0) (x := 58) dX9_readLine_98 rfl (by simp) ?_
      refine rn_aload_n (i := 0) (x := 58) dX9_readLine_99 rfl (by simp) ?_
      refine rn_ldc2 (v := 495874892151) dX9_readLine_100 lk_X9_156 ?_
      refine rn_bipush (v := 100) dX9_readLine_103 rfl ?_
      refine rn_callVi (as := [.long 495874892151, .int 100]) (st := [.ref 58]) dX9_readLine_105 mf_X9_told lk_X9_365 im_X9_told rfl rfl rfl rfl (Nat.le_of_ble_eq_true rfl) (Nat.le_of_ble_eq_true rfl) rfl (RI.mono h (fun r5 M4 h => ?_))
      have h := h _ rfl
      refine rn_puti dX9_readLine_108 rfl pf_X9_387 (by decide) rfl rfl ?_
      generalize wi M4 58 33 r5 = M6 at h ⊢
      refine rn_goto (tgt := 158) dX9_readLine_111 (by decide) ?_
      exact h
    · exact h
set_option maxRecDepth 20000 in
theorem sg_X9_readLine_114 {d : Nat}  {M : Mem} {K : (Mem → Prop)}  (h : (CI d μX9_isWord [.ref 58, .long 1685217655] M (fun r2 M1 => (if r2 = 0 then (CV d μX9_wrong [.ref 58, .int 2] M1 (fun M3 => RV (d + 1) μX9_readLine 158 [(0, .ref 58)] [] M3 K)) else (if ri M1 58 38 = 0 then (∀ M4, M4 = wi M1 58 38 1 → (CI d μX9_told [.ref 58, .long 1685217655, .int 999] M4 (fun r6 M5 => (∀ M7, M7 = wi M5 58 34 r6 → RV (d + 1) μX9_readLine 158 [(0, .ref 58)] [] M7 K)))) else (CV d μX9_wrong [.ref 58, .int 2] M1 (fun M8 => RV (d + 1) μX9_readLine 158 [(0, .ref 58)] [] M8 K))))))) : RV (d + 1) μX9_readLine 114 [(0, .ref 58)] [] M K := by
  show Rn (d + 1) μX9_readLine 114 [(0, .ref 58)] [] M _
  refine rn_aload_n (i := 0) (x := 58) dX9_readLine_114 rfl (by simp) ?_
  refine rn_ldc2 (v := 1685217655) dX9_readLine_115 lk_X9_158 ?_
  refine rn_callVi (as := [.long 1685217655]) (st := []) dX9_readLine_118 mf_X9_isWord lk_X9_178 im_X9_isWord rfl rfl rfl rfl (Nat.le_of_ble_eq_true rfl) (Nat.le_of_ble_eq_true rfl) rfl (RI.mono h (fun r2 M1 h => ?_))
  refine rn_if_eq (tgt := 153) dX9_readLine_121 (by decide) (ite_go h (fun hc h => ?_) (fun hc h => ?_))
  · refine rn_aload_n (i := 0) (x := 58) dX9_readLine_153 rfl (by simp) ?_
    refine rn_iconst (v := 2) dX9_readLine_154 rfl ?_
    refine rn_callVv (as := [.int 2]) (st := []) dX9_readLine_155 mf_X9_wrong lk_X9_182 im_X9_wrong rfl rfl rfl rfl (Nat.le_of_ble_eq_true rfl) (Nat.le_of_ble_eq_true rfl) rfl (RV.mono h (fun M3 h => ?_))
    exact h
  · refine rn_aload_n (i := 0) (x := 58) dX9_readLine_124 rfl (by simp) ?_
    refine rn_geti dX9_readLine_125 rfl gf_X9_390 (by decide) ?_
    refine rn_if_ne (tgt := 153) dX9_readLine_128 (by decide) (ite_go h (fun hc h => ?_) (fun hc h => ?_))
    · refine rn_aload_n (i := 0) (x := 58) dX9_readLine_131 rfl (by simp) ?_
      refine rn_iconst (v := 1) dX9_readLine_132 rfl ?_
      have h := h _ rfl
      refine rn_puti dX9_readLine_133 rfl pf_X9_390 (by decide) rfl rfl ?_
      generalize wi M1 58 38 1 = M4 at h ⊢
      refine rn_aload_n (i := 0) (x := 58) dX9_readLine_136 rfl (by simp) ?_
      refine rn_aload_n (i := 0) (x := 58) dX9_readLine_137 rfl (by simp) ?_
      refine rn_ldc2 (v := 1685217655) dX9_readLine_138 lk_X9_158 ?_
      refine rn_sipush (v := 999) dX9_readLine_141 rfl ?_
      refine rn_callVi (as := [.long 1685217655, .int 999]) (st := [.ref 58]) dX9_readLine_144 mf_X9_told lk_X9_365 im_X9_told rfl rfl rfl rfl (Nat.le_of_ble_eq_true rfl) (Nat.le_of_ble_eq_true rfl) rfl (RI.mono h (fun r6 M5 h => ?_))
      have h := h _ rfl
      refine rn_puti dX9_readLine_147 rfl pf_X9_393 (by decide) rfl rfl ?_
      generalize wi M5 58 34 r6 = M7 at h ⊢
      refine rn_goto (tgt := 158) dX9_readLine_150 (by decide) ?_
      exact h
    · refine rn_aload_n (i := 0) (x := 58) dX9_readLine_153 rfl (by simp) ?_
      refine rn_iconst (v := 2) dX9_readLine_154 rfl ?_
      refine rn_callVv (as := [.int 2]) (st := []) dX9_readLine_155 mf_X9_wrong lk_X9_182 im_X9_wrong rfl rfl rfl rfl (Nat.le_of_ble_eq_true rfl) (Nat.le_of_ble_eq_true rfl) rfl (RV.mono h (fun M8 h => ?_))
      exact h
set_option maxRecDepth 20000 in
theorem sg_X9_readLine_158 {d : Nat}  {M : Mem} {K : (Mem → Prop)}  (h : (if ri M 58 2 = 0 then (if ri M 58 6 = 59 then (if ri M 58 2 = 0 then (CV d μX9_token [.ref 58] M (fun M1 => K M1)) else K M) else (CV d μX9_wrong [.ref 58, .int 2] M (fun M2 => (if ri M2 58 2 = 0 then (CV d μX9_token [.ref 58] M2 (fun M3 => K M3)) else K M2)))) else (if ri M 58 2 = 0 then (CV d μX9_token [.ref 58] M (fun M4 => K M4)) else K M))) : RV (d + 1) μX9_readLine 158 [(0, .ref 58)] [] M K := by
  show Rn (d + 1) μX9_readLine 158 [(0, .ref 58)] [] M _
  refine rn_aload_n (i := 0) (x := 58) dX9_readLine_158 rfl (by simp) ?_
  refine rn_geti dX9_readLine_159 rfl gf_X9_143 (by decide) ?_
  refine rn_if_ne (tgt := 179) dX9_readLine_162 (by decide) (ite_go h (fun hc h => ?_) (fun hc h => ?_))
  · refine rn_aload_n (i := 0) (x := 58) dX9_readLine_165 rfl (by simp) ?_
    refine rn_geti dX9_readLine_166 rfl gf_X9_130 (by decide) ?_
    refine rn_bipush (v := 59) dX9_readLine_169 rfl ?_
    refine rn_icmp_eq (tgt := 179) dX9_readLine_171 (by decide) (ite_go h (fun hc h => ?_) (fun hc h => ?_))
    · refine rn_aload_n (i := 0) (x := 58) dX9_readLine_179 rfl (by simp) ?_
      refine rn_geti dX9_readLine_180 rfl gf_X9_143 (by decide) ?_
      refine rn_if_ne (tgt := 190) dX9_readLine_183 (by decide) (ite_go h (fun hc h => ?_) (fun hc h => ?_))
      · refine rn_aload_n (i := 0) (x := 58) dX9_readLine_186 rfl (by simp) ?_
        refine rn_callVv (as := []) (st := []) dX9_readLine_187 mf_X9_token lk_X9_185 im_X9_token rfl rfl rfl rfl (Nat.le_of_ble_eq_true rfl) (Nat.le_of_ble_eq_true rfl) rfl (RV.mono h (fun M1 h => ?_))
        exact rn_ret dX9_readLine_190 rfl ⟨rfl, h⟩
      · exact rn_ret dX9_readLine_190 rfl ⟨rfl, h⟩
    · refine rn_aload_n (i := 0) (x := 58) dX9_readLine_174 rfl (by simp) ?_
      refine rn_iconst (v := 2) dX9_readLine_175 rfl ?_
      refine rn_callVv (as := [.int 2]) (st := []) dX9_readLine_176 mf_X9_wrong lk_X9_182 im_X9_wrong rfl rfl rfl rfl (Nat.le_of_ble_eq_true rfl) (Nat.le_of_ble_eq_true rfl) rfl (RV.mono h (fun M2 h => ?_))
      refine rn_aload_n (i := 0) (x := 58) dX9_readLine_179 rfl (by simp) ?_
      refine rn_geti dX9_readLine_180 rfl gf_X9_143 (by decide) ?_
      refine rn_if_ne (tgt := 190) dX9_readLine_183 (by decide) (ite_go h (fun hc h => ?_) (fun hc h => ?_))
      · refine rn_aload_n (i := 0) (x := 58) dX9_readLine_186 rfl (by simp) ?_
        refine rn_callVv (as := []) (st := []) dX9_readLine_187 mf_X9_token lk_X9_185 im_X9_token rfl rfl rfl rfl (Nat.le_of_ble_eq_true rfl) (Nat.le_of_ble_eq_true rfl) rfl (RV.mono h (fun M3 h => ?_))
        exact rn_ret dX9_readLine_190 rfl ⟨rfl, h⟩
      · exact rn_ret dX9_readLine_190 rfl ⟨rfl, h⟩
  · refine rn_aload_n (i := 0) (x := 58) dX9_readLine_179 rfl (by simp) ?_
    refine rn_geti dX9_readLine_180 rfl gf_X9_143 (by decide) ?_
    refine rn_if_ne (tgt := 190) dX9_readLine_183 (by decide) (ite_go h (fun hc h => ?_) (fun hc h => ?_))
    · refine rn_aload_n (i := 0) (x := 58) dX9_readLine_186 rfl (by simp) ?_
      refine rn_callVv (as := []) (st := []) dX9_readLine_187 mf_X9_token lk_X9_185 im_X9_token rfl rfl rfl rfl (Nat.le_of_ble_eq_true rfl) (Nat.le_of_ble_eq_true rfl) rfl (RV.mono h (fun M4 h => ?_))
      exact rn_ret dX9_readLine_190 rfl ⟨rfl, h⟩
    · exact rn_ret dX9_readLine_190 rfl ⟨rfl, h⟩
theorem dX9_readAll_0 : decode μX9_readAll.2.1 0 = .ok (.aload_n 0, 1) := by decide +kernel
theorem dX9_readAll_1 : decode μX9_readAll.2.1 1 = .ok (.aload_n 0, 1) := by decide +kernel
theorem dX9_readAll_2 : decode μX9_readAll.2.1 2 = .ok (.getfield 103, 3) := by decide +kernel
theorem dX9_readAll_5 : decode μX9_readAll.2.1 5 = .ok (.putfield 113, 3) := by decide +kernel
theorem dX9_readAll_8 : decode μX9_readAll.2.1 8 = .ok (.aload_n 0, 1) := by decide +kernel
theorem dX9_readAll_9 : decode μX9_readAll.2.1 9 = .ok (.iconst 0, 1) := by decide +kernel
theorem dX9_readAll_10 : decode μX9_readAll.2.1 10 = .ok (.putfield 103, 3) := by decide +kernel
theorem dX9_readAll_13 : decode μX9_readAll.2.1 13 = .ok (.aload_n 0, 1) := by decide +kernel
theorem dX9_readAll_14 : decode μX9_readAll.2.1 14 = .ok (.iconst 0, 1) := by decide +kernel
theorem dX9_readAll_15 : decode μX9_readAll.2.1 15 = .ok (.putfield 110, 3) := by decide +kernel
theorem dX9_readAll_18 : decode μX9_readAll.2.1 18 = .ok (.aload_n 0, 1) := by decide +kernel
theorem dX9_readAll_19 : decode μX9_readAll.2.1 19 = .ok (.iconst 0, 1) := by decide +kernel
theorem dX9_readAll_20 : decode μX9_readAll.2.1 20 = .ok (.putfield 143, 3) := by decide +kernel
theorem dX9_readAll_23 : decode μX9_readAll.2.1 23 = .ok (.aload_n 0, 1) := by decide +kernel
theorem dX9_readAll_24 : decode μX9_readAll.2.1 24 = .ok (.iconst (-1), 1) := by decide +kernel
theorem dX9_readAll_25 : decode μX9_readAll.2.1 25 = .ok (.putfield 13, 3) := by decide +kernel
theorem dX9_readAll_28 : decode μX9_readAll.2.1 28 = .ok (.aload_n 0, 1) := by decide +kernel
theorem dX9_readAll_29 : decode μX9_readAll.2.1 29 = .ok (.iconst 0, 1) := by decide +kernel
theorem dX9_readAll_30 : decode μX9_readAll.2.1 30 = .ok (.putfield 195, 3) := by decide +kernel
theorem dX9_readAll_33 : decode μX9_readAll.2.1 33 = .ok (.aload_n 0, 1) := by decide +kernel
theorem dX9_readAll_34 : decode μX9_readAll.2.1 34 = .ok (.iconst 0, 1) := by decide +kernel
theorem dX9_readAll_35 : decode μX9_readAll.2.1 35 = .ok (.putfield 372, 3) := by decide +kernel
theorem dX9_readAll_38 : decode μX9_readAll.2.1 38 = .ok (.aload_n 0, 1) := by decide +kernel
theorem dX9_readAll_39 : decode μX9_readAll.2.1 39 = .ok (.iconst 0, 1) := by decide +kernel
theorem dX9_readAll_40 : decode μX9_readAll.2.1 40 = .ok (.putfield 387, 3) := by decide +kernel
theorem dX9_readAll_43 : decode μX9_readAll.2.1 43 = .ok (.aload_n 0, 1) := by decide +kernel
theorem dX9_readAll_44 : decode μX9_readAll.2.1 44 = .ok (.iconst 0, 1) := by decide +kernel
theorem dX9_readAll_45 : decode μX9_readAll.2.1 45 = .ok (.putfield 393, 3) := by decide +kernel
theorem dX9_readAll_48 : decode μX9_readAll.2.1 48 = .ok (.aload_n 0, 1) := by decide +kernel
theorem dX9_readAll_49 : decode μX9_readAll.2.1 49 = .ok (.iconst 0, 1) := by decide +kernel
theorem dX9_readAll_50 : decode μX9_readAll.2.1 50 = .ok (.putfield 384, 3) := by decide +kernel
theorem dX9_readAll_53 : decode μX9_readAll.2.1 53 = .ok (.aload_n 0, 1) := by decide +kernel
theorem dX9_readAll_54 : decode μX9_readAll.2.1 54 = .ok (.iconst 0, 1) := by decide +kernel
theorem dX9_readAll_55 : decode μX9_readAll.2.1 55 = .ok (.putfield 390, 3) := by decide +kernel
theorem dX9_readAll_58 : decode μX9_readAll.2.1 58 = .ok (.aload_n 0, 1) := by decide +kernel
theorem dX9_readAll_59 : decode μX9_readAll.2.1 59 = .ok (.iconst 0, 1) := by decide +kernel
theorem dX9_readAll_60 : decode μX9_readAll.2.1 60 = .ok (.putfield 242, 3) := by decide +kernel
theorem dX9_readAll_63 : decode μX9_readAll.2.1 63 = .ok (.aload_n 0, 1) := by decide +kernel
theorem dX9_readAll_64 : decode μX9_readAll.2.1 64 = .ok (.iconst 0, 1) := by decide +kernel
theorem dX9_readAll_65 : decode μX9_readAll.2.1 65 = .ok (.putfield 221, 3) := by decide +kernel
theorem dX9_readAll_68 : decode μX9_readAll.2.1 68 = .ok (.iconst 0, 1) := by decide +kernel
theorem dX9_readAll_69 : decode μX9_readAll.2.1 69 = .ok (.istore_n 1, 1) := by decide +kernel
theorem dX9_readAll_70 : decode μX9_readAll.2.1 70 = .ok (.iload_n 1, 1) := by decide +kernel
theorem dX9_readAll_71 : decode μX9_readAll.2.1 71 = .ok (.bipush 24, 2) := by decide +kernel
theorem dX9_readAll_73 : decode μX9_readAll.2.1 73 = .ok (.if_icmp .ge 16, 3) := by decide +kernel
theorem dX9_readAll_76 : decode μX9_readAll.2.1 76 = .ok (.aload_n 0, 1) := by decide +kernel
theorem dX9_readAll_77 : decode μX9_readAll.2.1 77 = .ok (.getfield 45, 3) := by decide +kernel
theorem dX9_readAll_80 : decode μX9_readAll.2.1 80 = .ok (.iload_n 1, 1) := by decide +kernel
theorem dX9_readAll_81 : decode μX9_readAll.2.1 81 = .ok (.iconst 0, 1) := by decide +kernel
theorem dX9_readAll_82 : decode μX9_readAll.2.1 82 = .ok (.iastore, 1) := by decide +kernel
theorem dX9_readAll_83 : decode μX9_readAll.2.1 83 = .ok (.iinc 1 1, 3) := by decide +kernel
theorem dX9_readAll_86 : decode μX9_readAll.2.1 86 = .ok (.goto (-16), 3) := by decide +kernel
theorem dX9_readAll_89 : decode μX9_readAll.2.1 89 = .ok (.aload_n 0, 1) := by decide +kernel
theorem dX9_readAll_90 : decode μX9_readAll.2.1 90 = .ok (.invokevirtual 185, 3) := by decide +kernel
theorem dX9_readAll_93 : decode μX9_readAll.2.1 93 = .ok (.aload_n 0, 1) := by decide +kernel
theorem dX9_readAll_94 : decode μX9_readAll.2.1 94 = .ok (.getfield 143, 3) := by decide +kernel
theorem dX9_readAll_97 : decode μX9_readAll.2.1 97 = .ok (.ifCond .ne 17, 3) := by decide +kernel
theorem dX9_readAll_100 : decode μX9_readAll.2.1 100 = .ok (.aload_n 0, 1) := by decide +kernel
theorem dX9_readAll_101 : decode μX9_readAll.2.1 101 = .ok (.getfield 130, 3) := by decide +kernel
theorem dX9_readAll_104 : decode μX9_readAll.2.1 104 = .ok (.ifCond .eq 10, 3) := by decide +kernel
theorem dX9_readAll_107 : decode μX9_readAll.2.1 107 = .ok (.aload_n 0, 1) := by decide +kernel
theorem dX9_readAll_108 : decode μX9_readAll.2.1 108 = .ok (.invokevirtual 396, 3) := by decide +kernel
theorem dX9_readAll_111 : decode μX9_readAll.2.1 111 = .ok (.goto (-18), 3) := by decide +kernel
theorem dX9_readAll_114 : decode μX9_readAll.2.1 114 = .ok (.return_, 1) := by decide +kernel
set_option maxRecDepth 20000 in
theorem sg_X9_readAll_0 {d : Nat}  {M : Mem} {K : (Mem → Prop)}  (h : (∀ M1, M1 = wi M 58 5 (ri M 58 1) → (∀ M2, M2 = wi M1 58 1 0 → (∀ M3, M3 = wi M2 58 4 0 → (∀ M4, M4 = wi M3 58 2 0 → (∀ M5, M5 = wi M4 58 3 ((-1)) → (∀ M6, M6 = wi M5 58 31 0 → (∀ M7, M7 = wi M6 58 32 0 → (∀ M8, M8 = wi M7 58 33 0 → (∀ M9, M9 = wi M8 58 34 0 → (∀ M10, M10 = wi M9 58 37 0 → (∀ M11, M11 = wi M10 58 38 0 → (∀ M12, M12 = wi M11 58 24 0 → (∀ M13, M13 = wi M12 58 20 0 → RV (d + 1) μX9_readAll 70 [(0, .ref 58), (1, .int 0)] [] M13 K)))))))))))))) : CV (d + 1) μX9_readAll [.ref 58] M K := by
  show Rn (d + 1) μX9_readAll 0 [(0, .ref 58)] [] M _
  refine rn_aload_n (i := 0) (x := 58) dX9_readAll_0 rfl (by simp) ?_
  refine rn_aload_n (i := 0) (x := 58) dX9_readAll_1 rfl (by simp) ?_
  refine rn_geti dX9_readAll_2 rfl gf_X9_103 (by decide) ?_
  have h := h _ rfl
  refine rn_puti dX9_readAll_5 rfl pf_X9_113 (by decide) rfl rfl ?_
  generalize wi M 58 5 (ri M 58 1) = M1 at h ⊢
  refine rn_aload_n (i := 0) (x := 58) dX9_readAll_8 rfl (by simp) ?_
  refine rn_iconst (v := 0) dX9_readAll_9 rfl ?_
  have h := h _ rfl
  refine rn_puti dX9_readAll_10 rfl pf_X9_103 (by decide) rfl rfl ?_
  generalize wi M1 58 1 0 = M2 at h ⊢
  refine rn_aload_n (i := 0) (x := 58) dX9_readAll_13 rfl (by simp) ?_
  refine rn_iconst (v := 0) dX9_readAll_14 rfl ?_
  have h := h _ rfl
  refine rn_puti dX9_readAll_15 rfl pf_X9_110 (by decide) rfl rfl ?_
  generalize wi M2 58 4 0 = M3 at h ⊢
  refine rn_aload_n (i := 0) (x := 58) dX9_readAll_18 rfl (by simp) ?_
  refine rn_iconst (v := 0) dX9_readAll_19 rfl ?_
  have h := h _ rfl
  refine rn_puti dX9_readAll_20 rfl pf_X9_143 (by decide) rfl rfl ?_
  generalize wi M3 58 2 0 = M4 at h ⊢
  refine rn_aload_n (i := 0) (x := 58) dX9_readAll_23 rfl (by simp) ?_
  refine rn_iconst (v := -1) dX9_readAll_24 rfl ?_
  have h := h _ rfl
  refine rn_puti dX9_readAll_25 rfl pf_X9_13 (by decide) rfl rfl ?_
  generalize wi M4 58 3 ((-1)) = M5 at h ⊢
  refine rn_aload_n (i := 0) (x := 58) dX9_readAll_28 rfl (by simp) ?_
  refine rn_iconst (v := 0) dX9_readAll_29 rfl ?_
  have h := h _ rfl
  refine rn_puti dX9_readAll_30 rfl pf_X9_195 (by decide) rfl rfl ?_
  generalize wi M5 58 31 0 = M6 at h ⊢
  refine rn_aload_n (i := 0) (x := 58) dX9_readAll_33 rfl (by simp) ?_
  refine rn_iconst (v := 0) dX9_readAll_34 rfl ?_
  have h := h _ rfl
  refine rn_puti dX9_readAll_35 rfl pf_X9_372 (by decide) rfl rfl ?_
  generalize wi M6 58 32 0 = M7 at h ⊢
  refine rn_aload_n (i := 0) (x := 58) dX9_readAll_38 rfl (by simp) ?_
  refine rn_iconst (v := 0) dX9_readAll_39 rfl ?_
  have h := h _ rfl
  refine rn_puti dX9_readAll_40 rfl pf_X9_387 (by decide) rfl rfl ?_
  generalize wi M7 58 33 0 = M8 at h ⊢
  refine rn_aload_n (i := 0) (x := 58) dX9_readAll_43 rfl (by simp) ?_
  refine rn_iconst (v := 0) dX9_readAll_44 rfl ?_
  have h := h _ rfl
  refine rn_puti dX9_readAll_45 rfl pf_X9_393 (by decide) rfl rfl ?_
  generalize wi M8 58 34 0 = M9 at h ⊢
  refine rn_aload_n (i := 0) (x := 58) dX9_readAll_48 rfl (by simp) ?_
  refine rn_iconst (v := 0) dX9_readAll_49 rfl ?_
  have h := h _ rfl
  refine rn_puti dX9_readAll_50 rfl pf_X9_384 (by decide) rfl rfl ?_
  generalize wi M9 58 37 0 = M10 at h ⊢
  refine rn_aload_n (i := 0) (x := 58) dX9_readAll_53 rfl (by simp) ?_
  refine rn_iconst (v := 0) dX9_readAll_54 rfl ?_
  have h := h _ rfl
  refine rn_puti dX9_readAll_55 rfl pf_X9_390 (by decide) rfl rfl ?_
  generalize wi M10 58 38 0 = M11 at h ⊢
  refine rn_aload_n (i := 0) (x := 58) dX9_readAll_58 rfl (by simp) ?_
  refine rn_iconst (v := 0) dX9_readAll_59 rfl ?_
  have h := h _ rfl
  refine rn_puti dX9_readAll_60 rfl pf_X9_242 (by decide) rfl rfl ?_
  generalize wi M11 58 24 0 = M12 at h ⊢
  refine rn_aload_n (i := 0) (x := 58) dX9_readAll_63 rfl (by simp) ?_
  refine rn_iconst (v := 0) dX9_readAll_64 rfl ?_
  have h := h _ rfl
  refine rn_puti dX9_readAll_65 rfl pf_X9_221 (by decide) rfl rfl ?_
  generalize wi M12 58 20 0 = M13 at h ⊢
  refine rn_iconst (v := 0) dX9_readAll_68 rfl ?_
  refine rn_istore_n (lv' := [(0, .ref 58), (1, .int 0)]) (hd := dX9_readAll_69) (i := 1) (hi := rfl) (hn := by decide) (hf := rfl) (hl := rfl) ?_
  exact h
set_option maxRecDepth 20000 in
theorem sg_X9_readAll_70 {d : Nat} {x1 : Int32} {M : Mem} {K : (Mem → Prop)}  (h : (if 24 ≤ x1 then (CV d μX9_token [.ref 58] M (fun M1 => RV (d + 1) μX9_readAll 93 [(0, .ref 58), (1, .int x1)] [] M1 K)) else (vp_in x1 24 ∧ ∀ M2, M2 = wi M 69 (nx x1) 0 → RV (d + 1) μX9_readAll 70 [(0, .ref 58), (1, .int (x1 + 1))] [] M2 K))) : RV (d + 1) μX9_readAll 70 [(0, .ref 58), (1, .int x1)] [] M K := by
  show Rn (d + 1) μX9_readAll 70 [(0, .ref 58), (1, .int x1)] [] M _
  refine rn_iload_n (i := 1) (x := x1) dX9_readAll_70 rfl (by simp) ?_
  refine rn_bipush (v := 24) dX9_readAll_71 rfl ?_
  refine rn_icmp_ge (tgt := 89) dX9_readAll_73 (by decide) (ite_go h (fun hc h => ?_) (fun hc h => ?_))
  · refine rn_aload_n (i := 0) (x := 58) dX9_readAll_89 rfl (by simp) ?_
    refine rn_callVv (as := []) (st := []) dX9_readAll_90 mf_X9_token lk_X9_185 im_X9_token rfl rfl rfl rfl (Nat.le_of_ble_eq_true rfl) (Nat.le_of_ble_eq_true rfl) rfl (RV.mono h (fun M1 h => ?_))
    exact h
  · refine rn_aload_n (i := 0) (x := 58) dX9_readAll_76 rfl (by simp) ?_
    refine rn_getr (t := 69) dX9_readAll_77 rfl gf_X9_45 rfl rfl ?_
    refine rn_iload_n (i := 1) (x := x1) dX9_readAll_80 rfl (by simp) ?_
    refine rn_iconst (v := 0) dX9_readAll_81 rfl ?_
    obtain ⟨hi, h⟩ := h
    have h := h _ rfl
    refine rn_iastore dX9_readAll_82 rfl hi ?_
    generalize wi M 69 (nx x1) 0 = M2 at h ⊢
    refine rn_iinc (x := x1) (v := x1 + 1) (lv' := [(0, .ref 58), (1, .int (x1 + 1))]) dX9_readAll_83 (by simp) rfl (by decide) rfl rfl ?_
    refine rn_goto (tgt := 70) dX9_readAll_86 (by decide) ?_
    exact h
set_option maxRecDepth 20000 in
theorem sg_X9_readAll_93 {d : Nat} {x1 : Int32} {M : Mem} {K : (Mem → Prop)}  (h : (if ri M 58 2 = 0 then (if ri M 58 6 = 0 then K M else (CV d μX9_readLine [.ref 58] M (fun M1 => RV (d + 1) μX9_readAll 93 [(0, .ref 58), (1, .int x1)] [] M1 K))) else K M)) : RV (d + 1) μX9_readAll 93 [(0, .ref 58), (1, .int x1)] [] M K := by
  show Rn (d + 1) μX9_readAll 93 [(0, .ref 58), (1, .int x1)] [] M _
  refine rn_aload_n (i := 0) (x := 58) dX9_readAll_93 rfl (by simp) ?_
  refine rn_geti dX9_readAll_94 rfl gf_X9_143 (by decide) ?_
  refine rn_if_ne (tgt := 114) dX9_readAll_97 (by decide) (ite_go h (fun hc h => ?_) (fun hc h => ?_))
  · refine rn_aload_n (i := 0) (x := 58) dX9_readAll_100 rfl (by simp) ?_
    refine rn_geti dX9_readAll_101 rfl gf_X9_130 (by decide) ?_
    refine rn_if_eq (tgt := 114) dX9_readAll_104 (by decide) (ite_go h (fun hc h => ?_) (fun hc h => ?_))
    · exact rn_ret dX9_readAll_114 rfl ⟨rfl, h⟩
    · refine rn_aload_n (i := 0) (x := 58) dX9_readAll_107 rfl (by simp) ?_
      refine rn_callVv (as := []) (st := []) dX9_readAll_108 mf_X9_readLine lk_X9_396 im_X9_readLine rfl rfl rfl rfl (Nat.le_of_ble_eq_true rfl) (Nat.le_of_ble_eq_true rfl) rfl (RV.mono h (fun M1 h => ?_))
      refine rn_goto (tgt := 93) dX9_readAll_111 (by decide) ?_
      exact h
  · exact rn_ret dX9_readAll_114 rfl ⟨rfl, h⟩
theorem dX9_shire_0 : decode μX9_shire.2.1 0 = .ok (.aload_n 0, 1) := by decide +kernel
theorem dX9_shire_1 : decode μX9_shire.2.1 1 = .ok (.invokevirtual 399, 3) := by decide +kernel
theorem dX9_shire_4 : decode μX9_shire.2.1 4 = .ok (.aload_n 0, 1) := by decide +kernel
theorem dX9_shire_5 : decode μX9_shire.2.1 5 = .ok (.getfield 143, 3) := by decide +kernel
theorem dX9_shire_8 : decode μX9_shire.2.1 8 = .ok (.ifCond .le 5, 3) := by decide +kernel
theorem dX9_shire_11 : decode μX9_shire.2.1 11 = .ok (.iconst (-1), 1) := by decide +kernel
theorem dX9_shire_12 : decode μX9_shire.2.1 12 = .ok (.ireturn, 1) := by decide +kernel
theorem dX9_shire_13 : decode μX9_shire.2.1 13 = .ok (.aload_n 0, 1) := by decide +kernel
theorem dX9_shire_14 : decode μX9_shire.2.1 14 = .ok (.aload_n 0, 1) := by decide +kernel
theorem dX9_shire_15 : decode μX9_shire.2.1 15 = .ok (.getfield 195, 3) := by decide +kernel
theorem dX9_shire_18 : decode μX9_shire.2.1 18 = .ok (.putfield 326, 3) := by decide +kernel
theorem dX9_shire_21 : decode μX9_shire.2.1 21 = .ok (.aload_n 0, 1) := by decide +kernel
theorem dX9_shire_22 : decode μX9_shire.2.1 22 = .ok (.aload_n 0, 1) := by decide +kernel
theorem dX9_shire_23 : decode μX9_shire.2.1 23 = .ok (.getfield 387, 3) := by decide +kernel
theorem dX9_shire_26 : decode μX9_shire.2.1 26 = .ok (.putfield 353, 3) := by decide +kernel
theorem dX9_shire_29 : decode μX9_shire.2.1 29 = .ok (.aload_n 0, 1) := by decide +kernel
theorem dX9_shire_30 : decode μX9_shire.2.1 30 = .ok (.aload_n 0, 1) := by decide +kernel
theorem dX9_shire_31 : decode μX9_shire.2.1 31 = .ok (.getfield 221, 3) := by decide +kernel
theorem dX9_shire_34 : decode μX9_shire.2.1 34 = .ok (.putfield 402, 3) := by decide +kernel
theorem dX9_shire_37 : decode μX9_shire.2.1 37 = .ok (.aload_n 0, 1) := by decide +kernel
theorem dX9_shire_38 : decode μX9_shire.2.1 38 = .ok (.aload_n 0, 1) := by decide +kernel
theorem dX9_shire_39 : decode μX9_shire.2.1 39 = .ok (.getfield 242, 3) := by decide +kernel
theorem dX9_shire_42 : decode μX9_shire.2.1 42 = .ok (.putfield 277, 3) := by decide +kernel
theorem dX9_shire_45 : decode μX9_shire.2.1 45 = .ok (.aload_n 0, 1) := by decide +kernel
theorem dX9_shire_46 : decode μX9_shire.2.1 46 = .ok (.aload_n 0, 1) := by decide +kernel
theorem dX9_shire_47 : decode μX9_shire.2.1 47 = .ok (.getfield 242, 3) := by decide +kernel
theorem dX9_shire_50 : decode μX9_shire.2.1 50 = .ok (.ifCond .eq 10, 3) := by decide +kernel
theorem dX9_shire_53 : decode μX9_shire.2.1 53 = .ok (.aload_n 0, 1) := by decide +kernel
theorem dX9_shire_54 : decode μX9_shire.2.1 54 = .ok (.getfield 205, 3) := by decide +kernel
theorem dX9_shire_57 : decode μX9_shire.2.1 57 = .ok (.goto 4, 3) := by decide +kernel
theorem dX9_shire_60 : decode μX9_shire.2.1 60 = .ok (.iconst 0, 1) := by decide +kernel
theorem dX9_shire_61 : decode μX9_shire.2.1 61 = .ok (.putfield 284, 3) := by decide +kernel
theorem dX9_shire_64 : decode μX9_shire.2.1 64 = .ok (.iconst 0, 1) := by decide +kernel
theorem dX9_shire_65 : decode μX9_shire.2.1 65 = .ok (.istore_n 1, 1) := by decide +kernel
theorem dX9_shire_66 : decode μX9_shire.2.1 66 = .ok (.iload_n 1, 1) := by decide +kernel
theorem dX9_shire_67 : decode μX9_shire.2.1 67 = .ok (.aload_n 0, 1) := by decide +kernel
theorem dX9_shire_68 : decode μX9_shire.2.1 68 = .ok (.getfield 284, 3) := by decide +kernel
theorem dX9_shire_71 : decode μX9_shire.2.1 71 = .ok (.if_icmp .ge 33, 3) := by decide +kernel
theorem dX9_shire_74 : decode μX9_shire.2.1 74 = .ok (.aload_n 0, 1) := by decide +kernel
theorem dX9_shire_75 : decode μX9_shire.2.1 75 = .ok (.getfield 27, 3) := by decide +kernel
theorem dX9_shire_78 : decode μX9_shire.2.1 78 = .ok (.iload_n 1, 1) := by decide +kernel
theorem dX9_shire_79 : decode μX9_shire.2.1 79 = .ok (.aload_n 0, 1) := by decide +kernel
theorem dX9_shire_80 : decode μX9_shire.2.1 80 = .ok (.getfield 21, 3) := by decide +kernel
theorem dX9_shire_83 : decode μX9_shire.2.1 83 = .ok (.iload_n 1, 1) := by decide +kernel
theorem dX9_shire_84 : decode μX9_shire.2.1 84 = .ok (.iaload, 1) := by decide +kernel
theorem dX9_shire_85 : decode μX9_shire.2.1 85 = .ok (.iastore, 1) := by decide +kernel
theorem dX9_shire_86 : decode μX9_shire.2.1 86 = .ok (.aload_n 0, 1) := by decide +kernel
theorem dX9_shire_87 : decode μX9_shire.2.1 87 = .ok (.getfield 30, 3) := by decide +kernel
theorem dX9_shire_90 : decode μX9_shire.2.1 90 = .ok (.iload_n 1, 1) := by decide +kernel
theorem dX9_shire_91 : decode μX9_shire.2.1 91 = .ok (.aload_n 0, 1) := by decide +kernel
theorem dX9_shire_92 : decode μX9_shire.2.1 92 = .ok (.getfield 24, 3) := by decide +kernel
theorem dX9_shire_95 : decode μX9_shire.2.1 95 = .ok (.iload_n 1, 1) := by decide +kernel
theorem dX9_shire_96 : decode μX9_shire.2.1 96 = .ok (.iaload, 1) := by decide +kernel
theorem dX9_shire_97 : decode μX9_shire.2.1 97 = .ok (.iastore, 1) := by decide +kernel
theorem dX9_shire_98 : decode μX9_shire.2.1 98 = .ok (.iinc 1 1, 3) := by decide +kernel
theorem dX9_shire_101 : decode μX9_shire.2.1 101 = .ok (.goto (-35), 3) := by decide +kernel
theorem dX9_shire_104 : decode μX9_shire.2.1 104 = .ok (.aload_n 0, 1) := by decide +kernel
theorem dX9_shire_105 : decode μX9_shire.2.1 105 = .ok (.getfield 45, 3) := by decide +kernel
theorem dX9_shire_108 : decode μX9_shire.2.1 108 = .ok (.bipush 23, 2) := by decide +kernel
theorem dX9_shire_110 : decode μX9_shire.2.1 110 = .ok (.aload_n 0, 1) := by decide +kernel
theorem dX9_shire_111 : decode μX9_shire.2.1 111 = .ok (.getfield 393, 3) := by decide +kernel
theorem dX9_shire_114 : decode μX9_shire.2.1 114 = .ok (.iastore, 1) := by decide +kernel
theorem dX9_shire_115 : decode μX9_shire.2.1 115 = .ok (.aload_n 0, 1) := by decide +kernel
theorem dX9_shire_116 : decode μX9_shire.2.1 116 = .ok (.invokevirtual 405, 3) := by decide +kernel
theorem dX9_shire_119 : decode μX9_shire.2.1 119 = .ok (.iconst 0, 1) := by decide +kernel
theorem dX9_shire_120 : decode μX9_shire.2.1 120 = .ok (.istore_n 1, 1) := by decide +kernel
theorem dX9_shire_121 : decode μX9_shire.2.1 121 = .ok (.iload_n 1, 1) := by decide +kernel
theorem dX9_shire_122 : decode μX9_shire.2.1 122 = .ok (.bipush 24, 2) := by decide +kernel
theorem dX9_shire_124 : decode μX9_shire.2.1 124 = .ok (.if_icmp .ge 21, 3) := by decide +kernel
theorem dX9_shire_127 : decode μX9_shire.2.1 127 = .ok (.aload_n 0, 1) := by decide +kernel
theorem dX9_shire_128 : decode μX9_shire.2.1 128 = .ok (.getfield 48, 3) := by decide +kernel
theorem dX9_shire_131 : decode μX9_shire.2.1 131 = .ok (.iload_n 1, 1) := by decide +kernel
theorem dX9_shire_132 : decode μX9_shire.2.1 132 = .ok (.aload_n 0, 1) := by decide +kernel
theorem dX9_shire_133 : decode μX9_shire.2.1 133 = .ok (.getfield 45, 3) := by decide +kernel
theorem dX9_shire_136 : decode μX9_shire.2.1 136 = .ok (.iload_n 1, 1) := by decide +kernel
theorem dX9_shire_137 : decode μX9_shire.2.1 137 = .ok (.iaload, 1) := by decide +kernel
theorem dX9_shire_138 : decode μX9_shire.2.1 138 = .ok (.iastore, 1) := by decide +kernel
theorem dX9_shire_139 : decode μX9_shire.2.1 139 = .ok (.iinc 1 1, 3) := by decide +kernel
theorem dX9_shire_142 : decode μX9_shire.2.1 142 = .ok (.goto (-21), 3) := by decide +kernel
theorem dX9_shire_145 : decode μX9_shire.2.1 145 = .ok (.aload_n 0, 1) := by decide +kernel
theorem dX9_shire_146 : decode μX9_shire.2.1 146 = .ok (.iconst 0, 1) := by decide +kernel
theorem dX9_shire_147 : decode μX9_shire.2.1 147 = .ok (.putfield 408, 3) := by decide +kernel
theorem dX9_shire_150 : decode μX9_shire.2.1 150 = .ok (.aload_n 0, 1) := by decide +kernel
theorem dX9_shire_151 : decode μX9_shire.2.1 151 = .ok (.iconst 0, 1) := by decide +kernel
theorem dX9_shire_152 : decode μX9_shire.2.1 152 = .ok (.putfield 411, 3) := by decide +kernel
theorem dX9_shire_155 : decode μX9_shire.2.1 155 = .ok (.aload_n 0, 1) := by decide +kernel
theorem dX9_shire_156 : decode μX9_shire.2.1 156 = .ok (.iconst 0, 1) := by decide +kernel
theorem dX9_shire_157 : decode μX9_shire.2.1 157 = .ok (.putfield 414, 3) := by decide +kernel
theorem dX9_shire_160 : decode μX9_shire.2.1 160 = .ok (.aload_n 0, 1) := by decide +kernel
theorem dX9_shire_161 : decode μX9_shire.2.1 161 = .ok (.iconst 0, 1) := by decide +kernel
theorem dX9_shire_162 : decode μX9_shire.2.1 162 = .ok (.putfield 417, 3) := by decide +kernel
theorem dX9_shire_165 : decode μX9_shire.2.1 165 = .ok (.iconst 0, 1) := by decide +kernel
theorem dX9_shire_166 : decode μX9_shire.2.1 166 = .ok (.istore_n 1, 1) := by decide +kernel
theorem dX9_shire_167 : decode μX9_shire.2.1 167 = .ok (.iload_n 1, 1) := by decide +kernel
theorem dX9_shire_168 : decode μX9_shire.2.1 168 = .ok (.iconst 3, 1) := by decide +kernel
theorem dX9_shire_169 : decode μX9_shire.2.1 169 = .ok (.if_icmp .ge 16, 3) := by decide +kernel
theorem dX9_shire_172 : decode μX9_shire.2.1 172 = .ok (.aload_n 0, 1) := by decide +kernel
theorem dX9_shire_173 : decode μX9_shire.2.1 173 = .ok (.getfield 97, 3) := by decide +kernel
theorem dX9_shire_176 : decode μX9_shire.2.1 176 = .ok (.iload_n 1, 1) := by decide +kernel
theorem dX9_shire_177 : decode μX9_shire.2.1 177 = .ok (.iconst 0, 1) := by decide +kernel
theorem dX9_shire_178 : decode μX9_shire.2.1 178 = .ok (.bastore, 1) := by decide +kernel
theorem dX9_shire_179 : decode μX9_shire.2.1 179 = .ok (.iinc 1 1, 3) := by decide +kernel
theorem dX9_shire_182 : decode μX9_shire.2.1 182 = .ok (.goto (-15), 3) := by decide +kernel
theorem dX9_shire_185 : decode μX9_shire.2.1 185 = .ok (.aload_n 0, 1) := by decide +kernel
theorem dX9_shire_186 : decode μX9_shire.2.1 186 = .ok (.getfield 326, 3) := by decide +kernel
theorem dX9_shire_189 : decode μX9_shire.2.1 189 = .ok (.ireturn, 1) := by decide +kernel
set_option maxRecDepth 20000 in
theorem sg_X9_shire_0 {d : Nat}  {M : Mem} {K : (Int32 → Mem → Prop)}  (h : (CV d μX9_readAll [.ref 58] M (fun M1 => (if ri M1 58 2 ≤ 0 then (∀ M2, M2 = wi M1 58 35 (ri M1 58 31) → (∀ M3, M3 = wi M2 58 36 (ri M2 58 33) → (∀ M4, M4 = wi M3 58 21 (ri M3 58 20) → ((ri M4 58 24 = 0 ∨ ri M4 58 24 = 1) ∧ ∀ M5, M5 = wi M4 58 25 (ri M4 58 24) → (if ri M5 58 24 = 0 then (∀ M6, M6 = wi M5 58 18 0 → RI (d + 1) μX9_shire 66 [(0, .ref 58), (1, .int 0)] [] M6 K) else (∀ M7, M7 = wi M5 58 18 (ri M5 58 17) → RI (d + 1) μX9_shire 66 [(0, .ref 58), (1, .int 0)] [] M7 K)))))) else K ((-1)) M1)))) : CI (d + 1) μX9_shire [.ref 58] M K := by
  show Rn (d + 1) μX9_shire 0 [(0, .ref 58)] [] M _
  refine rn_aload_n (i := 0) (x := 58) dX9_shire_0 rfl (by simp) ?_
  refine rn_callVv (as := []) (st := []) dX9_shire_1 mf_X9_readAll lk_X9_399 im_X9_readAll rfl rfl rfl rfl (Nat.le_of_ble_eq_true rfl) (Nat.le_of_ble_eq_true rfl) rfl (RV.mono h (fun M1 h => ?_))
  refine rn_aload_n (i := 0) (x := 58) dX9_shire_4 rfl (by simp) ?_
  refine rn_geti dX9_shire_5 rfl gf_X9_143 (by decide) ?_
  refine rn_if_le (tgt := 13) dX9_shire_8 (by decide) (ite_go h (fun hc h => ?_) (fun hc h => ?_))
  · refine rn_aload_n (i := 0) (x := 58) dX9_shire_13 rfl (by simp) ?_
    refine rn_aload_n (i := 0) (x := 58) dX9_shire_14 rfl (by simp) ?_
    refine rn_geti dX9_shire_15 rfl gf_X9_195 (by decide) ?_
    have h := h _ rfl
    refine rn_puti dX9_shire_18 rfl pf_X9_326 (by decide) rfl rfl ?_
    generalize wi M1 58 35 (ri M1 58 31) = M2 at h ⊢
    refine rn_aload_n (i := 0) (x := 58) dX9_shire_21 rfl (by simp) ?_
    refine rn_aload_n (i := 0) (x := 58) dX9_shire_22 rfl (by simp) ?_
    refine rn_geti dX9_shire_23 rfl gf_X9_387 (by decide) ?_
    have h := h _ rfl
    refine rn_puti dX9_shire_26 rfl pf_X9_353 (by decide) rfl rfl ?_
    generalize wi M2 58 36 (ri M2 58 33) = M3 at h ⊢
    refine rn_aload_n (i := 0) (x := 58) dX9_shire_29 rfl (by simp) ?_
    refine rn_aload_n (i := 0) (x := 58) dX9_shire_30 rfl (by simp) ?_
    refine rn_geti dX9_shire_31 rfl gf_X9_221 (by decide) ?_
    have h := h _ rfl
    refine rn_puti dX9_shire_34 rfl pf_X9_402 (by decide) rfl rfl ?_
    generalize wi M3 58 21 (ri M3 58 20) = M4 at h ⊢
    refine rn_aload_n (i := 0) (x := 58) dX9_shire_37 rfl (by simp) ?_
    refine rn_aload_n (i := 0) (x := 58) dX9_shire_38 rfl (by simp) ?_
    refine rn_geti dX9_shire_39 rfl gf_X9_242 (by decide) ?_
    obtain ⟨hz, h⟩ := h
    have h := h _ rfl
    refine rn_puti dX9_shire_42 rfl pf_X9_277 (by decide) (by rcases hz with q | q <;> rw [q] <;> rfl) (by rcases hz with q | q <;> rw [q] <;> rfl) ?_
    generalize wi M4 58 25 (ri M4 58 24) = M5 at h ⊢
    refine rn_aload_n (i := 0) (x := 58) dX9_shire_45 rfl (by simp) ?_
    refine rn_aload_n (i := 0) (x := 58) dX9_shire_46 rfl (by simp) ?_
    refine rn_geti dX9_shire_47 rfl gf_X9_242 (by decide) ?_
    refine rn_if_eq (tgt := 60) dX9_shire_50 (by decide) (ite_go h (fun hc h => ?_) (fun hc h => ?_))
    · refine rn_iconst (v := 0) dX9_shire_60 rfl ?_
      have h := h _ rfl
      refine rn_puti dX9_shire_61 rfl pf_X9_284 (by decide) rfl rfl ?_
      generalize wi M5 58 18 0 = M6 at h ⊢
      refine rn_iconst (v := 0) dX9_shire_64 rfl ?_
      refine rn_istore_n (lv' := [(0, .ref 58), (1, .int 0)]) (hd := dX9_shire_65) (i := 1) (hi := rfl) (hn := by decide) (hf := rfl) (hl := rfl) ?_
      exact h
    · refine rn_aload_n (i := 0) (x := 58) dX9_shire_53 rfl (by simp) ?_
      refine rn_geti dX9_shire_54 rfl gf_X9_205 (by decide) ?_
      refine rn_goto (tgt := 61) dX9_shire_57 (by decide) ?_
      have h := h _ rfl
      refine rn_puti dX9_shire_61 rfl pf_X9_284 (by decide) rfl rfl ?_
      generalize wi M5 58 18 (ri M5 58 17) = M7 at h ⊢
      refine rn_iconst (v := 0) dX9_shire_64 rfl ?_
      refine rn_istore_n (lv' := [(0, .ref 58), (1, .int 0)]) (hd := dX9_shire_65) (i := 1) (hi := rfl) (hn := by decide) (hf := rfl) (hl := rfl) ?_
      exact h
  · refine rn_iconst (v := -1) dX9_shire_11 rfl ?_
    exact rn_iret dX9_shire_12 rfl ⟨_, rfl, h⟩
set_option maxRecDepth 20000 in
theorem sg_X9_shire_66 {d : Nat} {x1 : Int32} {M : Mem} {K : (Int32 → Mem → Prop)}  (h : (if ri M 58 18 ≤ x1 then (∀ M1, M1 = wi M 69 (nx 23) (ri M 58 34) → (CV d μX9_keepAir [.ref 58] M1 (fun M2 => RI (d + 1) μX9_shire 121 [(0, .ref 58), (1, .int 0)] [] M2 K))) else (vp_in x1 320 ∧ (vp_in x1 320 ∧ ∀ M3, M3 = wi M 63 (nx x1) (ri M 61 (nx x1)) → (vp_in x1 320 ∧ (vp_in x1 320 ∧ ∀ M4, M4 = wi M3 64 (nx x1) (ri M3 62 (nx x1)) → RI (d + 1) μX9_shire 66 [(0, .ref 58), (1, .int (x1 + 1))] [] M4 K)))))) : RI (d + 1) μX9_shire 66 [(0, .ref 58), (1, .int x1)] [] M K := by
  show Rn (d + 1) μX9_shire 66 [(0, .ref 58), (1, .int x1)] [] M _
  refine rn_iload_n (i := 1) (x := x1) dX9_shire_66 rfl (by simp) ?_
  refine rn_aload_n (i := 0) (x := 58) dX9_shire_67 rfl (by simp) ?_
  refine rn_geti dX9_shire_68 rfl gf_X9_284 (by decide) ?_
  refine rn_icmp_ge (tgt := 104) dX9_shire_71 (by decide) (ite_go h (fun hc h => ?_) (fun hc h => ?_))
  · refine rn_aload_n (i := 0) (x := 58) dX9_shire_104 rfl (by simp) ?_
    refine rn_getr (t := 69) dX9_shire_105 rfl gf_X9_45 rfl rfl ?_
    refine rn_bipush (v := 23) dX9_shire_108 rfl ?_
    refine rn_aload_n (i := 0) (x := 58) dX9_shire_110 rfl (by simp) ?_
    refine rn_geti dX9_shire_111 rfl gf_X9_393 (by decide) ?_
    have h := h _ rfl
    refine rn_iastore dX9_shire_114 rfl (by unfold vp_in; decide) ?_
    generalize wi M 69 (nx 23) (ri M 58 34) = M1 at h ⊢
    refine rn_aload_n (i := 0) (x := 58) dX9_shire_115 rfl (by simp) ?_
    refine rn_callVv (as := []) (st := []) dX9_shire_116 mf_X9_keepAir lk_X9_405 im_X9_keepAir rfl rfl rfl rfl (Nat.le_of_ble_eq_true rfl) (Nat.le_of_ble_eq_true rfl) rfl (RV.mono h (fun M2 h => ?_))
    refine rn_iconst (v := 0) dX9_shire_119 rfl ?_
    refine rn_istore_n (lv' := [(0, .ref 58), (1, .int 0)]) (hd := dX9_shire_120) (i := 1) (hi := rfl) (hn := by decide) (hf := rfl) (hl := rfl) ?_
    exact h
  · refine rn_aload_n (i := 0) (x := 58) dX9_shire_74 rfl (by simp) ?_
    refine rn_getr (t := 63) dX9_shire_75 rfl gf_X9_27 rfl rfl ?_
    refine rn_iload_n (i := 1) (x := x1) dX9_shire_78 rfl (by simp) ?_
    refine rn_aload_n (i := 0) (x := 58) dX9_shire_79 rfl (by simp) ?_
    refine rn_getr (t := 61) dX9_shire_80 rfl gf_X9_21 rfl rfl ?_
    refine rn_iload_n (i := 1) (x := x1) dX9_shire_83 rfl (by simp) ?_
    obtain ⟨hi, h⟩ := h
    refine rn_iaload dX9_shire_84 rfl hi ?_
    obtain ⟨hi, h⟩ := h
    have h := h _ rfl
    refine rn_iastore dX9_shire_85 rfl hi ?_
    generalize wi M 63 (nx x1) (ri M 61 (nx x1)) = M3 at h ⊢
    refine rn_aload_n (i := 0) (x := 58) dX9_shire_86 rfl (by simp) ?_
    refine rn_getr (t := 64) dX9_shire_87 rfl gf_X9_30 rfl rfl ?_
    refine rn_iload_n (i := 1) (x := x1) dX9_shire_90 rfl (by simp) ?_
    refine rn_aload_n (i := 0) (x := 58) dX9_shire_91 rfl (by simp) ?_
    refine rn_getr (t := 62) dX9_shire_92 rfl gf_X9_24 rfl rfl ?_
    refine rn_iload_n (i := 1) (x := x1) dX9_shire_95 rfl (by simp) ?_
    obtain ⟨hi, h⟩ := h
    refine rn_iaload dX9_shire_96 rfl hi ?_
    obtain ⟨hi, h⟩ := h
    have h := h _ rfl
    refine rn_iastore dX9_shire_97 rfl hi ?_
    generalize wi M3 64 (nx x1) (ri M3 62 (nx x1)) = M4 at h ⊢
    refine rn_iinc (x := x1) (v := x1 + 1) (lv' := [(0, .ref 58), (1, .int (x1 + 1))]) dX9_shire_98 (by simp) rfl (by decide) rfl rfl ?_
    refine rn_goto (tgt := 66) dX9_shire_101 (by decide) ?_
    exact h
set_option maxRecDepth 20000 in
theorem sg_X9_shire_121 {d : Nat} {x1 : Int32} {M : Mem} {K : (Int32 → Mem → Prop)}  (h : (if 24 ≤ x1 then (∀ M1, M1 = wi M 58 40 0 → (∀ M2, M2 = wi M1 58 41 0 → (∀ M3, M3 = wi M2 58 55 0 → (∀ M4, M4 = wi M3 58 45 0 → RI (d + 1) μX9_shire 167 [(0, .ref 58), (1, .int 0)] [] M4 K)))) else (vp_in x1 24 ∧ (vp_in x1 24 ∧ ∀ M5, M5 = wi M 70 (nx x1) (ri M 69 (nx x1)) → RI (d + 1) μX9_shire 121 [(0, .ref 58), (1, .int (x1 + 1))] [] M5 K)))) : RI (d + 1) μX9_shire 121 [(0, .ref 58), (1, .int x1)] [] M K := by
  show Rn (d + 1) μX9_shire 121 [(0, .ref 58), (1, .int x1)] [] M _
  refine rn_iload_n (i := 1) (x := x1) dX9_shire_121 rfl (by simp) ?_
  refine rn_bipush (v := 24) dX9_shire_122 rfl ?_
  refine rn_icmp_ge (tgt := 145) dX9_shire_124 (by decide) (ite_go h (fun hc h => ?_) (fun hc h => ?_))
  · refine rn_aload_n (i := 0) (x := 58) dX9_shire_145 rfl (by simp) ?_
    refine rn_iconst (v := 0) dX9_shire_146 rfl ?_
    have h := h _ rfl
    refine rn_puti dX9_shire_147 rfl pf_X9_408 (by decide) rfl rfl ?_
    generalize wi M 58 40 0 = M1 at h ⊢
    refine rn_aload_n (i := 0) (x := 58) dX9_shire_150 rfl (by simp) ?_
    refine rn_iconst (v := 0) dX9_shire_151 rfl ?_
    have h := h _ rfl
    refine rn_puti dX9_shire_152 rfl pf_X9_411 (by decide) rfl rfl ?_
    generalize wi M1 58 41 0 = M2 at h ⊢
    refine rn_aload_n (i := 0) (x := 58) dX9_shire_155 rfl (by simp) ?_
    refine rn_iconst (v := 0) dX9_shire_156 rfl ?_
    have h := h _ rfl
    refine rn_puti dX9_shire_157 rfl pf_X9_414 (by decide) rfl rfl ?_
    generalize wi M2 58 55 0 = M3 at h ⊢
    refine rn_aload_n (i := 0) (x := 58) dX9_shire_160 rfl (by simp) ?_
    refine rn_iconst (v := 0) dX9_shire_161 rfl ?_
    have h := h _ rfl
    refine rn_puti dX9_shire_162 rfl pf_X9_417 (by decide) rfl rfl ?_
    generalize wi M3 58 45 0 = M4 at h ⊢
    refine rn_iconst (v := 0) dX9_shire_165 rfl ?_
    refine rn_istore_n (lv' := [(0, .ref 58), (1, .int 0)]) (hd := dX9_shire_166) (i := 1) (hi := rfl) (hn := by decide) (hf := rfl) (hl := rfl) ?_
    exact h
  · refine rn_aload_n (i := 0) (x := 58) dX9_shire_127 rfl (by simp) ?_
    refine rn_getr (t := 70) dX9_shire_128 rfl gf_X9_48 rfl rfl ?_
    refine rn_iload_n (i := 1) (x := x1) dX9_shire_131 rfl (by simp) ?_
    refine rn_aload_n (i := 0) (x := 58) dX9_shire_132 rfl (by simp) ?_
    refine rn_getr (t := 69) dX9_shire_133 rfl gf_X9_45 rfl rfl ?_
    refine rn_iload_n (i := 1) (x := x1) dX9_shire_136 rfl (by simp) ?_
    obtain ⟨hi, h⟩ := h
    refine rn_iaload dX9_shire_137 rfl hi ?_
    obtain ⟨hi, h⟩ := h
    have h := h _ rfl
    refine rn_iastore dX9_shire_138 rfl hi ?_
    generalize wi M 70 (nx x1) (ri M 69 (nx x1)) = M5 at h ⊢
    refine rn_iinc (x := x1) (v := x1 + 1) (lv' := [(0, .ref 58), (1, .int (x1 + 1))]) dX9_shire_139 (by simp) rfl (by decide) rfl rfl ?_
    refine rn_goto (tgt := 121) dX9_shire_142 (by decide) ?_
    exact h
set_option maxRecDepth 20000 in
theorem sg_X9_shire_167 {d : Nat} {x1 : Int32} {M : Mem} {K : (Int32 → Mem → Prop)}  (h : (if 3 ≤ x1 then K (ri M 58 35) M else (vp_in x1 3 ∧ ∀ M1, M1 = wi M 86 (nx x1) (vp_nar .boolean 0) → RI (d + 1) μX9_shire 167 [(0, .ref 58), (1, .int (x1 + 1))] [] M1 K))) : RI (d + 1) μX9_shire 167 [(0, .ref 58), (1, .int x1)] [] M K := by
  show Rn (d + 1) μX9_shire 167 [(0, .ref 58), (1, .int x1)] [] M _
  refine rn_iload_n (i := 1) (x := x1) dX9_shire_167 rfl (by simp) ?_
  refine rn_iconst (v := 3) dX9_shire_168 rfl ?_
  refine rn_icmp_ge (tgt := 185) dX9_shire_169 (by decide) (ite_go h (fun hc h => ?_) (fun hc h => ?_))
  · refine rn_aload_n (i := 0) (x := 58) dX9_shire_185 rfl (by simp) ?_
    refine rn_geti dX9_shire_186 rfl gf_X9_326 (by decide) ?_
    exact rn_iret dX9_shire_189 rfl ⟨_, rfl, h⟩
  · refine rn_aload_n (i := 0) (x := 58) dX9_shire_172 rfl (by simp) ?_
    refine rn_getr (t := 86) dX9_shire_173 rfl gf_X9_97 rfl rfl ?_
    refine rn_iload_n (i := 1) (x := x1) dX9_shire_176 rfl (by simp) ?_
    refine rn_iconst (v := 0) dX9_shire_177 rfl ?_
    obtain ⟨hi, h⟩ := h
    have h := h _ rfl
    refine rn_zastore dX9_shire_178 rfl hi ?_
    generalize wi M 86 (nx x1) (vp_nar .boolean 0) = M1 at h ⊢
    refine rn_iinc (x := x1) (v := x1 + 1) (lv' := [(0, .ref 58), (1, .int (x1 + 1))]) dX9_shire_179 (by simp) rfl (by decide) rfl rfl ?_
    refine rn_goto (tgt := 167) dX9_shire_182 (by decide) ?_
    exact h
theorem dX9_fault_0 : decode μX9_fault.2.1 0 = .ok (.iload_n 1, 1) := by decide +kernel
theorem dX9_fault_1 : decode μX9_fault.2.1 1 = .ok (.ifCond .ne 10, 3) := by decide +kernel
theorem dX9_fault_4 : decode μX9_fault.2.1 4 = .ok (.aload_n 0, 1) := by decide +kernel
theorem dX9_fault_5 : decode μX9_fault.2.1 5 = .ok (.getfield 143, 3) := by decide +kernel
theorem dX9_fault_8 : decode μX9_fault.2.1 8 = .ok (.goto 16, 3) := by decide +kernel
theorem dX9_fault_11 : decode μX9_fault.2.1 11 = .ok (.iload_n 1, 1) := by decide +kernel
theorem dX9_fault_12 : decode μX9_fault.2.1 12 = .ok (.iconst 1, 1) := by decide +kernel
theorem dX9_fault_13 : decode μX9_fault.2.1 13 = .ok (.if_icmp .ne 10, 3) := by decide +kernel
theorem dX9_fault_16 : decode μX9_fault.2.1 16 = .ok (.aload_n 0, 1) := by decide +kernel
theorem dX9_fault_17 : decode μX9_fault.2.1 17 = .ok (.getfield 13, 3) := by decide +kernel
theorem dX9_fault_20 : decode μX9_fault.2.1 20 = .ok (.goto 4, 3) := by decide +kernel
theorem dX9_fault_23 : decode μX9_fault.2.1 23 = .ok (.iconst (-1), 1) := by decide +kernel
theorem dX9_fault_24 : decode μX9_fault.2.1 24 = .ok (.ireturn, 1) := by decide +kernel
set_option maxRecDepth 20000 in
theorem sg_X9_fault_0 {d : Nat} {x1 : Int32} {M : Mem} {K : (Int32 → Mem → Prop)}  (h : (if x1 = 0 then K (ri M 58 2) M else (if x1 = 1 then K (ri M 58 3) M else K ((-1)) M))) : CI d μX9_fault [.ref 58, .int x1] M K := by
  show Rn d μX9_fault 0 [(0, .ref 58), (1, .int x1)] [] M _
  refine rn_iload_n (i := 1) (x := x1) dX9_fault_0 rfl (by simp) ?_
  refine rn_if_ne (tgt := 11) dX9_fault_1 (by decide) (ite_go h (fun hc h => ?_) (fun hc h => ?_))
  · refine rn_aload_n (i := 0) (x := 58) dX9_fault_4 rfl (by simp) ?_
    refine rn_geti dX9_fault_5 rfl gf_X9_143 (by decide) ?_
    refine rn_goto (tgt := 24) dX9_fault_8 (by decide) ?_
    exact rn_iret dX9_fault_24 rfl ⟨_, rfl, h⟩
  · refine rn_iload_n (i := 1) (x := x1) dX9_fault_11 rfl (by simp) ?_
    refine rn_iconst (v := 1) dX9_fault_12 rfl ?_
    refine rn_icmp_ne (tgt := 23) dX9_fault_13 (by decide) (ite_go h (fun hc h => ?_) (fun hc h => ?_))
    · refine rn_aload_n (i := 0) (x := 58) dX9_fault_16 rfl (by simp) ?_
      refine rn_geti dX9_fault_17 rfl gf_X9_13 (by decide) ?_
      refine rn_goto (tgt := 24) dX9_fault_20 (by decide) ?_
      exact rn_iret dX9_fault_24 rfl ⟨_, rfl, h⟩
    · refine rn_iconst (v := -1) dX9_fault_23 rfl ?_
      exact rn_iret dX9_fault_24 rfl ⟨_, rfl, h⟩
theorem dX9_isIn_0 : decode μX9_isIn.2.1 0 = .ok (.iload_n 0, 1) := by decide +kernel
theorem dX9_isIn_1 : decode μX9_isIn.2.1 1 = .ok (.iload_n 1, 1) := by decide +kernel
theorem dX9_isIn_2 : decode μX9_isIn.2.1 2 = .ok (.if_icmp .lt 12, 3) := by decide +kernel
theorem dX9_isIn_5 : decode μX9_isIn.2.1 5 = .ok (.iload_n 0, 1) := by decide +kernel
theorem dX9_isIn_6 : decode μX9_isIn.2.1 6 = .ok (.iload_n 2, 1) := by decide +kernel
theorem dX9_isIn_7 : decode μX9_isIn.2.1 7 = .ok (.if_icmp .gt 7, 3) := by decide +kernel
theorem dX9_isIn_10 : decode μX9_isIn.2.1 10 = .ok (.iconst 1, 1) := by decide +kernel
theorem dX9_isIn_11 : decode μX9_isIn.2.1 11 = .ok (.goto 4, 3) := by decide +kernel
theorem dX9_isIn_14 : decode μX9_isIn.2.1 14 = .ok (.iconst 0, 1) := by decide +kernel
theorem dX9_isIn_15 : decode μX9_isIn.2.1 15 = .ok (.ireturn, 1) := by decide +kernel
set_option maxRecDepth 20000 in
theorem sg_X9_isIn_0 {d : Nat} {x0 : Int32} {x1 : Int32} {x2 : Int32} {M : Mem} {K : (Int32 → Mem → Prop)}  (h : (if x0 < x1 then K 0 M else (if x2 < x0 then K 0 M else K 1 M))) : CI d μX9_isIn [.int x0, .int x1, .int x2] M K := by
  show Rn d μX9_isIn 0 [(0, .int x0), (1, .int x1), (2, .int x2)] [] M _
  refine rn_iload_n (i := 0) (x := x0) dX9_isIn_0 rfl (by simp) ?_
  refine rn_iload_n (i := 1) (x := x1) dX9_isIn_1 rfl (by simp) ?_
  refine rn_icmp_lt (tgt := 14) dX9_isIn_2 (by decide) (ite_go h (fun hc h => ?_) (fun hc h => ?_))
  · refine rn_iconst (v := 0) dX9_isIn_14 rfl ?_
    exact rn_zret dX9_isIn_15 rfl (by decide) ⟨_, rfl, h⟩
  · refine rn_iload_n (i := 0) (x := x0) dX9_isIn_5 rfl (by simp) ?_
    refine rn_iload_n (i := 2) (x := x2) dX9_isIn_6 rfl (by simp) ?_
    refine rn_icmp_gt (tgt := 14) dX9_isIn_7 (by decide) (ite_go h (fun hc h => ?_) (fun hc h => ?_))
    · refine rn_iconst (v := 0) dX9_isIn_14 rfl ?_
      exact rn_zret dX9_isIn_15 rfl (by decide) ⟨_, rfl, h⟩
    · refine rn_iconst (v := 1) dX9_isIn_10 rfl ?_
      refine rn_goto (tgt := 15) dX9_isIn_11 (by decide) ?_
      exact rn_zret dX9_isIn_15 rfl (by decide) ⟨_, rfl, h⟩
theorem dX9_isLord_0 : decode μX9_isLord.2.1 0 = .ok (.iload_n 1, 1) := by decide +kernel
theorem dX9_isLord_1 : decode μX9_isLord.2.1 1 = .ok (.iconst 0, 1) := by decide +kernel
theorem dX9_isLord_2 : decode μX9_isLord.2.1 2 = .ok (.aload_n 0, 1) := by decide +kernel
theorem dX9_isLord_3 : decode μX9_isLord.2.1 3 = .ok (.getfield 326, 3) := by decide +kernel
theorem dX9_isLord_6 : decode μX9_isLord.2.1 6 = .ok (.iconst 1, 1) := by decide +kernel
theorem dX9_isLord_7 : decode μX9_isLord.2.1 7 = .ok (.isub, 1) := by decide +kernel
theorem dX9_isLord_8 : decode μX9_isLord.2.1 8 = .ok (.invokestatic 420, 3) := by decide +kernel
theorem dX9_isLord_11 : decode μX9_isLord.2.1 11 = .ok (.ireturn, 1) := by decide +kernel
set_option maxRecDepth 20000 in
theorem sg_X9_isLord_0 {d : Nat} {x1 : Int32} {M : Mem} {K : (Int32 → Mem → Prop)}  (h : (CI d μX9_isIn [.int x1, .int 0, .int ((ri M 58 35) - 1)] M (fun r2 M1 => ((r2 = 0 ∨ r2 = 1) ∧ K r2 M1)))) : CI (d + 1) μX9_isLord [.ref 58, .int x1] M K := by
  show Rn (d + 1) μX9_isLord 0 [(0, .ref 58), (1, .int x1)] [] M _
  refine rn_iload_n (i := 1) (x := x1) dX9_isLord_0 rfl (by simp) ?_
  refine rn_iconst (v := 0) dX9_isLord_1 rfl ?_
  refine rn_aload_n (i := 0) (x := 58) dX9_isLord_2 rfl (by simp) ?_
  refine rn_geti dX9_isLord_3 rfl gf_X9_326 (by decide) ?_
  refine rn_iconst (v := 1) dX9_isLord_6 rfl ?_
  refine rn_isub dX9_isLord_7 ?_
  refine rn_callSi (as := [.int x1, .int 0, .int ((ri M 58 35) - 1)]) (st := []) dX9_isLord_8 mf_X9_isIn lk_X9_420 sm_X9_isIn rfl (Nat.le_of_ble_eq_true rfl) (Nat.le_of_ble_eq_true rfl) rfl (RI.mono h (fun r2 M1 h => ?_))
  exact rn_zret dX9_isLord_11 rfl h.1 ⟨_, rfl, h.2⟩
