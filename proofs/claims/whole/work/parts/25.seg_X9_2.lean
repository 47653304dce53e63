theorem dX9_has_0 : decode μX9_has.2.1 0 = .ok (.iload_n 0, 1) := by decide +kernel
theorem dX9_has_1 : decode μX9_has.2.1 1 = .ok (.bipush 6, 2) := by decide +kernel
theorem dX9_has_3 : decode μX9_has.2.1 3 = .ok (.ishr, 1) := by decide +kernel
theorem dX9_has_4 : decode μX9_has.2.1 4 = .ok (.iload_n 1, 1) := by decide +kernel
theorem dX9_has_5 : decode μX9_has.2.1 5 = .ok (.if_icmp .eq 21, 3) := by decide +kernel
theorem dX9_has_8 : decode μX9_has.2.1 8 = .ok (.iload_n 0, 1) := by decide +kernel
theorem dX9_has_9 : decode μX9_has.2.1 9 = .ok (.iconst 3, 1) := by decide +kernel
theorem dX9_has_10 : decode μX9_has.2.1 10 = .ok (.ishr, 1) := by decide +kernel
theorem dX9_has_11 : decode μX9_has.2.1 11 = .ok (.bipush 7, 2) := by decide +kernel
theorem dX9_has_13 : decode μX9_has.2.1 13 = .ok (.iand, 1) := by decide +kernel
theorem dX9_has_14 : decode μX9_has.2.1 14 = .ok (.iload_n 1, 1) := by decide +kernel
theorem dX9_has_15 : decode μX9_has.2.1 15 = .ok (.if_icmp .eq 11, 3) := by decide +kernel
theorem dX9_has_18 : decode μX9_has.2.1 18 = .ok (.iload_n 0, 1) := by decide +kernel
theorem dX9_has_19 : decode μX9_has.2.1 19 = .ok (.bipush 7, 2) := by decide +kernel
theorem dX9_has_21 : decode μX9_has.2.1 21 = .ok (.iand, 1) := by decide +kernel
theorem dX9_has_22 : decode μX9_has.2.1 22 = .ok (.iload_n 1, 1) := by decide +kernel
theorem dX9_has_23 : decode μX9_has.2.1 23 = .ok (.if_icmp .ne 7, 3) := by decide +kernel
theorem dX9_has_26 : decode μX9_has.2.1 26 = .ok (.iconst 1, 1) := by decide +kernel
theorem dX9_has_27 : decode μX9_has.2.1 27 = .ok (.goto 4, 3) := by decide +kernel
theorem dX9_has_30 : decode μX9_has.2.1 30 = .ok (.iconst 0, 1) := by decide +kernel
theorem dX9_has_31 : decode μX9_has.2.1 31 = .ok (.ireturn, 1) := by decide +kernel
set_option maxRecDepth 20000 in
theorem sg_X9_has_0 {d : Nat} {x0 : Int32} {x1 : Int32} {M : Mem} {K : (Int32 → Mem → Prop)}  (h : (if x0 >>> (6 &&& 31) = x1 then K 1 M else (if (x0 >>> (3 &&& 31)) &&& 7 = x1 then K 1 M else (if x0 &&& 7 = x1 then K 1 M else K 0 M)))) : CI d μX9_has [.int x0, .int x1] M K := by
  show Rn d μX9_has 0 [(0, .int x0), (1, .int x1)] [] M _
  refine rn_iload_n (i := 0) (x := x0) dX9_has_0 rfl (by simp) ?_
  refine rn_bipush (v := 6) dX9_has_1 rfl ?_
  refine rn_ishr dX9_has_3 ?_
  refine rn_iload_n (i := 1) (x := x1) dX9_has_4 rfl (by simp) ?_
  refine rn_icmp_eq (tgt := 26) dX9_has_5 (by decide) (ite_go h (fun hc h => ?_) (fun hc h => ?_))
  · refine rn_iconst (v := 1) dX9_has_26 rfl ?_
    refine rn_goto (tgt := 31) dX9_has_27 (by decide) ?_
    exact rn_zret dX9_has_31 rfl (by decide) ⟨_, rfl, h⟩
  · refine rn_iload_n (i := 0) (x := x0) dX9_has_8 rfl (by simp) ?_
    refine rn_iconst (v := 3) dX9_has_9 rfl ?_
    refine rn_ishr dX9_has_10 ?_
    refine rn_bipush (v := 7) dX9_has_11 rfl ?_
    refine rn_iand dX9_has_13 ?_
    refine rn_iload_n (i := 1) (x := x1) dX9_has_14 rfl (by simp) ?_
    refine rn_icmp_eq (tgt := 26) dX9_has_15 (by decide) (ite_go h (fun hc h => ?_) (fun hc h => ?_))
    · refine rn_iconst (v := 1) dX9_has_26 rfl ?_
      refine rn_goto (tgt := 31) dX9_has_27 (by decide) ?_
      exact rn_zret dX9_has_31 rfl (by decide) ⟨_, rfl, h⟩
    · refine rn_iload_n (i := 0) (x := x0) dX9_has_18 rfl (by simp) ?_
      refine rn_bipush (v := 7) dX9_has_19 rfl ?_
      refine rn_iand dX9_has_21 ?_
      refine rn_iload_n (i := 1) (x := x1) dX9_has_22 rfl (by simp) ?_
      refine rn_icmp_ne (tgt := 30) dX9_has_23 (by decide) (ite_go h (fun hc h => ?_) (fun hc h => ?_))
      · refine rn_iconst (v := 1) dX9_has_26 rfl ?_
        refine rn_goto (tgt := 31) dX9_has_27 (by decide) ?_
        exact rn_zret dX9_has_31 rfl (by decide) ⟨_, rfl, h⟩
      · refine rn_iconst (v := 0) dX9_has_30 rfl ?_
        exact rn_zret dX9_has_31 rfl (by decide) ⟨_, rfl, h⟩
theorem dX9_bitsOf_0 : decode μX9_bitsOf.2.1 0 = .ok (.iconst 1, 1) := by decide +kernel
theorem dX9_bitsOf_1 : decode μX9_bitsOf.2.1 1 = .ok (.iload_n 0, 1) := by decide +kernel
theorem dX9_bitsOf_2 : decode μX9_bitsOf.2.1 2 = .ok (.bipush 6, 2) := by decide +kernel
theorem dX9_bitsOf_4 : decode μX9_bitsOf.2.1 4 = .ok (.ishr, 1) := by decide +kernel
theorem dX9_bitsOf_5 : decode μX9_bitsOf.2.1 5 = .ok (.ishl, 1) := by decide +kernel
theorem dX9_bitsOf_6 : decode μX9_bitsOf.2.1 6 = .ok (.iconst 1, 1) := by decide +kernel
theorem dX9_bitsOf_7 : decode μX9_bitsOf.2.1 7 = .ok (.iload_n 0, 1) := by decide +kernel
theorem dX9_bitsOf_8 : decode μX9_bitsOf.2.1 8 = .ok (.iconst 3, 1) := by decide +kernel
theorem dX9_bitsOf_9 : decode μX9_bitsOf.2.1 9 = .ok (.ishr, 1) := by decide +kernel
theorem dX9_bitsOf_10 : decode μX9_bitsOf.2.1 10 = .ok (.bipush 7, 2) := by decide +kernel
theorem dX9_bitsOf_12 : decode μX9_bitsOf.2.1 12 = .ok (.iand, 1) := by decide +kernel
theorem dX9_bitsOf_13 : decode μX9_bitsOf.2.1 13 = .ok (.ishl, 1) := by decide +kernel
theorem dX9_bitsOf_14 : decode μX9_bitsOf.2.1 14 = .ok (.ior, 1) := by decide +kernel
theorem dX9_bitsOf_15 : decode μX9_bitsOf.2.1 15 = .ok (.iconst 1, 1) := by decide +kernel
theorem dX9_bitsOf_16 : decode μX9_bitsOf.2.1 16 = .ok (.iload_n 0, 1) := by decide +kernel
theorem dX9_bitsOf_17 : decode μX9_bitsOf.2.1 17 = .ok (.bipush 7, 2) := by decide +kernel
theorem dX9_bitsOf_19 : decode μX9_bitsOf.2.1 19 = .ok (.iand, 1) := by decide +kernel
theorem dX9_bitsOf_20 : decode μX9_bitsOf.2.1 20 = .ok (.ishl, 1) := by decide +kernel
theorem dX9_bitsOf_21 : decode μX9_bitsOf.2.1 21 = .ok (.ior, 1) := by decide +kernel
theorem dX9_bitsOf_22 : decode μX9_bitsOf.2.1 22 = .ok (.ireturn, 1) := by decide +kernel
set_option maxRecDepth 20000 in
theorem sg_X9_bitsOf_0 {d : Nat} {x0 : Int32} {M : Mem} {K : (Int32 → Mem → Prop)}  (h : K ((((1 : Int32) <<< ((x0 >>> (6 &&& 31)) &&& 31)) ||| ((1 : Int32) <<< (((x0 >>> (3 &&& 31)) &&& 7) &&& 31))) ||| ((1 : Int32) <<< ((x0 &&& 7) &&& 31))) M) : CI d μX9_bitsOf [.int x0] M K := by
  show Rn d μX9_bitsOf 0 [(0, .int x0)] [] M _
  refine rn_iconst (v := 1) dX9_bitsOf_0 rfl ?_
  refine rn_iload_n (i := 0) (x := x0) dX9_bitsOf_1 rfl (by simp) ?_
  refine rn_bipush (v := 6) dX9_bitsOf_2 rfl ?_
  refine rn_ishr dX9_bitsOf_4 ?_
  refine rn_ishl dX9_bitsOf_5 ?_
  refine rn_iconst (v := 1) dX9_bitsOf_6 rfl ?_
  refine rn_iload_n (i := 0) (x := x0) dX9_bitsOf_7 rfl (by simp) ?_
  refine rn_iconst (v := 3) dX9_bitsOf_8 rfl ?_
  refine rn_ishr dX9_bitsOf_9 ?_
  refine rn_bipush (v := 7) dX9_bitsOf_10 rfl ?_
  refine rn_iand dX9_bitsOf_12 ?_
  refine rn_ishl dX9_bitsOf_13 ?_
  refine rn_ior dX9_bitsOf_14 ?_
  refine rn_iconst (v := 1) dX9_bitsOf_15 rfl ?_
  refine rn_iload_n (i := 0) (x := x0) dX9_bitsOf_16 rfl (by simp) ?_
  refine rn_bipush (v := 7) dX9_bitsOf_17 rfl ?_
  refine rn_iand dX9_bitsOf_19 ?_
  refine rn_ishl dX9_bitsOf_20 ?_
  refine rn_ior dX9_bitsOf_21 ?_
  exact rn_iret dX9_bitsOf_22 rfl ⟨_, rfl, h⟩
theorem dX9_cornerOf_0 : decode μX9_cornerOf.2.1 0 = .ok (.iload_n 0, 1) := by decide +kernel
theorem dX9_cornerOf_1 : decode μX9_cornerOf.2.1 1 = .ok (.iload_n 1, 1) := by decide +kernel
theorem dX9_cornerOf_2 : decode μX9_cornerOf.2.1 2 = .ok (.iload_n 2, 1) := by decide +kernel
theorem dX9_cornerOf_3 : decode μX9_cornerOf.2.1 3 = .ok (.invokestatic 290, 3) := by decide +kernel
theorem dX9_cornerOf_6 : decode μX9_cornerOf.2.1 6 = .ok (.invokestatic 290, 3) := by decide +kernel
theorem dX9_cornerOf_9 : decode μX9_cornerOf.2.1 9 = .ok (.istore_n 3, 1) := by decide +kernel
theorem dX9_cornerOf_10 : decode μX9_cornerOf.2.1 10 = .ok (.iload_n 0, 1) := by decide +kernel
theorem dX9_cornerOf_11 : decode μX9_cornerOf.2.1 11 = .ok (.iload_n 1, 1) := by decide +kernel
theorem dX9_cornerOf_12 : decode μX9_cornerOf.2.1 12 = .ok (.iload_n 2, 1) := by decide +kernel
theorem dX9_cornerOf_13 : decode μX9_cornerOf.2.1 13 = .ok (.invokestatic 294, 3) := by decide +kernel
theorem dX9_cornerOf_16 : decode μX9_cornerOf.2.1 16 = .ok (.invokestatic 294, 3) := by decide +kernel
theorem dX9_cornerOf_19 : decode μX9_cornerOf.2.1 19 = .ok (.istore 4, 2) := by decide +kernel
theorem dX9_cornerOf_21 : decode μX9_cornerOf.2.1 21 = .ok (.bipush 64, 2) := by decide +kernel
theorem dX9_cornerOf_23 : decode μX9_cornerOf.2.1 23 = .ok (.iload_n 3, 1) := by decide +kernel
theorem dX9_cornerOf_24 : decode μX9_cornerOf.2.1 24 = .ok (.imul, 1) := by decide +kernel
theorem dX9_cornerOf_25 : decode μX9_cornerOf.2.1 25 = .ok (.bipush 8, 2) := by decide +kernel
theorem dX9_cornerOf_27 : decode μX9_cornerOf.2.1 27 = .ok (.iload_n 0, 1) := by decide +kernel
theorem dX9_cornerOf_28 : decode μX9_cornerOf.2.1 28 = .ok (.iload_n 1, 1) := by decide +kernel
theorem dX9_cornerOf_29 : decode μX9_cornerOf.2.1 29 = .ok (.iadd, 1) := by decide +kernel
theorem dX9_cornerOf_30 : decode μX9_cornerOf.2.1 30 = .ok (.iload_n 2, 1) := by decide +kernel
theorem dX9_cornerOf_31 : decode μX9_cornerOf.2.1 31 = .ok (.iadd, 1) := by decide +kernel
theorem dX9_cornerOf_32 : decode μX9_cornerOf.2.1 32 = .ok (.iload_n 3, 1) := by decide +kernel
theorem dX9_cornerOf_33 : decode μX9_cornerOf.2.1 33 = .ok (.isub, 1) := by decide +kernel
theorem dX9_cornerOf_34 : decode μX9_cornerOf.2.1 34 = .ok (.iload 4, 2) := by decide +kernel
theorem dX9_cornerOf_36 : decode μX9_cornerOf.2.1 36 = .ok (.isub, 1) := by decide +kernel
theorem dX9_cornerOf_37 : decode μX9_cornerOf.2.1 37 = .ok (.imul, 1) := by decide +kernel
theorem dX9_cornerOf_38 : decode μX9_cornerOf.2.1 38 = .ok (.iadd, 1) := by decide +kernel
theorem dX9_cornerOf_39 : decode μX9_cornerOf.2.1 39 = .ok (.iload 4, 2) := by decide +kernel
theorem dX9_cornerOf_41 : decode μX9_cornerOf.2.1 41 = .ok (.iadd, 1) := by decide +kernel
theorem dX9_cornerOf_42 : decode μX9_cornerOf.2.1 42 = .ok (.ireturn, 1) := by decide +kernel
set_option maxRecDepth 20000 in
theorem sg_X9_cornerOf_0 {d : Nat} {x0 : Int32} {x1 : Int32} {x2 : Int32} {M : Mem} {K : (Int32 → Mem → Prop)}  (h : (CI d μX9_lesser [.int x1, .int x2] M (fun r2 M1 => (CI d μX9_lesser [.int x0, .int r2] M1 (fun r4 M3 => (CI d μX9_greater [.int x1, .int x2] M3 (fun r6 M5 => (CI d μX9_greater [.int x0, .int r6] M5 (fun r8 M7 => K (((64 * r4) + (8 * ((((x0 + x1) + x2) - r4) - r8))) + r8) M7))))))))) : CI (d + 1) μX9_cornerOf [.int x0, .int x1, .int x2] M K := by
  show Rn (d + 1) μX9_cornerOf 0 [(0, .int x0), (1, .int x1), (2, .int x2)] [] M _
  refine rn_iload_n (i := 0) (x := x0) dX9_cornerOf_0 rfl (by simp) ?_
  refine rn_iload_n (i := 1) (x := x1) dX9_cornerOf_1 rfl (by simp) ?_
  refine rn_iload_n (i := 2) (x := x2) dX9_cornerOf_2 rfl (by simp) ?_
  refine rn_callSi (as := [.int x1, .int x2]) (st := [.int x0]) dX9_cornerOf_3 mf_X9_lesser lk_X9_290 sm_X9_lesser rfl (Nat.le_of_ble_eq_true rfl) (Nat.le_of_ble_eq_true rfl) rfl (RI.mono h (fun r2 M1 h => ?_))
  refine rn_callSi (as := [.int x0, .int r2]) (st := []) dX9_cornerOf_6 mf_X9_lesser lk_X9_290 sm_X9_lesser rfl (Nat.le_of_ble_eq_true rfl) (Nat.le_of_ble_eq_true rfl) rfl (RI.mono h (fun r4 M3 h => ?_))
  refine rn_istore_n (lv' := [(0, .int x0), (1, .int x1), (2, .int x2), (3, .int r4)]) (hd := dX9_cornerOf_9) (i := 3) (hi := rfl) (hn := by decide) (hf := rfl) (hl := rfl) ?_
  refine rn_iload_n (i := 0) (x := x0) dX9_cornerOf_10 rfl (by simp) ?_
  refine rn_iload_n (i := 1) (x := x1) dX9_cornerOf_11 rfl (by simp) ?_
  refine rn_iload_n (i := 2) (x := x2) dX9_cornerOf_12 rfl (by simp) ?_
  refine rn_callSi (as := [.int x1, .int x2]) (st := [.int x0]) dX9_cornerOf_13 mf_X9_greater lk_X9_294 sm_X9_greater rfl (Nat.le_of_ble_eq_true rfl) (Nat.le_of_ble_eq_true rfl) rfl (RI.mono h (fun r6 M5 h => ?_))
  refine rn_callSi (as := [.int x0, .int r6]) (st := []) dX9_cornerOf_16 mf_X9_greater lk_X9_294 sm_X9_greater rfl (Nat.le_of_ble_eq_true rfl) (Nat.le_of_ble_eq_true rfl) rfl (RI.mono h (fun r8 M7 h => ?_))
  refine rn_istore (lv' := [(0, .int x0), (1, .int x1), (2, .int x2), (3, .int r4), (4, .int r8)]) (hd := dX9_cornerOf_19) (hn := by decide) (hf := rfl) (hl := rfl) ?_
  refine rn_bipush (v := 64) dX9_cornerOf_21 rfl ?_
  refine rn_iload_n (i := 3) (x := r4) dX9_cornerOf_23 rfl (by simp) ?_
  refine rn_imul dX9_cornerOf_24 ?_
  refine rn_bipush (v := 8) dX9_cornerOf_25 rfl ?_
  refine rn_iload_n (i := 0) (x := x0) dX9_cornerOf_27 rfl (by simp) ?_
  refine rn_iload_n (i := 1) (x := x1) dX9_cornerOf_28 rfl (by simp) ?_
  refine rn_iadd dX9_cornerOf_29 ?_
  refine rn_iload_n (i := 2) (x := x2) dX9_cornerOf_30 rfl (by simp) ?_
  refine rn_iadd dX9_cornerOf_31 ?_
  refine rn_iload_n (i := 3) (x := r4) dX9_cornerOf_32 rfl (by simp) ?_
  refine rn_isub dX9_cornerOf_33 ?_
  refine rn_iload (x := r8) dX9_cornerOf_34 (by simp) ?_
  refine rn_isub dX9_cornerOf_36 ?_
  refine rn_imul dX9_cornerOf_37 ?_
  refine rn_iadd dX9_cornerOf_38 ?_
  refine rn_iload (x := r8) dX9_cornerOf_39 (by simp) ?_
  refine rn_iadd dX9_cornerOf_41 ?_
  exact rn_iret dX9_cornerOf_42 rfl ⟨_, rfl, h⟩
theorem dX9_addCorner_0 : decode μX9_addCorner.2.1 0 = .ok (.iload_n 1, 1) := by decide +kernel
theorem dX9_addCorner_1 : decode μX9_addCorner.2.1 1 = .ok (.iload_n 2, 1) := by decide +kernel
theorem dX9_addCorner_2 : decode μX9_addCorner.2.1 2 = .ok (.iload_n 3, 1) := by decide +kernel
theorem dX9_addCorner_3 : decode μX9_addCorner.2.1 3 = .ok (.invokestatic 297, 3) := by decide +kernel
theorem dX9_addCorner_6 : decode μX9_addCorner.2.1 6 = .ok (.istore 4, 2) := by decide +kernel
theorem dX9_addCorner_8 : decode μX9_addCorner.2.1 8 = .ok (.aload_n 0, 1) := by decide +kernel
theorem dX9_addCorner_9 : decode μX9_addCorner.2.1 9 = .ok (.getfield 45, 3) := by decide +kernel
theorem dX9_addCorner_12 : decode μX9_addCorner.2.1 12 = .ok (.bipush 12, 2) := by decide +kernel
theorem dX9_addCorner_14 : decode μX9_addCorner.2.1 14 = .ok (.iaload, 1) := by decide +kernel
theorem dX9_addCorner_15 : decode μX9_addCorner.2.1 15 = .ok (.istore 5, 2) := by decide +kernel
theorem dX9_addCorner_17 : decode μX9_addCorner.2.1 17 = .ok (.iload 5, 2) := by decide +kernel
theorem dX9_addCorner_19 : decode μX9_addCorner.2.1 19 = .ok (.ifCond .le 39, 3) := by decide +kernel
theorem dX9_addCorner_22 : decode μX9_addCorner.2.1 22 = .ok (.aload_n 0, 1) := by decide +kernel
theorem dX9_addCorner_23 : decode μX9_addCorner.2.1 23 = .ok (.getfield 45, 3) := by decide +kernel
theorem dX9_addCorner_26 : decode μX9_addCorner.2.1 26 = .ok (.iload 5, 2) := by decide +kernel
theorem dX9_addCorner_28 : decode μX9_addCorner.2.1 28 = .ok (.iconst 1, 1) := by decide +kernel
theorem dX9_addCorner_29 : decode μX9_addCorner.2.1 29 = .ok (.isub, 1) := by decide +kernel
theorem dX9_addCorner_30 : decode μX9_addCorner.2.1 30 = .ok (.iaload, 1) := by decide +kernel
theorem dX9_addCorner_31 : decode μX9_addCorner.2.1 31 = .ok (.iload 4, 2) := by decide +kernel
theorem dX9_addCorner_33 : decode μX9_addCorner.2.1 33 = .ok (.if_icmp .le 25, 3) := by decide +kernel
theorem dX9_addCorner_36 : decode μX9_addCorner.2.1 36 = .ok (.aload_n 0, 1) := by decide +kernel
theorem dX9_addCorner_37 : decode μX9_addCorner.2.1 37 = .ok (.getfield 45, 3) := by decide +kernel
theorem dX9_addCorner_40 : decode μX9_addCorner.2.1 40 = .ok (.iload 5, 2) := by decide +kernel
theorem dX9_addCorner_42 : decode μX9_addCorner.2.1 42 = .ok (.aload_n 0, 1) := by decide +kernel
theorem dX9_addCorner_43 : decode μX9_addCorner.2.1 43 = .ok (.getfield 45, 3) := by decide +kernel
theorem dX9_addCorner_46 : decode μX9_addCorner.2.1 46 = .ok (.iload 5, 2) := by decide +kernel
theorem dX9_addCorner_48 : decode μX9_addCorner.2.1 48 = .ok (.iconst 1, 1) := by decide +kernel
theorem dX9_addCorner_49 : decode μX9_addCorner.2.1 49 = .ok (.isub, 1) := by decide +kernel
theorem dX9_addCorner_50 : decode μX9_addCorner.2.1 50 = .ok (.iaload, 1) := by decide +kernel
theorem dX9_addCorner_51 : decode μX9_addCorner.2.1 51 = .ok (.iastore, 1) := by decide +kernel
theorem dX9_addCorner_52 : decode μX9_addCorner.2.1 52 = .ok (.iinc 5 (-1), 3) := by decide +kernel
theorem dX9_addCorner_55 : decode μX9_addCorner.2.1 55 = .ok (.goto (-38), 3) := by decide +kernel
theorem dX9_addCorner_58 : decode μX9_addCorner.2.1 58 = .ok (.aload_n 0, 1) := by decide +kernel
theorem dX9_addCorner_59 : decode μX9_addCorner.2.1 59 = .ok (.getfield 45, 3) := by decide +kernel
theorem dX9_addCorner_62 : decode μX9_addCorner.2.1 62 = .ok (.iload 5, 2) := by decide +kernel
theorem dX9_addCorner_64 : decode μX9_addCorner.2.1 64 = .ok (.iload 4, 2) := by decide +kernel
theorem dX9_addCorner_66 : decode μX9_addCorner.2.1 66 = .ok (.iastore, 1) := by decide +kernel
theorem dX9_addCorner_67 : decode μX9_addCorner.2.1 67 = .ok (.aload_n 0, 1) := by decide +kernel
theorem dX9_addCorner_68 : decode μX9_addCorner.2.1 68 = .ok (.getfield 45, 3) := by decide +kernel
theorem dX9_addCorner_71 : decode μX9_addCorner.2.1 71 = .ok (.bipush 12, 2) := by decide +kernel
theorem dX9_addCorner_73 : decode μX9_addCorner.2.1 73 = .ok (.dup2, 1) := by decide +kernel
theorem dX9_addCorner_74 : decode μX9_addCorner.2.1 74 = .ok (.iaload, 1) := by decide +kernel
theorem dX9_addCorner_75 : decode μX9_addCorner.2.1 75 = .ok (.iconst 1, 1) := by decide +kernel
theorem dX9_addCorner_76 : decode μX9_addCorner.2.1 76 = .ok (.iadd, 1) := by decide +kernel
theorem dX9_addCorner_77 : decode μX9_addCorner.2.1 77 = .ok (.iastore, 1) := by decide +kernel
theorem dX9_addCorner_78 : decode μX9_addCorner.2.1 78 = .ok (.return_, 1) := by decide +kernel
set_option maxRecDepth 20000 in
theorem sg_X9_addCorner_0 {d : Nat} {x1 : Int32} {x2 : Int32} {x3 : Int32} {M : Mem} {K : (Mem → Prop)}  (h : (CI d μX9_cornerOf [.int x1, .int x2, .int x3] M (fun r2 M1 => RV (d + 1) μX9_addCorner 17 [(0, .ref 58), (1, .int x1), (2, .int x2), (3, .int x3), (4, .int r2), (5, .int (ri M1 69 (nx 12)))] [] M1 K))) : CV (d + 1) μX9_addCorner [.ref 58, .int x1, .int x2, .int x3] M K := by
  show Rn (d + 1) μX9_addCorner 0 [(0, .ref 58), (1, .int x1), (2, .int x2), (3, .int x3)] [] M _
  refine rn_iload_n (i := 1) (x := x1) dX9_addCorner_0 rfl (by simp) ?_
  refine rn_iload_n (i := 2) (x := x2) dX9_addCorner_1 rfl (by simp) ?_
  refine rn_iload_n (i := 3) (x := x3) dX9_addCorner_2 rfl (by simp) ?_
  refine rn_callSi (as := [.int x1, .int x2, .int x3]) (st := []) dX9_addCorner_3 mf_X9_cornerOf lk_X9_297 sm_X9_cornerOf rfl (Nat.le_of_ble_eq_true rfl) (Nat.le_of_ble_eq_true rfl) rfl (RI.mono h (fun r2 M1 h => ?_))
  refine rn_istore (lv' := [(0, .ref 58), (1, .int x1), (2, .int x2), (3, .int x3), (4, .int r2)]) (hd := dX9_addCorner_6) (hn := by decide) (hf := rfl) (hl := rfl) ?_
  refine rn_aload_n (i := 0) (x := 58) dX9_addCorner_8 rfl (by simp) ?_
  refine rn_getr (t := 69) dX9_addCorner_9 rfl gf_X9_45 rfl rfl ?_
  refine rn_bipush (v := 12) dX9_addCorner_12 rfl ?_
  refine rn_iaload dX9_addCorner_14 rfl (by unfold vp_in; decide) ?_
  refine rn_istore (lv' := [(0, .ref 58), (1, .int x1), (2, .int x2), (3, .int x3), (4, .int r2), (5, .int (ri M1 69 (nx 12)))]) (hd := dX9_addCorner_15) (hn := by decide) (hf := rfl) (hl := rfl) ?_
  exact h
set_option maxRecDepth 20000 in
theorem sg_X9_addCorner_17 {d : Nat} {x1 : Int32} {x2 : Int32} {x3 : Int32} {x4 : Int32} {x5 : Int32} {M : Mem} {K : (Mem → Prop)}  (h : (if x5 ≤ 0 then (vp_in x5 24 ∧ ∀ M1, M1 = wi M 69 (nx x5) x4 → (∀ M2, M2 = wi M1 69 (nx 12) ((ri M1 69 (nx 12)) + 1) → K M2)) else (vp_in (x5 - 1) 24 ∧ (if ri M 69 (nx (x5 - 1)) ≤ x4 then (vp_in x5 24 ∧ ∀ M3, M3 = wi M 69 (nx x5) x4 → (∀ M4, M4 = wi M3 69 (nx 12) ((ri M3 69 (nx 12)) + 1) → K M4)) else (vp_in (x5 - 1) 24 ∧ (vp_in x5 24 ∧ ∀ M5, M5 = wi M 69 (nx x5) (ri M 69 (nx (x5 - 1))) → RV (d + 1) μX9_addCorner 17 [(0, .ref 58), (1, .int x1), (2, .int x2), (3, .int x3), (4, .int x4), (5, .int (x5 + (-1)))] [] M5 K)))))) : RV (d + 1) μX9_addCorner 17 [(0, .ref 58), (1, .int x1), (2, .int x2), (3, .int x3), (4, .int x4), (5, .int x5)] [] M K := by
  show Rn (d + 1) μX9_addCorner 17 [(0, .ref 58), (1, .int x1), (2, .int x2), (3, .int x3), (4, .int x4), (5, .int x5)] [] M _
  refine rn_iload (x := x5) dX9_addCorner_17 (by simp) ?_
  refine rn_if_le (tgt := 58) dX9_addCorner_19 (by decide) (ite_go h (fun hc h => ?_) (fun hc h => ?_))
  · refine rn_aload_n (i := 0) (x := 58) dX9_addCorner_58 rfl (by simp) ?_
    refine rn_getr (t := 69) dX9_addCorner_59 rfl gf_X9_45 rfl rfl ?_
    refine rn_iload (x := x5) dX9_addCorner_62 (by simp) ?_
    refine rn_iload (x := x4) dX9_addCorner_64 (by simp) ?_
    obtain ⟨hi, h⟩ := h
    have h := h _ rfl
    refine rn_iastore dX9_addCorner_66 rfl hi ?_
    generalize wi M 69 (nx x5) x4 = M1 at h ⊢
    refine rn_aload_n (i := 0) (x := 58) dX9_addCorner_67 rfl (by simp) ?_
    refine rn_getr (t := 69) dX9_addCorner_68 rfl gf_X9_45 rfl rfl ?_
    refine rn_bipush (v := 12) dX9_addCorner_71 rfl ?_
    refine rn_dup2 dX9_addCorner_73 rfl rfl ?_
    refine rn_iaload dX9_addCorner_74 rfl (by unfold vp_in; decide) ?_
    refine rn_iconst (v := 1) dX9_addCorner_75 rfl ?_
    refine rn_iadd dX9_addCorner_76 ?_
    have h := h _ rfl
    refine rn_iastore dX9_addCorner_77 rfl (by unfold vp_in; decide) ?_
    generalize wi M1 69 (nx 12) ((ri M1 69 (nx 12)) + 1) = M2 at h ⊢
    exact rn_ret dX9_addCorner_78 rfl ⟨rfl, h⟩
  · refine rn_aload_n (i := 0) (x := 58) dX9_addCorner_22 rfl (by simp) ?_
    refine rn_getr (t := 69) dX9_addCorner_23 rfl gf_X9_45 rfl rfl ?_
    refine rn_iload (x := x5) dX9_addCorner_26 (by simp) ?_
    refine rn_iconst (v := 1) dX9_addCorner_28 rfl ?_
    refine rn_isub dX9_addCorner_29 ?_
    obtain ⟨hi, h⟩ := h
    refine rn_iaload dX9_addCorner_30 rfl hi ?_
    refine rn_iload (x := x4) dX9_addCorner_31 (by simp) ?_
    refine rn_icmp_le (tgt := 58) dX9_addCorner_33 (by decide) (ite_go h (fun hc h => ?_) (fun hc h => ?_))
    · refine rn_aload_n (i := 0) (x := 58) dX9_addCorner_58 rfl (by simp) ?_
      refine rn_getr (t := 69) dX9_addCorner_59 rfl gf_X9_45 rfl rfl ?_
      refine rn_iload (x := x5) dX9_addCorner_62 (by simp) ?_
      refine rn_iload (x := x4) dX9_addCorner_64 (by simp) ?_
      obtain ⟨hi, h⟩ := h
      have h := h _ rfl
      refine rn_iastore dX9_addCorner_66 rfl hi ?_
      generalize wi M 69 (nx x5) x4 = M3 at h ⊢
      refine rn_aload_n (i := 0) (x := 58) dX9_addCorner_67 rfl (by simp) ?_
      refine rn_getr (t := 69) dX9_addCorner_68 rfl gf_X9_45 rfl rfl ?_
      refine rn_bipush (v := 12) dX9_addCorner_71 rfl ?_
      refine rn_dup2 dX9_addCorner_73 rfl rfl ?_
      refine rn_iaload dX9_addCorner_74 rfl (by unfold vp_in; decide) ?_
      refine rn_iconst (v := 1) dX9_addCorner_75 rfl ?_
      refine rn_iadd dX9_addCorner_76 ?_
      have h := h _ rfl
      refine rn_iastore dX9_addCorner_77 rfl (by unfold vp_in; decide) ?_
      generalize wi M3 69 (nx 12) ((ri M3 69 (nx 12)) + 1) = M4 at h ⊢
      exact rn_ret dX9_addCorner_78 rfl ⟨rfl, h⟩
    · refine rn_aload_n (i := 0) (x := 58) dX9_addCorner_36 rfl (by simp) ?_
      refine rn_getr (t := 69) dX9_addCorner_37 rfl gf_X9_45 rfl rfl ?_
      refine rn_iload (x := x5) dX9_addCorner_40 (by simp) ?_
      refine rn_aload_n (i := 0) (x := 58) dX9_addCorner_42 rfl (by simp) ?_
      refine rn_getr (t := 69) dX9_addCorner_43 rfl gf_X9_45 rfl rfl ?_
      refine rn_iload (x := x5) dX9_addCorner_46 (by simp) ?_
      refine rn_iconst (v := 1) dX9_addCorner_48 rfl ?_
      refine rn_isub dX9_addCorner_49 ?_
      obtain ⟨hi, h⟩ := h
      refine rn_iaload dX9_addCorner_50 rfl hi ?_
      obtain ⟨hi, h⟩ := h
      have h := h _ rfl
      refine rn_iastore dX9_addCorner_51 rfl hi ?_
      generalize wi M 69 (nx x5) (ri M 69 (nx (x5 - 1))) = M5 at h ⊢
      refine rn_iinc (x := x5) (v := x5 + (-1)) (lv' := [(0, .ref 58), (1, .int x1), (2, .int x2), (3, .int x3), (4, .int x4), (5, .int (x5 + (-1)))]) dX9_addCorner_52 (by simp) rfl (by decide) rfl rfl ?_
      refine rn_goto (tgt := 17) dX9_addCorner_55 (by decide) ?_
      exact h
theorem dX9_takeCorner_0 : decode μX9_takeCorner.2.1 0 = .ok (.iconst 0, 1) := by decide +kernel
theorem dX9_takeCorner_1 : decode μX9_takeCorner.2.1 1 = .ok (.istore_n 2, 1) := by decide +kernel
theorem dX9_takeCorner_2 : decode μX9_takeCorner.2.1 2 = .ok (.aload_n 0, 1) := by decide +kernel
theorem dX9_takeCorner_3 : decode μX9_takeCorner.2.1 3 = .ok (.getfield 45, 3) := by decide +kernel
theorem dX9_takeCorner_6 : decode μX9_takeCorner.2.1 6 = .ok (.iload_n 2, 1) := by decide +kernel
theorem dX9_takeCorner_7 : decode μX9_takeCorner.2.1 7 = .ok (.iaload, 1) := by decide +kernel
theorem dX9_takeCorner_8 : decode μX9_takeCorner.2.1 8 = .ok (.iload_n 1, 1) := by decide +kernel
theorem dX9_takeCorner_9 : decode μX9_takeCorner.2.1 9 = .ok (.if_icmp .eq 9, 3) := by decide +kernel
theorem dX9_takeCorner_12 : decode μX9_takeCorner.2.1 12 = .ok (.iinc 2 1, 3) := by decide +kernel
theorem dX9_takeCorner_15 : decode μX9_takeCorner.2.1 15 = .ok (.goto (-13), 3) := by decide +kernel
theorem dX9_takeCorner_18 : decode μX9_takeCorner.2.1 18 = .ok (.aload_n 0, 1) := by decide +kernel
theorem dX9_takeCorner_19 : decode μX9_takeCorner.2.1 19 = .ok (.getfield 45, 3) := by decide +kernel
theorem dX9_takeCorner_22 : decode μX9_takeCorner.2.1 22 = .ok (.bipush 12, 2) := by decide +kernel
theorem dX9_takeCorner_24 : decode μX9_takeCorner.2.1 24 = .ok (.dup2, 1) := by decide +kernel
theorem dX9_takeCorner_25 : decode μX9_takeCorner.2.1 25 = .ok (.iaload, 1) := by decide +kernel
theorem dX9_takeCorner_26 : decode μX9_takeCorner.2.1 26 = .ok (.iconst 1, 1) := by decide +kernel
theorem dX9_takeCorner_27 : decode μX9_takeCorner.2.1 27 = .ok (.isub, 1) := by decide +kernel
theorem dX9_takeCorner_28 : decode μX9_takeCorner.2.1 28 = .ok (.iastore, 1) := by decide +kernel
theorem dX9_takeCorner_29 : decode μX9_takeCorner.2.1 29 = .ok (.iload_n 2, 1) := by decide +kernel
theorem dX9_takeCorner_30 : decode μX9_takeCorner.2.1 30 = .ok (.istore_n 3, 1) := by decide +kernel
theorem dX9_takeCorner_31 : decode μX9_takeCorner.2.1 31 = .ok (.iload_n 3, 1) := by decide +kernel
theorem dX9_takeCorner_32 : decode μX9_takeCorner.2.1 32 = .ok (.aload_n 0, 1) := by decide +kernel
theorem dX9_takeCorner_33 : decode μX9_takeCorner.2.1 33 = .ok (.getfield 45, 3) := by decide +kernel
theorem dX9_takeCorner_36 : decode μX9_takeCorner.2.1 36 = .ok (.bipush 12, 2) := by decide +kernel
theorem dX9_takeCorner_38 : decode μX9_takeCorner.2.1 38 = .ok (.iaload, 1) := by decide +kernel
theorem dX9_takeCorner_39 : decode μX9_takeCorner.2.1 39 = .ok (.if_icmp .ge 23, 3) := by decide +kernel
theorem dX9_takeCorner_42 : decode μX9_takeCorner.2.1 42 = .ok (.aload_n 0, 1) := by decide +kernel
theorem dX9_takeCorner_43 : decode μX9_takeCorner.2.1 43 = .ok (.getfield 45, 3) := by decide +kernel
theorem dX9_takeCorner_46 : decode μX9_takeCorner.2.1 46 = .ok (.iload_n 3, 1) := by decide +kernel
theorem dX9_takeCorner_47 : decode μX9_takeCorner.2.1 47 = .ok (.aload_n 0, 1) := by decide +kernel
theorem dX9_takeCorner_48 : decode μX9_takeCorner.2.1 48 = .ok (.getfield 45, 3) := by decide +kernel
theorem dX9_takeCorner_51 : decode μX9_takeCorner.2.1 51 = .ok (.iload_n 3, 1) := by decide +kernel
theorem dX9_takeCorner_52 : decode μX9_takeCorner.2.1 52 = .ok (.iconst 1, 1) := by decide +kernel
theorem dX9_takeCorner_53 : decode μX9_takeCorner.2.1 53 = .ok (.iadd, 1) := by decide +kernel
theorem dX9_takeCorner_54 : decode μX9_takeCorner.2.1 54 = .ok (.iaload, 1) := by decide +kernel
theorem dX9_takeCorner_55 : decode μX9_takeCorner.2.1 55 = .ok (.iastore, 1) := by decide +kernel
theorem dX9_takeCorner_56 : decode μX9_takeCorner.2.1 56 = .ok (.iinc 3 1, 3) := by decide +kernel
theorem dX9_takeCorner_59 : decode μX9_takeCorner.2.1 59 = .ok (.goto (-28), 3) := by decide +kernel
theorem dX9_takeCorner_62 : decode μX9_takeCorner.2.1 62 = .ok (.aload_n 0, 1) := by decide +kernel
theorem dX9_takeCorner_63 : decode μX9_takeCorner.2.1 63 = .ok (.getfield 45, 3) := by decide +kernel
theorem dX9_takeCorner_66 : decode μX9_takeCorner.2.1 66 = .ok (.aload_n 0, 1) := by decide +kernel
theorem dX9_takeCorner_67 : decode μX9_takeCorner.2.1 67 = .ok (.getfield 45, 3) := by decide +kernel
theorem dX9_takeCorner_70 : decode μX9_takeCorner.2.1 70 = .ok (.bipush 12, 2) := by decide +kernel
theorem dX9_takeCorner_72 : decode μX9_takeCorner.2.1 72 = .ok (.iaload, 1) := by decide +kernel
theorem dX9_takeCorner_73 : decode μX9_takeCorner.2.1 73 = .ok (.iconst 0, 1) := by decide +kernel
theorem dX9_takeCorner_74 : decode μX9_takeCorner.2.1 74 = .ok (.iastore, 1) := by decide +kernel
theorem dX9_takeCorner_75 : decode μX9_takeCorner.2.1 75 = .ok (.return_, 1) := by decide +kernel
set_option maxRecDepth 20000 in
theorem sg_X9_takeCorner_0 {d : Nat} {x1 : Int32} {M : Mem} {K : (Mem → Prop)}  (h : RV d μX9_takeCorner 2 [(0, .ref 58), (1, .int x1), (2, .int 0)] [] M K) : CV d μX9_takeCorner [.ref 58, .int x1] M K := by
  show Rn d μX9_takeCorner 0 [(0, .ref 58), (1, .int x1)] [] M _
  refine rn_iconst (v := 0) dX9_takeCorner_0 rfl ?_
  refine rn_istore_n (lv' := [(0, .ref 58), (1, .int x1), (2, .int 0)]) (hd := dX9_takeCorner_1) (i := 2) (hi := rfl) (hn := by decide) (hf := rfl) (hl := rfl) ?_
  exact h
set_option maxRecDepth 20000 in
theorem sg_X9_takeCorner_2 {d : Nat} {x1 : Int32} {x2 : Int32} {M : Mem} {K : (Mem → Prop)}  (h : (vp_in x2 24 ∧ (if ri M 69 (nx x2) = x1 then (∀ M1, M1 = wi M 69 (nx 12) ((ri M 69 (nx 12)) - 1) → RV d μX9_takeCorner 31 [(0, .ref 58), (1, .int x1), (2, .int x2), (3, .int x2)] [] M1 K) else RV d μX9_takeCorner 2 [(0, .ref 58), (1, .int x1), (2, .int (x2 + 1))] [] M K))) : RV d μX9_takeCorner 2 [(0, .ref 58), (1, .int x1), (2, .int x2)] [] M K := by
  show Rn d μX9_takeCorner 2 [(0, .ref 58), (1, .int x1), (2, .int x2)] [] M _
  refine rn_aload_n (i := 0) (x := 58) dX9_takeCorner_2 rfl (by simp) ?_
  refine rn_getr (t := 69) dX9_takeCorner_3 rfl gf_X9_45 rfl rfl ?_
  refine rn_iload_n (i := 2) (x := x2) dX9_takeCorner_6 rfl (by simp) ?_
  obtain ⟨hi, h⟩ := h
  refine rn_iaload dX9_takeCorner_7 rfl hi ?_
  refine rn_iload_n (i := 1) (x := x1) dX9_takeCorner_8 rfl (by simp) ?_
  refine rn_icmp_eq (tgt := 18) dX9_takeCorner_9 (by decide) (ite_go h (fun hc h => ?_) (fun hc h => ?_))
  · refine rn_aload_n (i := 0) (x := 58) dX9_takeCorner_18 rfl (by simp) ?_
    refine rn_getr (t := 69) dX9_takeCorner_19 rfl gf_X9_45 rfl rfl ?_
    refine rn_bipush (v := 12) dX9_takeCorner_22 rfl ?_
    refine rn_dup2 dX9_takeCorner_24 rfl rfl ?_
    refine rn_iaload dX9_takeCorner_25 rfl (by unfold vp_in; decide) ?_
    refine rn_iconst (v := 1) dX9_takeCorner_26 rfl ?_
    refine rn_isub dX9_takeCorner_27 ?_
    have h := h _ rfl
    refine rn_iastore dX9_takeCorner_28 rfl (by unfold vp_in; decide) ?_
    generalize wi M 69 (nx 12) ((ri M 69 (nx 12)) - 1) = M1 at h ⊢
    refine rn_iload_n (i := 2) (x := x2) dX9_takeCorner_29 rfl (by simp) ?_
    refine rn_istore_n (lv' := [(0, .ref 58), (1, .int x1), (2, .int x2), (3, .int x2)]) (hd := dX9_takeCorner_30) (i := 3) (hi := rfl) (hn := by decide) (hf := rfl) (hl := rfl) ?_
    exact h
  · refine rn_iinc (x := x2) (v := x2 + 1) (lv' := [(0, .ref 58), (1, .int x1), (2, .int (x2 + 1))]) dX9_takeCorner_12 (by simp) rfl (by decide) rfl rfl ?_
    refine rn_goto (tgt := 2) dX9_takeCorner_15 (by decide) ?_
    exact h
set_option maxRecDepth 20000 in
theorem sg_X9_takeCorner_31 {d : Nat} {x1 : Int32} {x2 : Int32} {x3 : Int32} {M : Mem} {K : (Mem → Prop)}  (h : (if ri M 69 (nx 12) ≤ x3 then (vp_in (ri M 69 (nx 12)) 24 ∧ ∀ M1, M1 = wi M 69 (nx (ri M 69 (nx 12))) 0 → K M1) else (vp_in (x3 + 1) 24 ∧ (vp_in x3 24 ∧ ∀ M2, M2 = wi M 69 (nx x3) (ri M 69 (nx (x3 + 1))) → RV d μX9_takeCorner 31 [(0, .ref 58), (1, .int x1), (2, .int x2), (3, .int (x3 + 1))] [] M2 K)))) : RV d μX9_takeCorner 31 [(0, .ref 58), (1, .int x1), (2, .int x2), (3, .int x3)] [] M K := by
  show Rn d μX9_takeCorner 31 [(0, .ref 58), (1, .int x1), (2, .int x2), (3, .int x3)] [] M _
  refine rn_iload_n (i := 3) (x := x3) dX9_takeCorner_31 rfl (by simp) ?_
  refine rn_aload_n (i := 0) (x := 58) dX9_takeCorner_32 rfl (by simp) ?_
  refine rn_getr (t := 69) dX9_takeCorner_33 rfl gf_X9_45 rfl rfl ?_
  refine rn_bipush (v := 12) dX9_takeCorner_36 rfl ?_
  refine rn_iaload dX9_takeCorner_38 rfl (by unfold vp_in; decide) ?_
  refine rn_icmp_ge (tgt := 62) dX9_takeCorner_39 (by decide) (ite_go h (fun hc h => ?_) (fun hc h => ?_))
  · refine rn_aload_n (i := 0) (x := 58) dX9_takeCorner_62 rfl (by simp) ?_
    refine rn_getr (t := 69) dX9_takeCorner_63 rfl gf_X9_45 rfl rfl ?_
    refine rn_aload_n (i := 0) (x := 58) dX9_takeCorner_66 rfl (by simp) ?_
    refine rn_getr (t := 69) dX9_takeCorner_67 rfl gf_X9_45 rfl rfl ?_
    refine rn_bipush (v := 12) dX9_takeCorner_70 rfl ?_
    refine rn_iaload dX9_takeCorner_72 rfl (by unfold vp_in; decide) ?_
    refine rn_iconst (v := 0) dX9_takeCorner_73 rfl ?_
    obtain ⟨hi, h⟩ := h
    have h := h _ rfl
    refine rn_iastore dX9_takeCorner_74 rfl hi ?_
    generalize wi M 69 (nx (ri M 69 (nx 12))) 0 = M1 at h ⊢
    exact rn_ret dX9_takeCorner_75 rfl ⟨rfl, h⟩
  · refine rn_aload_n (i := 0) (x := 58) dX9_takeCorner_42 rfl (by simp) ?_
    refine rn_getr (t := 69) dX9_takeCorner_43 rfl gf_X9_45 rfl rfl ?_
    refine rn_iload_n (i := 3) (x := x3) dX9_takeCorner_46 rfl (by simp) ?_
    refine rn_aload_n (i := 0) (x := 58) dX9_takeCorner_47 rfl (by simp) ?_
    refine rn_getr (t := 69) dX9_takeCorner_48 rfl gf_X9_45 rfl rfl ?_
    refine rn_iload_n (i := 3) (x := x3) dX9_takeCorner_51 rfl (by simp) ?_
    refine rn_iconst (v := 1) dX9_takeCorner_52 rfl ?_
    refine rn_iadd dX9_takeCorner_53 ?_
    obtain ⟨hi, h⟩ := h
    refine rn_iaload dX9_takeCorner_54 rfl hi ?_
    obtain ⟨hi, h⟩ := h
    have h := h _ rfl
    refine rn_iastore dX9_takeCorner_55 rfl hi ?_
    generalize wi M 69 (nx x3) (ri M 69 (nx (x3 + 1))) = M2 at h ⊢
    refine rn_iinc (x := x3) (v := x3 + 1) (lv' := [(0, .ref 58), (1, .int x1), (2, .int x2), (3, .int (x3 + 1))]) dX9_takeCorner_56 (by simp) rfl (by decide) rfl rfl ?_
    refine rn_goto (tgt := 31) dX9_takeCorner_59 (by decide) ?_
    exact h
theorem dX9_isCorner_0 : decode μX9_isCorner.2.1 0 = .ok (.iconst 0, 1) := by decide +kernel
theorem dX9_isCorner_1 : decode μX9_isCorner.2.1 1 = .ok (.istore_n 2, 1) := by decide +kernel
theorem dX9_isCorner_2 : decode μX9_isCorner.2.1 2 = .ok (.iconst 0, 1) := by decide +kernel
theorem dX9_isCorner_3 : decode μX9_isCorner.2.1 3 = .ok (.istore_n 3, 1) := by decide +kernel
theorem dX9_isCorner_4 : decode μX9_isCorner.2.1 4 = .ok (.iload_n 3, 1) := by decide +kernel
theorem dX9_isCorner_5 : decode μX9_isCorner.2.1 5 = .ok (.aload_n 0, 1) := by decide +kernel
theorem dX9_isCorner_6 : decode μX9_isCorner.2.1 6 = .ok (.getfield 45, 3) := by decide +kernel
theorem dX9_isCorner_9 : decode μX9_isCorner.2.1 9 = .ok (.bipush 12, 2) := by decide +kernel
theorem dX9_isCorner_11 : decode μX9_isCorner.2.1 11 = .ok (.iaload, 1) := by decide +kernel
theorem dX9_isCorner_12 : decode μX9_isCorner.2.1 12 = .ok (.if_icmp .ge 29, 3) := by decide +kernel
theorem dX9_isCorner_15 : decode μX9_isCorner.2.1 15 = .ok (.iload_n 2, 1) := by decide +kernel
theorem dX9_isCorner_16 : decode μX9_isCorner.2.1 16 = .ok (.ifCond .ne 13, 3) := by decide +kernel
theorem dX9_isCorner_19 : decode μX9_isCorner.2.1 19 = .ok (.aload_n 0, 1) := by decide +kernel
theorem dX9_isCorner_20 : decode μX9_isCorner.2.1 20 = .ok (.getfield 45, 3) := by decide +kernel
theorem dX9_isCorner_23 : decode μX9_isCorner.2.1 23 = .ok (.iload_n 3, 1) := by decide +kernel
theorem dX9_isCorner_24 : decode μX9_isCorner.2.1 24 = .ok (.iaload, 1) := by decide +kernel
theorem dX9_isCorner_25 : decode μX9_isCorner.2.1 25 = .ok (.iload_n 1, 1) := by decide +kernel
theorem dX9_isCorner_26 : decode μX9_isCorner.2.1 26 = .ok (.if_icmp .ne 7, 3) := by decide +kernel
theorem dX9_isCorner_29 : decode μX9_isCorner.2.1 29 = .ok (.iconst 1, 1) := by decide +kernel
theorem dX9_isCorner_30 : decode μX9_isCorner.2.1 30 = .ok (.goto 4, 3) := by decide +kernel
theorem dX9_isCorner_33 : decode μX9_isCorner.2.1 33 = .ok (.iconst 0, 1) := by decide +kernel
theorem dX9_isCorner_34 : decode μX9_isCorner.2.1 34 = .ok (.istore_n 2, 1) := by decide +kernel
theorem dX9_isCorner_35 : decode μX9_isCorner.2.1 35 = .ok (.iinc 3 1, 3) := by decide +kernel
theorem dX9_isCorner_38 : decode μX9_isCorner.2.1 38 = .ok (.goto (-34), 3) := by decide +kernel
theorem dX9_isCorner_41 : decode μX9_isCorner.2.1 41 = .ok (.iload_n 2, 1) := by decide +kernel
theorem dX9_isCorner_42 : decode μX9_isCorner.2.1 42 = .ok (.ireturn, 1) := by decide +kernel
set_option maxRecDepth 20000 in
theorem sg_X9_isCorner_0 {d : Nat} {x1 : Int32} {M : Mem} {K : (Int32 → Mem → Prop)}  (h : RI d μX9_isCorner 4 [(0, .ref 58), (1, .int x1), (2, .int 0), (3, .int 0)] [] M K) : CI d μX9_isCorner [.ref 58, .int x1] M K := by
  show Rn d μX9_isCorner 0 [(0, .ref 58), (1, .int x1)] [] M _
  refine rn_iconst (v := 0) dX9_isCorner_0 rfl ?_
  refine rn_istore_n (lv' := [(0, .ref 58), (1, .int x1), (2, .int 0)]) (hd := dX9_isCorner_1) (i := 2) (hi := rfl) (hn := by decide) (hf := rfl) (hl := rfl) ?_
  refine rn_iconst (v := 0) dX9_isCorner_2 rfl ?_
  refine rn_istore_n (lv' := [(0, .ref 58), (1, .int x1), (2, .int 0), (3, .int 0)]) (hd := dX9_isCorner_3) (i := 3) (hi := rfl) (hn := by decide) (hf := rfl) (hl := rfl) ?_
  exact h
set_option maxRecDepth 20000 in
theorem sg_X9_isCorner_4 {d : Nat} {x1 : Int32} {x2 : Int32} {x3 : Int32} {M : Mem} {K : (Int32 → Mem → Prop)}  (h : (if ri M 69 (nx 12) ≤ x3 then ((x2 = 0 ∨ x2 = 1) ∧ K x2 M) else (if x2 = 0 then (vp_in x3 24 ∧ (if ri M 69 (nx x3) = x1 then RI d μX9_isCorner 4 [(0, .ref 58), (1, .int x1), (2, .int 1), (3, .int (x3 + 1))] [] M K else RI d μX9_isCorner 4 [(0, .ref 58), (1, .int x1), (2, .int 0), (3, .int (x3 + 1))] [] M K)) else RI d μX9_isCorner 4 [(0, .ref 58), (1, .int x1), (2, .int 1), (3, .int (x3 + 1))] [] M K))) : RI d μX9_isCorner 4 [(0, .ref 58), (1, .int x1), (2, .int x2), (3, .int x3)] [] M K := by
  show Rn d μX9_isCorner 4 [(0, .ref 58), (1, .int x1), (2, .int x2), (3, .int x3)] [] M _
  refine rn_iload_n (i := 3) (x := x3) dX9_isCorner_4 rfl (by simp) ?_
  refine rn_aload_n (i := 0) (x := 58) dX9_isCorner_5 rfl (by simp) ?_
  refine rn_getr (t := 69) dX9_isCorner_6 rfl gf_X9_45 rfl rfl ?_
  refine rn_bipush (v := 12) dX9_isCorner_9 rfl ?_
  refine rn_iaload dX9_isCorner_11 rfl (by unfold vp_in; decide) ?_
  refine rn_icmp_ge (tgt := 41) dX9_isCorner_12 (by decide) (ite_go h (fun hc h => ?_) (fun hc h => ?_))
  · refine rn_iload_n (i := 2) (x := x2) dX9_isCorner_41 rfl (by simp) ?_
    exact rn_zret dX9_isCorner_42 rfl h.1 ⟨_, rfl, h.2⟩
  · refine rn_iload_n (i := 2) (x := x2) dX9_isCorner_15 rfl (by simp) ?_
    refine rn_if_ne (tgt := 29) dX9_isCorner_16 (by decide) (ite_go h (fun hc h => ?_) (fun hc h => ?_))
    · refine rn_aload_n (i := 0) (x := 58) dX9_isCorner_19 rfl (by simp) ?_
      refine rn_getr (t := 69) dX9_isCorner_20 rfl gf_X9_45 rfl rfl ?_
      refine rn_iload_n (i := 3) (x := x3) dX9_isCorner_23 rfl (by simp) ?_
      obtain ⟨hi, h⟩ := h
      refine rn_iaload dX9_isCorner_24 rfl hi ?_
      refine rn_iload_n (i := 1) (x := x1) dX9_isCorner_25 rfl (by simp) ?_
      refine rn_icmp_ne (tgt := 33) dX9_isCorner_26 (by decide) (ite_go h (fun hc h => ?_) (fun hc h => ?_))
      · refine rn_iconst (v := 1) dX9_isCorner_29 rfl ?_
        refine rn_goto (tgt := 34) dX9_isCorner_30 (by decide) ?_
        refine rn_istore_n (lv' := [(0, .ref 58), (1, .int x1), (2, .int 1), (3, .int x3)]) (hd := dX9_isCorner_34) (i := 2) (hi := rfl) (hn := by decide) (hf := rfl) (hl := rfl) ?_
        refine rn_iinc (x := x3) (v := x3 + 1) (lv' := [(0, .ref 58), (1, .int x1), (2, .int 1), (3, .int (x3 + 1))]) dX9_isCorner_35 (by simp) rfl (by decide) rfl rfl ?_
        refine rn_goto (tgt := 4) dX9_isCorner_38 (by decide) ?_
        exact h
      · refine rn_iconst (v := 0) dX9_isCorner_33 rfl ?_
        refine rn_istore_n (lv' := [(0, .ref 58), (1, .int x1), (2, .int 0), (3, .int x3)]) (hd := dX9_isCorner_34) (i := 2) (hi := rfl) (hn := by decide) (hf := rfl) (hl := rfl) ?_
        refine rn_iinc (x := x3) (v := x3 + 1) (lv' := [(0, .ref 58), (1, .int x1), (2, .int 0), (3, .int (x3 + 1))]) dX9_isCorner_35 (by simp) rfl (by decide) rfl rfl ?_
        refine rn_goto (tgt := 4) dX9_isCorner_38 (by decide) ?_
        exact h
    · refine rn_iconst (v := 1) dX9_isCorner_29 rfl ?_
      refine rn_goto (tgt := 34) dX9_isCorner_30 (by decide) ?_
      refine rn_istore_n (lv' := [(0, .ref 58), (1, .int x1), (2, .int 1), (3, .int x3)]) (hd := dX9_isCorner_34) (i := 2) (hi := rfl) (hn := by decide) (hf := rfl) (hl := rfl) ?_
      refine rn_iinc (x := x3) (v := x3 + 1) (lv' := [(0, .ref 58), (1, .int x1), (2, .int 1), (3, .int (x3 + 1))]) dX9_isCorner_35 (by simp) rfl (by decide) rfl rfl ?_
      refine rn_goto (tgt := 4) dX9_isCorner_38 (by decide) ?_
      exact h
theorem dX9_isThere_0 : decode μX9_isThere.2.1 0 = .ok (.aload_n 0, 1) := by decide +kernel
theorem dX9_isThere_1 : decode μX9_isThere.2.1 1 = .ok (.getfield 45, 3) := by decide +kernel
theorem dX9_isThere_4 : decode μX9_isThere.2.1 4 = .ok (.bipush 13, 2) := by decide +kernel
theorem dX9_isThere_6 : decode μX9_isThere.2.1 6 = .ok (.iaload, 1) := by decide +kernel
theorem dX9_isThere_7 : decode μX9_isThere.2.1 7 = .ok (.iload_n 1, 1) := by decide +kernel
theorem dX9_isThere_8 : decode μX9_isThere.2.1 8 = .ok (.ishr, 1) := by decide +kernel
theorem dX9_isThere_9 : decode μX9_isThere.2.1 9 = .ok (.iconst 1, 1) := by decide +kernel
theorem dX9_isThere_10 : decode μX9_isThere.2.1 10 = .ok (.iand, 1) := by decide +kernel
theorem dX9_isThere_11 : decode μX9_isThere.2.1 11 = .ok (.iconst 1, 1) := by decide +kernel
theorem dX9_isThere_12 : decode μX9_isThere.2.1 12 = .ok (.if_icmp .ne 7, 3) := by decide +kernel
theorem dX9_isThere_15 : decode μX9_isThere.2.1 15 = .ok (.iconst 1, 1) := by decide +kernel
theorem dX9_isThere_16 : decode μX9_isThere.2.1 16 = .ok (.goto 4, 3) := by decide +kernel
theorem dX9_isThere_19 : decode μX9_isThere.2.1 19 = .ok (.iconst 0, 1) := by decide +kernel
theorem dX9_isThere_20 : decode μX9_isThere.2.1 20 = .ok (.ireturn, 1) := by decide +kernel
set_option maxRecDepth 20000 in
theorem sg_X9_isThere_0 {d : Nat} {x1 : Int32} {M : Mem} {K : (Int32 → Mem → Prop)}  (h : (if ((ri M 69 (nx 13)) >>> (x1 &&& 31)) &&& 1 = 1 then K 1 M else K 0 M)) : CI d μX9_isThere [.ref 58, .int x1] M K := by
  show Rn d μX9_isThere 0 [(0, .ref 58), (1, .int x1)] [] M _
  refine rn_aload_n (i := 0) (x := 58) dX9_isThere_0 rfl (by simp) ?_
  refine rn_getr (t := 69) dX9_isThere_1 rfl gf_X9_45 rfl rfl ?_
  refine rn_bipush (v := 13) dX9_isThere_4 rfl ?_
  refine rn_iaload dX9_isThere_6 rfl (by unfold vp_in; decide) ?_
  refine rn_iload_n (i := 1) (x := x1) dX9_isThere_7 rfl (by simp) ?_
  refine rn_ishr dX9_isThere_8 ?_
  refine rn_iconst (v := 1) dX9_isThere_9 rfl ?_
  refine rn_iand dX9_isThere_10 ?_
  refine rn_iconst (v := 1) dX9_isThere_11 rfl ?_
  refine rn_icmp_ne (tgt := 19) dX9_isThere_12 (by decide) (ite_go h (fun hc h => ?_) (fun hc h => ?_))
  · refine rn_iconst (v := 1) dX9_isThere_15 rfl ?_
    refine rn_goto (tgt := 20) dX9_isThere_16 (by decide) ?_
    exact rn_zret dX9_isThere_20 rfl (by decide) ⟨_, rfl, h⟩
  · refine rn_iconst (v := 0) dX9_isThere_19 rfl ?_
    exact rn_zret dX9_isThere_20 rfl (by decide) ⟨_, rfl, h⟩
theorem dX9_sidesOf_0 : decode μX9_sidesOf.2.1 0 = .ok (.iconst 0, 1) := by decide +kernel
theorem dX9_sidesOf_1 : decode μX9_sidesOf.2.1 1 = .ok (.istore_n 2, 1) := by decide +kernel
theorem dX9_sidesOf_2 : decode μX9_sidesOf.2.1 2 = .ok (.iconst 0, 1) := by decide +kernel
theorem dX9_sidesOf_3 : decode μX9_sidesOf.2.1 3 = .ok (.istore_n 3, 1) := by decide +kernel
theorem dX9_sidesOf_4 : decode μX9_sidesOf.2.1 4 = .ok (.iload_n 3, 1) := by decide +kernel
theorem dX9_sidesOf_5 : decode μX9_sidesOf.2.1 5 = .ok (.aload_n 0, 1) := by decide +kernel
theorem dX9_sidesOf_6 : decode μX9_sidesOf.2.1 6 = .ok (.getfield 45, 3) := by decide +kernel
theorem dX9_sidesOf_9 : decode μX9_sidesOf.2.1 9 = .ok (.bipush 12, 2) := by decide +kernel
theorem dX9_sidesOf_11 : decode μX9_sidesOf.2.1 11 = .ok (.iaload, 1) := by decide +kernel
theorem dX9_sidesOf_12 : decode μX9_sidesOf.2.1 12 = .ok (.if_icmp .ge 25, 3) := by decide +kernel
theorem dX9_sidesOf_15 : decode μX9_sidesOf.2.1 15 = .ok (.iload_n 2, 1) := by decide +kernel
theorem dX9_sidesOf_16 : decode μX9_sidesOf.2.1 16 = .ok (.aload_n 0, 1) := by decide +kernel
theorem dX9_sidesOf_17 : decode μX9_sidesOf.2.1 17 = .ok (.getfield 45, 3) := by decide +kernel
theorem dX9_sidesOf_20 : decode μX9_sidesOf.2.1 20 = .ok (.iload_n 3, 1) := by decide +kernel
theorem dX9_sidesOf_21 : decode μX9_sidesOf.2.1 21 = .ok (.iaload, 1) := by decide +kernel
theorem dX9_sidesOf_22 : decode μX9_sidesOf.2.1 22 = .ok (.iload_n 1, 1) := by decide +kernel
theorem dX9_sidesOf_23 : decode μX9_sidesOf.2.1 23 = .ok (.invokestatic 300, 3) := by decide +kernel
theorem dX9_sidesOf_26 : decode μX9_sidesOf.2.1 26 = .ok (.invokestatic 261, 3) := by decide +kernel
theorem dX9_sidesOf_29 : decode μX9_sidesOf.2.1 29 = .ok (.iadd, 1) := by decide +kernel
theorem dX9_sidesOf_30 : decode μX9_sidesOf.2.1 30 = .ok (.istore_n 2, 1) := by decide +kernel
theorem dX9_sidesOf_31 : decode μX9_sidesOf.2.1 31 = .ok (.iinc 3 1, 3) := by decide +kernel
theorem dX9_sidesOf_34 : decode μX9_sidesOf.2.1 34 = .ok (.goto (-30), 3) := by decide +kernel
theorem dX9_sidesOf_37 : decode μX9_sidesOf.2.1 37 = .ok (.iload_n 2, 1) := by decide +kernel
theorem dX9_sidesOf_38 : decode μX9_sidesOf.2.1 38 = .ok (.ireturn, 1) := by decide +kernel
set_option maxRecDepth 20000 in
theorem sg_X9_sidesOf_0 {d : Nat} {x1 : Int32} {M : Mem} {K : (Int32 → Mem → Prop)}  (h : RI (d + 1) μX9_sidesOf 4 [(0, .ref 58), (1, .int x1), (2, .int 0), (3, .int 0)] [] M K) : CI (d + 1) μX9_sidesOf [.ref 58, .int x1] M K := by
  show Rn (d + 1) μX9_sidesOf 0 [(0, .ref 58), (1, .int x1)] [] M _
  refine rn_iconst (v := 0) dX9_sidesOf_0 rfl ?_
  refine rn_istore_n (lv' := [(0, .ref 58), (1, .int x1), (2, .int 0)]) (hd := dX9_sidesOf_1) (i := 2) (hi := rfl) (hn := by decide) (hf := rfl) (hl := rfl) ?_
  refine rn_iconst (v := 0) dX9_sidesOf_2 rfl ?_
  refine rn_istore_n (lv' := [(0, .ref 58), (1, .int x1), (2, .int 0), (3, .int 0)]) (hd := dX9_sidesOf_3) (i := 3) (hi := rfl) (hn := by decide) (hf := rfl) (hl := rfl) ?_
  exact h
set_option maxRecDepth 20000 in
theorem sg_X9_sidesOf_4 {d : Nat} {x1 : Int32} {x2 : Int32} {x3 : Int32} {M : Mem} {K : (Int32 → Mem → Prop)}  (h : (if ri M 69 (nx 12) ≤ x3 then K x2 M else (vp_in x3 24 ∧ (CI d μX9_has [.int (ri M 69 (nx x3)), .int x1] M (fun r2 M1 => (CI d μX9_truth [.int r2] M1 (fun r4 M3 => RI (d + 1) μX9_sidesOf 4 [(0, .ref 58), (1, .int x1), (2, .int (x2 + r4)), (3, .int (x3 + 1))] [] M3 K))))))) : RI (d + 1) μX9_sidesOf 4 [(0, .ref 58), (1, .int x1), (2, .int x2), (3, .int x3)] [] M K := by
  show Rn (d + 1) μX9_sidesOf 4 [(0, .ref 58), (1, .int x1), (2, .int x2), (3, .int x3)] [] M _
  refine rn_iload_n (i := 3) (x := x3) dX9_sidesOf_4 rfl (by simp) ?_
  refine rn_aload_n (i := 0) (x := 58) dX9_sidesOf_5 rfl (by simp) ?_
  refine rn_getr (t := 69) dX9_sidesOf_6 rfl gf_X9_45 rfl rfl ?_
  refine rn_bipush (v := 12) dX9_sidesOf_9 rfl ?_
  refine rn_iaload dX9_sidesOf_11 rfl (by unfold vp_in; decide) ?_
  refine rn_icmp_ge (tgt := 37) dX9_sidesOf_12 (by decide) (ite_go h (fun hc h => ?_) (fun hc h => ?_))
  · refine rn_iload_n (i := 2) (x := x2) dX9_sidesOf_37 rfl (by simp) ?_
    exact rn_iret dX9_sidesOf_38 rfl ⟨_, rfl, h⟩
  · refine rn_iload_n (i := 2) (x := x2) dX9_sidesOf_15 rfl (by simp) ?_
    refine rn_aload_n (i := 0) (x := 58) dX9_sidesOf_16 rfl (by simp) ?_
    refine rn_getr (t := 69) dX9_sidesOf_17 rfl gf_X9_45 rfl rfl ?_
    refine rn_iload_n (i := 3) (x := x3) dX9_sidesOf_20 rfl (by simp) ?_
    obtain ⟨hi, h⟩ := h
    refine rn_iaload dX9_sidesOf_21 rfl hi ?_
    refine rn_iload_n (i := 1) (x := x1) dX9_sidesOf_22 rfl (by simp) ?_
    refine rn_callSi (as := [.int (ri M 69 (nx x3)), .int x1]) (st := [.int x2]) dX9_sidesOf_23 mf_X9_has lk_X9_300 sm_X9_has rfl (Nat.le_of_ble_eq_true rfl) (Nat.le_of_ble_eq_true rfl) rfl (RI.mono h (fun r2 M1 h => ?_))
    refine rn_callSi (as := [.int r2]) (st := [.int x2]) dX9_sidesOf_26 mf_X9_truth lk_X9_261 sm_X9_truth rfl (Nat.le_of_ble_eq_true rfl) (Nat.le_of_ble_eq_true rfl) rfl (RI.mono h (fun r4 M3 h => ?_))
    refine rn_iadd dX9_sidesOf_29 ?_
    refine rn_istore_n (lv' := [(0, .ref 58), (1, .int x1), (2, .int (x2 + r4)), (3, .int x3)]) (hd := dX9_sidesOf_30) (i := 2) (hi := rfl) (hn := by decide) (hf := rfl) (hl := rfl) ?_
    refine rn_iinc (x := x3) (v := x3 + 1) (lv' := [(0, .ref 58), (1, .int x1), (2, .int (x2 + r4)), (3, .int (x3 + 1))]) dX9_sidesOf_31 (by simp) rfl (by decide) rfl rfl ?_
    refine rn_goto (tgt := 4) dX9_sidesOf_34 (by decide) ?_
    exact h
theorem dX9_bordersOf_0 : decode μX9_bordersOf.2.1 0 = .ok (.iconst 0, 1) := by decide +kernel
theorem dX9_bordersOf_1 : decode μX9_bordersOf.2.1 1 = .ok (.istore_n 2, 1) := by decide +kernel
theorem dX9_bordersOf_2 : decode μX9_bordersOf.2.1 2 = .ok (.iconst 0, 1) := by decide +kernel
theorem dX9_bordersOf_3 : decode μX9_bordersOf.2.1 3 = .ok (.istore_n 3, 1) := by decide +kernel
theorem dX9_bordersOf_4 : decode μX9_bordersOf.2.1 4 = .ok (.iload_n 3, 1) := by decide +kernel
theorem dX9_bordersOf_5 : decode μX9_bordersOf.2.1 5 = .ok (.aload_n 0, 1) := by decide +kernel
theorem dX9_bordersOf_6 : decode μX9_bordersOf.2.1 6 = .ok (.getfield 45, 3) := by decide +kernel
theorem dX9_bordersOf_9 : decode μX9_bordersOf.2.1 9 = .ok (.bipush 12, 2) := by decide +kernel
theorem dX9_bordersOf_11 : decode μX9_bordersOf.2.1 11 = .ok (.iaload, 1) := by decide +kernel
theorem dX9_bordersOf_12 : decode μX9_bordersOf.2.1 12 = .ok (.if_icmp .ge 34, 3) := by decide +kernel
theorem dX9_bordersOf_15 : decode μX9_bordersOf.2.1 15 = .ok (.aload_n 0, 1) := by decide +kernel
theorem dX9_bordersOf_16 : decode μX9_bordersOf.2.1 16 = .ok (.getfield 45, 3) := by decide +kernel
theorem dX9_bordersOf_19 : decode μX9_bordersOf.2.1 19 = .ok (.iload_n 3, 1) := by decide +kernel
theorem dX9_bordersOf_20 : decode μX9_bordersOf.2.1 20 = .ok (.iaload, 1) := by decide +kernel
theorem dX9_bordersOf_21 : decode μX9_bordersOf.2.1 21 = .ok (.iload_n 1, 1) := by decide +kernel
theorem dX9_bordersOf_22 : decode μX9_bordersOf.2.1 22 = .ok (.invokestatic 300, 3) := by decide +kernel
theorem dX9_bordersOf_25 : decode μX9_bordersOf.2.1 25 = .ok (.ifCond .eq 15, 3) := by decide +kernel
theorem dX9_bordersOf_28 : decode μX9_bordersOf.2.1 28 = .ok (.iload_n 2, 1) := by decide +kernel
theorem dX9_bordersOf_29 : decode μX9_bordersOf.2.1 29 = .ok (.aload_n 0, 1) := by decide +kernel
theorem dX9_bordersOf_30 : decode μX9_bordersOf.2.1 30 = .ok (.getfield 45, 3) := by decide +kernel
theorem dX9_bordersOf_33 : decode μX9_bordersOf.2.1 33 = .ok (.iload_n 3, 1) := by decide +kernel
theorem dX9_bordersOf_34 : decode μX9_bordersOf.2.1 34 = .ok (.iaload, 1) := by decide +kernel
theorem dX9_bordersOf_35 : decode μX9_bordersOf.2.1 35 = .ok (.invokestatic 304, 3) := by decide +kernel
theorem dX9_bordersOf_38 : decode μX9_bordersOf.2.1 38 = .ok (.ior, 1) := by decide +kernel
theorem dX9_bordersOf_39 : decode μX9_bordersOf.2.1 39 = .ok (.istore_n 2, 1) := by decide +kernel
theorem dX9_bordersOf_40 : decode μX9_bordersOf.2.1 40 = .ok (.iinc 3 1, 3) := by decide +kernel
theorem dX9_bordersOf_43 : decode μX9_bordersOf.2.1 43 = .ok (.goto (-39), 3) := by decide +kernel
theorem dX9_bordersOf_46 : decode μX9_bordersOf.2.1 46 = .ok (.iload_n 2, 1) := by decide +kernel
theorem dX9_bordersOf_47 : decode μX9_bordersOf.2.1 47 = .ok (.iconst 1, 1) := by decide +kernel
theorem dX9_bordersOf_48 : decode μX9_bordersOf.2.1 48 = .ok (.iload_n 1, 1) := by decide +kernel
theorem dX9_bordersOf_49 : decode μX9_bordersOf.2.1 49 = .ok (.ishl, 1) := by decide +kernel
theorem dX9_bordersOf_50 : decode μX9_bordersOf.2.1 50 = .ok (.iconst (-1), 1) := by decide +kernel
theorem dX9_bordersOf_51 : decode μX9_bordersOf.2.1 51 = .ok (.ixor, 1) := by decide +kernel
theorem dX9_bordersOf_52 : decode μX9_bordersOf.2.1 52 = .ok (.iand, 1) := by decide +kernel
theorem dX9_bordersOf_53 : decode μX9_bordersOf.2.1 53 = .ok (.ireturn, 1) := by decide +kernel
set_option maxRecDepth 20000 in
theorem sg_X9_bordersOf_0 {d : Nat} {x1 : Int32} {M : Mem} {K : (Int32 → Mem → Prop)}  (h : RI (d + 1) μX9_bordersOf 4 [(0, .ref 58), (1, .int x1), (2, .int 0), (3, .int 0)] [] M K) : CI (d + 1) μX9_bordersOf [.ref 58, .int x1] M K := by
  show Rn (d + 1) μX9_bordersOf 0 [(0, .ref 58), (1, .int x1)] [] M _
  refine rn_iconst (v := 0) dX9_bordersOf_0 rfl ?_
  refine rn_istore_n (lv' := [(0, .ref 58), (1, .int x1), (2, .int 0)]) (hd := dX9_bordersOf_1) (i := 2) (hi := rfl) (hn := by decide) (hf := rfl) (hl := rfl) ?_
  refine rn_iconst (v := 0) dX9_bordersOf_2 rfl ?_
  refine rn_istore_n (lv' := [(0, .ref 58), (1, .int x1), (2, .int 0), (3, .int 0)]) (hd := dX9_bordersOf_3) (i := 3) (hi := rfl) (hn := by decide) (hf := rfl) (hl := rfl) ?_
  exact h
set_option maxRecDepth 20000 in
theorem sg_X9_bordersOf_4 {d : Nat} {x1 : Int32} {x2 : Int32} {x3 : Int32} {M : Mem} {K : (Int32 → Mem → Prop)}  (h : (if ri M 69 (nx 12) ≤ x3 then K (x2 &&& (((1 : Int32) <<< (x1 &&& 31)) ^^^ ((-1)))) M else (vp_in x3 24 ∧ (CI d μX9_has [.int (ri M 69 (nx x3)), .int x1] M (fun r2 M1 => (if r2 = 0 then RI (d + 1) μX9_bordersOf 4 [(0, .ref 58), (1, .int x1), (2, .int x2), (3, .int (x3 + 1))] [] M1 K else (vp_in x3 24 ∧ (CI d μX9_bitsOf [.int (ri M1 69 (nx x3))] M1 (fun r4 M3 => RI (d + 1) μX9_bordersOf 4 [(0, .ref 58), (1, .int x1), (2, .int (x2 ||| r4)), (3, .int (x3 + 1))] [] M3 K))))))))) : RI (d + 1) μX9_bordersOf 4 [(0, .ref 58), (1, .int x1), (2, .int x2), (3, .int x3)] [] M K := by
  show Rn (d + 1) μX9_bordersOf 4 [(0, .ref 58), (1, .int x1), (2, .int x2), (3, .int x3)] [] M _
  refine rn_iload_n (i := 3) (x := x3) dX9_bordersOf_4 rfl (by simp) ?_
  refine rn_aload_n (i := 0) (x := 58) dX9_bordersOf_5 rfl (by simp) ?_
  refine rn_getr (t := 69) dX9_bordersOf_6 rfl gf_X9_45 rfl rfl ?_
  refine rn_bipush (v := 12) dX9_bordersOf_9 rfl ?_
  refine rn_iaload dX9_bordersOf_11 rfl (by unfold vp_in; decide) ?_
  refine rn_icmp_ge (tgt := 46) dX9_bordersOf_12 (by decide) (ite_go h (fun hc h => ?_) (fun hc h => ?_))
  · refine rn_iload_n (i := 2) (x := x2) dX9_bordersOf_46 rfl (by simp) ?_
    refine rn_iconst (v := 1) dX9_bordersOf_47 rfl ?_
    refine rn_iload_n (i := 1) (x := x1) dX9_bordersOf_48 rfl (by simp) ?_
    refine rn_ishl dX9_bordersOf_49 ?_
    refine rn_iconst (v := -1) dX9_bordersOf_50 rfl ?_
    refine rn_ixor dX9_bordersOf_51 ?_
    refine rn_iand dX9_bordersOf_52 ?_
    exact rn_iret dX9_bordersOf_53 rfl ⟨_, rfl, h⟩
  · refine rn_aload_n (i := 0) (x := 58) dX9_bordersOf_15 rfl (by simp) ?_
    refine rn_getr (t := 69) dX9_bordersOf_16 rfl gf_X9_45 rfl rfl ?_
    refine rn_iload_n (i := 3) (x := x3) dX9_bordersOf_19 rfl (by simp) ?_
    obtain ⟨hi, h⟩ := h
    refine rn_iaload dX9_bordersOf_20 rfl hi ?_
    refine rn_iload_n (i := 1) (x := x1) dX9_bordersOf_21 rfl (by simp) ?_
    refine rn_callSi (as := [.int (ri M 69 (nx x3)), .int x1]) (st := []) dX9_bordersOf_22 mf_X9_has lk_X9_300 sm_X9_has rfl (Nat.le_of_ble_eq_true rfl) (Nat.le_of_ble_eq_true rfl) rfl (RI.mono h (fun r2 M1 h => ?_))
    refine rn_if_eq (tgt := 40) dX9_bordersOf_25 (by decide) (ite_go h (fun hc h => ?_) (fun hc h => ?_))
    · refine rn_iinc (x := x3) (v := x3 + 1) (lv' := [(0, .ref 58), (1, .int x1), (2, .int x2), (3, .int (x3 + 1))]) dX9_bordersOf_40 (by simp) rfl (by decide) rfl rfl ?_
      refine rn_goto (tgt := 4) dX9_bordersOf_43 (by decide) ?_
      exact h
    · refine rn_iload_n (i := 2) (x := x2) dX9_bordersOf_28 rfl (by simp) ?_
      refine rn_aload_n (i := 0) (x := 58) dX9_bordersOf_29 rfl (by simp) ?_
      refine rn_getr (t := 69) dX9_bordersOf_30 rfl gf_X9_45 rfl rfl ?_
      refine rn_iload_n (i := 3) (x := x3) dX9_bordersOf_33 rfl (by simp) ?_
      obtain ⟨hi, h⟩ := h
      refine rn_iaload dX9_bordersOf_34 rfl hi ?_
      refine rn_callSi (as := [.int (ri M1 69 (nx x3))]) (st := [.int x2]) dX9_bordersOf_35 mf_X9_bitsOf lk_X9_304 sm_X9_bitsOf rfl (Nat.le_of_ble_eq_true rfl) (Nat.le_of_ble_eq_true rfl) rfl (RI.mono h (fun r4 M3 h => ?_))
      refine rn_ior dX9_bordersOf_38 ?_
      refine rn_istore_n (lv' := [(0, .ref 58), (1, .int x1), (2, .int (x2 ||| r4)), (3, .int x3)]) (hd := dX9_bordersOf_39) (i := 2) (hi := rfl) (hn := by decide) (hf := rfl) (hl := rfl) ?_
      refine rn_iinc (x := x3) (v := x3 + 1) (lv' := [(0, .ref 58), (1, .int x1), (2, .int (x2 ||| r4)), (3, .int (x3 + 1))]) dX9_bordersOf_40 (by simp) rfl (by decide) rfl rfl ?_
      refine rn_goto (tgt := 4) dX9_bordersOf_43 (by decide) ?_
      exact h
theorem dX9_doBorder_0 : decode μX9_doBorder.2.1 0 = .ok (.aload_n 0, 1) := by decide +kernel
theorem dX9_doBorder_1 : decode μX9_doBorder.2.1 1 = .ok (.iload_n 1, 1) := by decide +kernel
theorem dX9_doBorder_2 : decode μX9_doBorder.2.1 2 = .ok (.invokevirtual 268, 3) := by decide +kernel
theorem dX9_doBorder_5 : decode μX9_doBorder.2.1 5 = .ok (.iload_n 2, 1) := by decide +kernel
theorem dX9_doBorder_6 : decode μX9_doBorder.2.1 6 = .ok (.ishr, 1) := by decide +kernel
theorem dX9_doBorder_7 : decode μX9_doBorder.2.1 7 = .ok (.iconst 1, 1) := by decide +kernel
theorem dX9_doBorder_8 : decode μX9_doBorder.2.1 8 = .ok (.iand, 1) := by decide +kernel
theorem dX9_doBorder_9 : decode μX9_doBorder.2.1 9 = .ok (.iconst 1, 1) := by decide +kernel
theorem dX9_doBorder_10 : decode μX9_doBorder.2.1 10 = .ok (.if_icmp .ne 7, 3) := by decide +kernel
theorem dX9_doBorder_13 : decode μX9_doBorder.2.1 13 = .ok (.iconst 1, 1) := by decide +kernel
theorem dX9_doBorder_14 : decode μX9_doBorder.2.1 14 = .ok (.goto 4, 3) := by decide +kernel
theorem dX9_doBorder_17 : decode μX9_doBorder.2.1 17 = .ok (.iconst 0, 1) := by decide +kernel
theorem dX9_doBorder_18 : decode μX9_doBorder.2.1 18 = .ok (.ireturn, 1) := by decide +kernel
set_option maxRecDepth 20000 in
theorem sg_X9_doBorder_0 {d : Nat} {x1 : Int32} {x2 : Int32} {M : Mem} {K : (Int32 → Mem → Prop)}  (h : (CI d μX9_bordersOf [.ref 58, .int x1] M (fun r2 M1 => (if (r2 >>> (x2 &&& 31)) &&& 1 = 1 then K 1 M1 else K 0 M1)))) : CI (d + 1) μX9_doBorder [.ref 58, .int x1, .int x2] M K := by
  show Rn (d + 1) μX9_doBorder 0 [(0, .ref 58), (1, .int x1), (2, .int x2)] [] M _
  refine rn_aload_n (i := 0) (x := 58) dX9_doBorder_0 rfl (by simp) ?_
  refine rn_iload_n (i := 1) (x := x1) dX9_doBorder_1 rfl (by simp) ?_
  refine rn_callVi (as := [.int x1]) (st := []) dX9_doBorder_2 mf_X9_bordersOf lk_X9_268 im_X9_bordersOf rfl rfl rfl rfl (Nat.le_of_ble_eq_true rfl) (Nat.le_of_ble_eq_true rfl) rfl (RI.mono h (fun r2 M1 h => ?_))
  refine rn_iload_n (i := 2) (x := x2) dX9_doBorder_5 rfl (by simp) ?_
  refine rn_ishr dX9_doBorder_6 ?_
  refine rn_iconst (v := 1) dX9_doBorder_7 rfl ?_
  refine rn_iand dX9_doBorder_8 ?_
  refine rn_iconst (v := 1) dX9_doBorder_9 rfl ?_
  refine rn_icmp_ne (tgt := 17) dX9_doBorder_10 (by decide) (ite_go h (fun hc h => ?_) (fun hc h => ?_))
  · refine rn_iconst (v := 1) dX9_doBorder_13 rfl ?_
    refine rn_goto (tgt := 18) dX9_doBorder_14 (by decide) ?_
    exact rn_zret dX9_doBorder_18 rfl (by decide) ⟨_, rfl, h⟩
  · refine rn_iconst (v := 0) dX9_doBorder_17 rfl ?_
    exact rn_zret dX9_doBorder_18 rfl (by decide) ⟨_, rfl, h⟩
theorem dX9_sizesOf_0 : decode μX9_sizesOf.2.1 0 = .ok (.iconst 0, 1) := by decide +kernel
theorem dX9_sizesOf_1 : decode μX9_sizesOf.2.1 1 = .ok (.istore_n 2, 1) := by decide +kernel
theorem dX9_sizesOf_2 : decode μX9_sizesOf.2.1 2 = .ok (.iconst 0, 1) := by decide +kernel
theorem dX9_sizesOf_3 : decode μX9_sizesOf.2.1 3 = .ok (.istore_n 3, 1) := by decide +kernel
theorem dX9_sizesOf_4 : decode μX9_sizesOf.2.1 4 = .ok (.iload_n 3, 1) := by decide +kernel
theorem dX9_sizesOf_5 : decode μX9_sizesOf.2.1 5 = .ok (.bipush 8, 2) := by decide +kernel
theorem dX9_sizesOf_7 : decode μX9_sizesOf.2.1 7 = .ok (.if_icmp .ge 34, 3) := by decide +kernel
theorem dX9_sizesOf_10 : decode μX9_sizesOf.2.1 10 = .ok (.iload_n 2, 1) := by decide +kernel
theorem dX9_sizesOf_11 : decode μX9_sizesOf.2.1 11 = .ok (.iload_n 1, 1) := by decide +kernel
theorem dX9_sizesOf_12 : decode μX9_sizesOf.2.1 12 = .ok (.iload_n 3, 1) := by decide +kernel
theorem dX9_sizesOf_13 : decode μX9_sizesOf.2.1 13 = .ok (.ishr, 1) := by decide +kernel
theorem dX9_sizesOf_14 : decode μX9_sizesOf.2.1 14 = .ok (.iconst 1, 1) := by decide +kernel
theorem dX9_sizesOf_15 : decode μX9_sizesOf.2.1 15 = .ok (.iand, 1) := by decide +kernel
theorem dX9_sizesOf_16 : decode μX9_sizesOf.2.1 16 = .ok (.iconst 1, 1) := by decide +kernel
theorem dX9_sizesOf_17 : decode μX9_sizesOf.2.1 17 = .ok (.if_icmp .ne 15, 3) := by decide +kernel
theorem dX9_sizesOf_20 : decode μX9_sizesOf.2.1 20 = .ok (.aload_n 0, 1) := by decide +kernel
theorem dX9_sizesOf_21 : decode μX9_sizesOf.2.1 21 = .ok (.getfield 45, 3) := by decide +kernel
theorem dX9_sizesOf_24 : decode μX9_sizesOf.2.1 24 = .ok (.bipush 14, 2) := by decide +kernel
theorem dX9_sizesOf_26 : decode μX9_sizesOf.2.1 26 = .ok (.iload_n 3, 1) := by decide +kernel
theorem dX9_sizesOf_27 : decode μX9_sizesOf.2.1 27 = .ok (.iadd, 1) := by decide +kernel
theorem dX9_sizesOf_28 : decode μX9_sizesOf.2.1 28 = .ok (.iaload, 1) := by decide +kernel
theorem dX9_sizesOf_29 : decode μX9_sizesOf.2.1 29 = .ok (.goto 4, 3) := by decide +kernel
theorem dX9_sizesOf_32 : decode μX9_sizesOf.2.1 32 = .ok (.iconst 0, 1) := by decide +kernel
theorem dX9_sizesOf_33 : decode μX9_sizesOf.2.1 33 = .ok (.iadd, 1) := by decide +kernel
theorem dX9_sizesOf_34 : decode μX9_sizesOf.2.1 34 = .ok (.istore_n 2, 1) := by decide +kernel
theorem dX9_sizesOf_35 : decode μX9_sizesOf.2.1 35 = .ok (.iinc 3 1, 3) := by decide +kernel
theorem dX9_sizesOf_38 : decode μX9_sizesOf.2.1 38 = .ok (.goto (-34), 3) := by decide +kernel
theorem dX9_sizesOf_41 : decode μX9_sizesOf.2.1 41 = .ok (.iload_n 2, 1) := by decide +kernel
theorem dX9_sizesOf_42 : decode μX9_sizesOf.2.1 42 = .ok (.ireturn, 1) := by decide +kernel
set_option maxRecDepth 20000 in
theorem sg_X9_sizesOf_0 {d : Nat} {x1 : Int32} {M : Mem} {K : (Int32 → Mem → Prop)}  (h : RI d μX9_sizesOf 4 [(0, .ref 58), (1, .int x1), (2, .int 0), (3, .int 0)] [] M K) : CI d μX9_sizesOf [.ref 58, .int x1] M K := by
  show Rn d μX9_sizesOf 0 [(0, .ref 58), (1, .int x1)] [] M _
  refine rn_iconst (v := 0) dX9_sizesOf_0 rfl ?_
  refine rn_istore_n (lv' := [(0, .ref 58), (1, .int x1), (2, .int 0)]) (hd := dX9_sizesOf_1) (i := 2) (hi := rfl) (hn := by decide) (hf := rfl) (hl := rfl) ?_
  refine rn_iconst (v := 0) dX9_sizesOf_2 rfl ?_
  refine rn_istore_n (lv' := [(0, .ref 58), (1, .int x1), (2, .int 0), (3, .int 0)]) (hd := dX9_sizesOf_3) (i := 3) (hi := rfl) (hn := by decide) (hf := rfl) (hl := rfl) ?_
  exact h
set_option maxRecDepth 20000 in
theorem sg_X9_sizesOf_4 {d : Nat} {x1 : Int32} {x2 : Int32} {x3 : Int32} {M : Mem} {K : (Int32 → Mem → Prop)}  (h : (if 8 ≤ x3 then K x2 M else (if (x1 >>> (x3 &&& 31)) &&& 1 = 1 then (vp_in (14 + x3) 24 ∧ RI d μX9_sizesOf 4 [(0, .ref 58), (1, .int x1), (2, .int (x2 + (ri M 69 (nx (14 + x3))))), (3, .int (x3 + 1))] [] M K) else RI d μX9_sizesOf 4 [(0, .ref 58), (1, .int x1), (2, .int (x2 + 0)), (3, .int (x3 + 1))] [] M K))) : RI d μX9_sizesOf 4 [(0, .ref 58), (1, .int x1), (2, .int x2), (3, .int x3)] [] M K := by
  show Rn d μX9_sizesOf 4 [(0, .ref 58), (1, .int x1), (2, .int x2), (3, .int x3)] [] M _
  refine rn_iload_n (i := 3) (x := x3) dX9_sizesOf_4 rfl (by simp) ?_
  refine rn_bipush (v := 8) dX9_sizesOf_5 rfl ?_
  refine rn_icmp_ge (tgt := 41) dX9_sizesOf_7 (by decide) (ite_go h (fun hc h => ?_) (fun hc h => ?_))
  · refine rn_iload_n (i := 2) (x := x2) dX9_sizesOf_41 rfl (by simp) ?_
    exact rn_iret dX9_sizesOf_42 rfl ⟨_, rfl, h⟩
  · refine rn_iload_n (i := 2) (x := x2) dX9_sizesOf_10 rfl (by simp) ?_
    refine rn_iload_n (i := 1) (x := x1) dX9_sizesOf_11 rfl (by simp) ?_
    refine rn_iload_n (i := 3) (x := x3) dX9_sizesOf_12 rfl (by simp) ?_
    refine rn_ishr dX9_sizesOf_13 ?_
    refine rn_iconst (v := 1) dX9_sizesOf_14 rfl ?_
    refine rn_iand dX9_sizesOf_15 ?_
    refine rn_iconst (v := 1) dX9_sizesOf_16 rfl ?_
    refine rn_icmp_ne (tgt := 32) dX9_sizesOf_17 (by decide) (ite_go h (fun hc h => ?_) (fun hc h => ?_))
    · refine rn_aload_n (i := 0) (x := 58) dX9_sizesOf_20 rfl (by simp) ?_
      refine rn_getr (t := 69) dX9_sizesOf_21 rfl gf_X9_45 rfl rfl ?_
      refine rn_bipush (v := 14) dX9_sizesOf_24 rfl ?_
      refine rn_iload_n (i := 3) (x := x3) dX9_sizesOf_26 rfl (by simp) ?_
      refine rn_iadd dX9_sizesOf_27 ?_
      obtain ⟨hi, h⟩ := h
      refine rn_iaload dX9_sizesOf_28 rfl hi ?_
      refine rn_goto (tgt := 33) dX9_sizesOf_29 (by decide) ?_
      refine rn_iadd dX9_sizesOf_33 ?_
      refine rn_istore_n (lv' := [(0, .ref 58), (1, .int x1), (2, .int (x2 + (ri M 69 (nx (14 + x3))))), (3, .int x3)]) (hd := dX9_sizesOf_34) (i := 2) (hi := rfl) (hn := by decide) (hf := rfl) (hl := rfl) ?_
      refine rn_iinc (x := x3) (v := x3 + 1) (lv' := [(0, .ref 58), (1, .int x1), (2, .int (x2 + (ri M 69 (nx (14 + x3))))), (3, .int (x3 + 1))]) dX9_sizesOf_35 (by simp) rfl (by decide) rfl rfl ?_
      refine rn_goto (tgt := 4) dX9_sizesOf_38 (by decide) ?_
      exact h
    · refine rn_iconst (v := 0) dX9_sizesOf_32 rfl ?_
      refine rn_iadd dX9_sizesOf_33 ?_
      refine rn_istore_n (lv' := [(0, .ref 58), (1, .int x1), (2, .int (x2 + 0)), (3, .int x3)]) (hd := dX9_sizesOf_34) (i := 2) (hi := rfl) (hn := by decide) (hf := rfl) (hl := rfl) ?_
      refine rn_iinc (x := x3) (v := x3 + 1) (lv' := [(0, .ref 58), (1, .int x1), (2, .int (x2 + 0)), (3, .int (x3 + 1))]) dX9_sizesOf_35 (by simp) rfl (by decide) rfl rfl ?_
      refine rn_goto (tgt := 4) dX9_sizesOf_38 (by decide) ?_
      exact h
theorem dX9_third_0 : decode μX9_third.2.1 0 = .ok (.iconst (-1), 1) := by decide +kernel
theorem dX9_third_1 : decode μX9_third.2.1 1 = .ok (.istore 4, 2) := by decide +kernel
theorem dX9_third_3 : decode μX9_third.2.1 3 = .ok (.iconst 0, 1) := by decide +kernel
theorem dX9_third_4 : decode μX9_third.2.1 4 = .ok (.istore 5, 2) := by decide +kernel
theorem dX9_third_6 : decode μX9_third.2.1 6 = .ok (.iload 5, 2) := by decide +kernel
theorem dX9_third_8 : decode μX9_third.2.1 8 = .ok (.aload_n 0, 1) := by decide +kernel
theorem dX9_third_9 : decode μX9_third.2.1 9 = .ok (.getfield 45, 3) := by decide +kernel
theorem dX9_third_12 : decode μX9_third.2.1 12 = .ok (.bipush 12, 2) := by decide +kernel
theorem dX9_third_14 : decode μX9_third.2.1 14 = .ok (.iaload, 1) := by decide +kernel
theorem dX9_third_15 : decode μX9_third.2.1 15 = .ok (.if_icmp .ge 89, 3) := by decide +kernel
theorem dX9_third_18 : decode μX9_third.2.1 18 = .ok (.aload_n 0, 1) := by decide +kernel
theorem dX9_third_19 : decode μX9_third.2.1 19 = .ok (.getfield 45, 3) := by decide +kernel
theorem dX9_third_22 : decode μX9_third.2.1 22 = .ok (.iload 5, 2) := by decide +kernel
theorem dX9_third_24 : decode μX9_third.2.1 24 = .ok (.iaload, 1) := by decide +kernel
theorem dX9_third_25 : decode μX9_third.2.1 25 = .ok (.iload_n 1, 1) := by decide +kernel
theorem dX9_third_26 : decode μX9_third.2.1 26 = .ok (.invokestatic 300, 3) := by decide +kernel
theorem dX9_third_29 : decode μX9_third.2.1 29 = .ok (.ifCond .eq 69, 3) := by decide +kernel
theorem dX9_third_32 : decode μX9_third.2.1 32 = .ok (.aload_n 0, 1) := by decide +kernel
theorem dX9_third_33 : decode μX9_third.2.1 33 = .ok (.getfield 45, 3) := by decide +kernel
theorem dX9_third_36 : decode μX9_third.2.1 36 = .ok (.iload 5, 2) := by decide +kernel
theorem dX9_third_38 : decode μX9_third.2.1 38 = .ok (.iaload, 1) := by decide +kernel
theorem dX9_third_39 : decode μX9_third.2.1 39 = .ok (.iload_n 2, 1) := by decide +kernel
theorem dX9_third_40 : decode μX9_third.2.1 40 = .ok (.invokestatic 300, 3) := by decide +kernel
theorem dX9_third_43 : decode μX9_third.2.1 43 = .ok (.ifCond .eq 55, 3) := by decide +kernel
theorem dX9_third_46 : decode μX9_third.2.1 46 = .ok (.iload_n 3, 1) := by decide +kernel
theorem dX9_third_47 : decode μX9_third.2.1 47 = .ok (.ifCond .ne 11, 3) := by decide +kernel
theorem dX9_third_50 : decode μX9_third.2.1 50 = .ok (.iload 4, 2) := by decide +kernel
theorem dX9_third_52 : decode μX9_third.2.1 52 = .ok (.ifCond .lt 6, 3) := by decide +kernel
theorem dX9_third_55 : decode μX9_third.2.1 55 = .ok (.goto 43, 3) := by decide +kernel
theorem dX9_third_58 : decode μX9_third.2.1 58 = .ok (.aload_n 0, 1) := by decide +kernel
theorem dX9_third_59 : decode μX9_third.2.1 59 = .ok (.getfield 45, 3) := by decide +kernel
theorem dX9_third_62 : decode μX9_third.2.1 62 = .ok (.iload 5, 2) := by decide +kernel
theorem dX9_third_64 : decode μX9_third.2.1 64 = .ok (.iaload, 1) := by decide +kernel
theorem dX9_third_65 : decode μX9_third.2.1 65 = .ok (.invokestatic 304, 3) := by decide +kernel
theorem dX9_third_68 : decode μX9_third.2.1 68 = .ok (.iconst 1, 1) := by decide +kernel
theorem dX9_third_69 : decode μX9_third.2.1 69 = .ok (.iload_n 1, 1) := by decide +kernel
theorem dX9_third_70 : decode μX9_third.2.1 70 = .ok (.ishl, 1) := by decide +kernel
theorem dX9_third_71 : decode μX9_third.2.1 71 = .ok (.iconst 1, 1) := by decide +kernel
theorem dX9_third_72 : decode μX9_third.2.1 72 = .ok (.iload_n 2, 1) := by decide +kernel
theorem dX9_third_73 : decode μX9_third.2.1 73 = .ok (.ishl, 1) := by decide +kernel
theorem dX9_third_74 : decode μX9_third.2.1 74 = .ok (.ior, 1) := by decide +kernel
theorem dX9_third_75 : decode μX9_third.2.1 75 = .ok (.iconst (-1), 1) := by decide +kernel
theorem dX9_third_76 : decode μX9_third.2.1 76 = .ok (.ixor, 1) := by decide +kernel
theorem dX9_third_77 : decode μX9_third.2.1 77 = .ok (.iand, 1) := by decide +kernel
theorem dX9_third_78 : decode μX9_third.2.1 78 = .ok (.istore 6, 2) := by decide +kernel
theorem dX9_third_80 : decode μX9_third.2.1 80 = .ok (.iconst 0, 1) := by decide +kernel
theorem dX9_third_81 : decode μX9_third.2.1 81 = .ok (.istore 4, 2) := by decide +kernel
theorem dX9_third_83 : decode μX9_third.2.1 83 = .ok (.iload 6, 2) := by decide +kernel
theorem dX9_third_85 : decode μX9_third.2.1 85 = .ok (.iload 4, 2) := by decide +kernel
theorem dX9_third_87 : decode μX9_third.2.1 87 = .ok (.ishr, 1) := by decide +kernel
theorem dX9_third_88 : decode μX9_third.2.1 88 = .ok (.iconst 1, 1) := by decide +kernel
theorem dX9_third_89 : decode μX9_third.2.1 89 = .ok (.if_icmp .eq 9, 3) := by decide +kernel
theorem dX9_third_92 : decode μX9_third.2.1 92 = .ok (.iinc 4 1, 3) := by decide +kernel
theorem dX9_third_95 : decode μX9_third.2.1 95 = .ok (.goto (-12), 3) := by decide +kernel
theorem dX9_third_98 : decode μX9_third.2.1 98 = .ok (.iinc 5 1, 3) := by decide +kernel
theorem dX9_third_101 : decode μX9_third.2.1 101 = .ok (.goto (-95), 3) := by decide +kernel
theorem dX9_third_104 : decode μX9_third.2.1 104 = .ok (.iload 4, 2) := by decide +kernel
theorem dX9_third_106 : decode μX9_third.2.1 106 = .ok (.ireturn, 1) := by decide +kernel
set_option maxRecDepth 20000 in
theorem sg_X9_third_0 {d : Nat} {x1 : Int32} {x2 : Int32} {x3 : Int32} {M : Mem} {K : (Int32 → Mem → Prop)}  (h : RI (d + 1) μX9_third 6 [(0, .ref 58), (1, .int x1), (2, .int x2), (3, .int x3), (4, .int ((-1))), (5, .int 0)] [] M K) : CI (d + 1) μX9_third [.ref 58, .int x1, .int x2, .int x3] M K := by
  show Rn (d + 1) μX9_third 0 [(0, .ref 58), (1, .int x1), (2, .int x2), (3, .int x3)] [] M _
  refine rn_iconst (v := -1) dX9_third_0 rfl ?_
  refine rn_istore (lv' := [(0, .ref 58), (1, .int x1), (2, .int x2), (3, .int x3), (4, .int ((-1)))]) (hd := dX9_third_1) (hn := by decide) (hf := rfl) (hl := rfl) ?_
  refine rn_iconst (v := 0) dX9_third_3 rfl ?_
  refine rn_istore (lv' := [(0, .ref 58), (1, .int x1), (2, .int x2), (3, .int x3), (4, .int ((-1))), (5, .int 0)]) (hd := dX9_third_4) (hn := by decide) (hf := rfl) (hl := rfl) ?_
  exact h
set_option maxRecDepth 20000 in
theorem sg_X9_third_6 {d : Nat} {x1 : Int32} {x2 : Int32} {x3 : Int32} {x4 : Int32} {x5 : Int32} {M : Mem} {K : (Int32 → Mem → Prop)}  (h : (if ri M 69 (nx 12) ≤ x5 then K x4 M else (vp_in x5 24 ∧ (CI d μX9_has [.int (ri M 69 (nx x5)), .int x1] M (fun r2 M1 => (if r2 = 0 then RI (d + 1) μX9_third 6 [(0, .ref 58), (1, .int x1), (2, .int x2), (3, .int x3), (4, .int x4), (5, .int (x5 + 1))] [] M1 K else (vp_in x5 24 ∧ (CI d μX9_has [.int (ri M1 69 (nx x5)), .int x2] M1 (fun r4 M3 => (if r4 = 0 then RI (d + 1) μX9_third 6 [(0, .ref 58), (1, .int x1), (2, .int x2), (3, .int x3), (4, .int x4), (5, .int (x5 + 1))] [] M3 K else (if x3 = 0 then (if x4 < 0 then RI (d + 1) μX9_third 58 [(0, .ref 58), (1, .int x1), (2, .int x2), (3, .int x3), (4, .int x4), (5, .int x5)] [] M3 K else RI (d + 1) μX9_third 6 [(0, .ref 58), (1, .int x1), (2, .int x2), (3, .int x3), (4, .int x4), (5, .int (x5 + 1))] [] M3 K) else RI (d + 1) μX9_third 58 [(0, .ref 58), (1, .int x1), (2, .int x2), (3, .int x3), (4, .int x4), (5, .int x5)] [] M3 K))))))))))) : RI (d + 1) μX9_third 6 [(0, .ref 58), (1, .int x1), (2, .int x2), (3, .int x3), (4, .int x4), (5, .int x5)] [] M K := by
  show Rn (d + 1) μX9_third 6 [(0, .ref 58), (1, .int x1), (2, .int x2), (3, .int x3), (4, .int x4), (5, .int x5)] [] M _
  refine rn_iload (x := x5) dX9_third_6 (by simp) ?_
  refine rn_aload_n (i := 0) (x := 58) dX9_third_8 rfl (by simp) ?_
  refine rn_getr (t := 69) dX9_third_9 rfl gf_X9_45 rfl rfl ?_
  refine rn_bipush (v := 12) dX9_third_12 rfl ?_
  refine rn_iaload dX9_third_14 rfl (by unfold vp_in; decide) ?_
  refine rn_icmp_ge (tgt := 104) dX9_third_15 (by decide) (ite_go h (fun hc h => ?_) (fun hc h => ?_))
  · refine rn_iload (x := x4) dX9_third_104 (by simp) ?_
    exact rn_iret dX9_third_106 rfl ⟨_, rfl, h⟩
  · refine rn_aload_n (i := 0) (x := 58) dX9_third_18 rfl (by simp) ?_
    refine rn_getr (t := 69) dX9_third_19 rfl gf_X9_45 rfl rfl ?_
    refine rn_iload (x := x5) dX9_third_22 (by simp) ?_
    obtain ⟨hi, h⟩ := h
    refine rn_iaload dX9_third_24 rfl hi ?_
    refine rn_iload_n (i := 1) (x := x1) dX9_third_25 rfl (by simp) ?_
    refine rn_callSi (as := [.int (ri M 69 (nx x5)), .int x1]) (st := []) dX9_third_26 mf_X9_has lk_X9_300 sm_X9_has rfl (Nat.le_of_ble_eq_true rfl) (Nat.le_of_ble_eq_true rfl) rfl (RI.mono h (fun r2 M1 h => ?_))
    refine rn_if_eq (tgt := 98) dX9_third_29 (by decide) (ite_go h (fun hc h => ?_) (fun hc h => ?_))
    · refine rn_iinc (x := x5) (v := x5 + 1) (lv' := [(0, .ref 58), (1, .int x1), (2, .int x2), (3, .int x3), (4, .int x4), (5, .int (x5 + 1))]) dX9_third_98 (by simp) rfl (by decide) rfl rfl ?_
      refine rn_goto (tgt := 6) dX9_third_101 (by decide) ?_
      exact h
    · refine rn_aload_n (i := 0) (x := 58) dX9_third_32 rfl (by simp) ?_
      refine rn_getr (t := 69) dX9_third_33 rfl gf_X9_45 rfl rfl ?_
      refine rn_iload (x := x5) dX9_third_36 (by simp) ?_
      obtain ⟨hi, h⟩ := h
      refine rn_iaload dX9_third_38 rfl hi ?_
      refine rn_iload_n (i := 2) (x := x2) dX9_third_39 rfl (by simp) ?_
      refine rn_callSi (as := [.int (ri M1 69 (nx x5)), .int x2]) (st := []) dX9_third_40 mf_X9_has lk_X9_300 sm_X9_has rfl (Nat.le_of_ble_eq_true rfl) (Nat.le_of_ble_eq_true rfl) rfl (RI.mono h (fun r4 M3 h => ?_))
      refine rn_if_eq (tgt := 98) dX9_third_43 (by decide) (ite_go h (fun hc h => ?_) (fun hc h => ?_))
      · refine rn_iinc (x := x5) (v := x5 + 1) (lv' := [(0, .ref 58), (1, .int x1), (2, .int x2), (3, .int x3), (4, .int x4), (5, .int (x5 + 1))]) dX9_third_98 (by simp) rfl (by decide) rfl rfl ?_
        refine rn_goto (tgt := 6) dX9_third_101 (by decide) ?_
        exact h
      · refine rn_iload_n (i := 3) (x := x3) dX9_third_46 rfl (by simp) ?_
        refine rn_if_ne (tgt := 58) dX9_third_47 (by decide) (ite_go h (fun hc h => ?_) (fun hc h => ?_))
        · refine rn_iload (x := x4) dX9_third_50 (by simp) ?_
          refine rn_if_lt (tgt := 58) dX9_third_52 (by decide) (ite_go h (fun hc h => ?_) (fun hc h => ?_))
          · exact h
          · refine rn_goto (tgt := 98) dX9_third_55 (by decide) ?_
            refine rn_iinc (x := x5) (v := x5 + 1) (lv' := [(0, .ref 58), (1, .int x1), (2, .int x2), (3, .int x3), (4, .int x4), (5, .int (x5 + 1))]) dX9_third_98 (by simp) rfl (by decide) rfl rfl ?_
            refine rn_goto (tgt := 6) dX9_third_101 (by decide) ?_
            exact h
        · exact h
set_option maxRecDepth 20000 in
theorem sg_X9_third_58 {d : Nat} {x1 : Int32} {x2 : Int32} {x3 : Int32} {x4 : Int32} {x5 : Int32} {M : Mem} {K : (Int32 → Mem → Prop)}  (h : (vp_in x5 24 ∧ (CI d μX9_bitsOf [.int (ri M 69 (nx x5))] M (fun r2 M1 => RI (d + 1) μX9_third 83 [(0, .ref 58), (1, .int x1), (2, .int x2), (3, .int x3), (4, .int 0), (5, .int x5), (6, .int (r2 &&& ((((1 : Int32) <<< (x1 &&& 31)) ||| ((1 : Int32) <<< (x2 &&& 31))) ^^^ ((-1)))))] [] M1 K)))) : RI (d + 1) μX9_third 58 [(0, .ref 58), (1, .int x1), (2, .int x2), (3, .int x3), (4, .int x4), (5, .int x5)] [] M K := by
  show Rn (d + 1) μX9_third 58 [(0, .ref 58), (1, .int x1), (2, .int x2), (3, .int x3), (4, .int x4), (5, .int x5)] [] M _
  refine rn_aload_n (i := 0) (x := 58) dX9_third_58 rfl (by simp) ?_
  refine rn_getr (t := 69) dX9_third_59 rfl gf_X9_45 rfl rfl ?_
  refine rn_iload (x := x5) dX9_third_62 (by simp) ?_
  obtain ⟨hi, h⟩ := h
  refine rn_iaload dX9_third_64 rfl hi ?_
  refine rn_callSi (as := [.int (ri M 69 (nx x5))]) (st := []) dX9_third_65 mf_X9_bitsOf lk_X9_304 sm_X9_bitsOf rfl (Nat.le_of_ble_eq_true rfl) (Nat.le_of_ble_eq_true rfl) rfl (RI.mono h (fun r2 M1 h => ?_))
  refine rn_iconst (v := 1) dX9_third_68 rfl ?_
  refine rn_iload_n (i := 1) (x := x1) dX9_third_69 rfl (by simp) ?_
  refine rn_ishl dX9_third_70 ?_
  refine rn_iconst (v := 1) dX9_third_71 rfl ?_
  refine rn_iload_n (i := 2) (x := x2) dX9_third_72 rfl (by simp) ?_
  refine rn_ishl dX9_third_73 ?_
  refine rn_ior dX9_third_74 ?_
  refine rn_iconst (v := -1) dX9_third_75 rfl ?_
  refine rn_ixor dX9_third_76 ?_
  refine rn_iand dX9_third_77 ?_
  refine rn_istore (lv' := [(0, .ref 58), (1, .int x1), (2, .int x2), (3, .int x3), (4, .int x4), (5, .int x5), (6, .int (r2 &&& ((((1 : Int32) <<< (x1 &&& 31)) ||| ((1 : Int32) <<< (x2 &&& 31))) ^^^ ((-1)))))]) (hd := dX9_third_78) (hn := by decide) (hf := rfl) (hl := rfl) ?_
  refine rn_iconst (v := 0) dX9_third_80 rfl ?_
  refine rn_istore (lv' := [(0, .ref 58), (1, .int x1), (2, .int x2), (3, .int x3), (4, .int 0), (5, .int x5), (6, .int (r2 &&& ((((1 : Int32) <<< (x1 &&& 31)) ||| ((1 : Int32) <<< (x2 &&& 31))) ^^^ ((-1)))))]) (hd := dX9_third_81) (hn := by decide) (hf := rfl) (hl := rfl) ?_
  exact h
set_option maxRecDepth 20000 in
theorem sg_X9_third_83 {d : Nat} {x1 : Int32} {x2 : Int32} {x3 : Int32} {x4 : Int32} {x5 : Int32} {x6 : Int32} {M : Mem} {K : (Int32 → Mem → Prop)}  (h : (if x6 >>> (x4 &&& 31) = 1 then RI (d + 1) μX9_third 6 [(0, .ref 58), (1, .int x1), (2, .int x2), (3, .int x3), (4, .int x4), (5, .int (x5 + 1))] [] M K else RI (d + 1) μX9_third 83 [(0, .ref 58), (1, .int x1), (2, .int x2), (3, .int x3), (4, .int (x4 + 1)), (5, .int x5), (6, .int x6)] [] M K)) : RI (d + 1) μX9_third 83 [(0, .ref 58), (1, .int x1), (2, .int x2), (3, .int x3), (4, .int x4), (5, .int x5), (6, .int x6)] [] M K := by
  show Rn (d + 1) μX9_third 83 [(0, .ref 58), (1, .int x1), (2, .int x2), (3, .int x3), (4, .int x4), (5, .int x5), (6, .int x6)] [] M _
  refine rn_iload (x := x6) dX9_third_83 (by simp) ?_
  refine rn_iload (x := x4) dX9_third_85 (by simp) ?_
  refine rn_ishr dX9_third_87 ?_
  refine rn_iconst (v := 1) dX9_third_88 rfl ?_
  refine rn_icmp_eq (tgt := 98) dX9_third_89 (by decide) (ite_go h (fun hc h => ?_) (fun hc h => ?_))
  · refine rn_iinc (x := x5) (v := x5 + 1) (lv' := [(0, .ref 58), (1, .int x1), (2, .int x2), (3, .int x3), (4, .int x4), (5, .int (x5 + 1)), (6, .int x6)]) dX9_third_98 (by simp) rfl (by decide) rfl rfl ?_
    refine rn_goto (tgt := 6) dX9_third_101 (by decide) ?_
    refine Rn.sub (lv' := [(0, .ref 58), (1, .int x1), (2, .int x2), (3, .int x3), (4, .int x4), (5, .int (x5 + 1))]) (by simp) ?_
    exact h
  · refine rn_iinc (x := x4) (v := x4 + 1) (lv' := [(0, .ref 58), (1, .int x1), (2, .int x2), (3, .int x3), (4, .int (x4 + 1)), (5, .int x5), (6, .int x6)]) dX9_third_92 (by simp) rfl (by decide) rfl rfl ?_
    refine rn_goto (tgt := 83) dX9_third_95 (by decide) ?_
    exact h
theorem dX9_canFlip_0 : decode μX9_canFlip.2.1 0 = .ok (.iload_n 1, 1) := by decide +kernel
theorem dX9_canFlip_1 : decode μX9_canFlip.2.1 1 = .ok (.iload_n 2, 1) := by decide +kernel
theorem dX9_canFlip_2 : decode μX9_canFlip.2.1 2 = .ok (.if_icmp .eq 12, 3) := by decide +kernel
theorem dX9_canFlip_5 : decode μX9_canFlip.2.1 5 = .ok (.aload_n 0, 1) := by decide +kernel
theorem dX9_canFlip_6 : decode μX9_canFlip.2.1 6 = .ok (.iload_n 1, 1) := by decide +kernel
theorem dX9_canFlip_7 : decode μX9_canFlip.2.1 7 = .ok (.iload_n 2, 1) := by decide +kernel
theorem dX9_canFlip_8 : decode μX9_canFlip.2.1 8 = .ok (.invokevirtual 307, 3) := by decide +kernel
theorem dX9_canFlip_11 : decode μX9_canFlip.2.1 11 = .ok (.ifCond .ne 5, 3) := by decide +kernel
theorem dX9_canFlip_14 : decode μX9_canFlip.2.1 14 = .ok (.iconst 0, 1) := by decide +kernel
theorem dX9_canFlip_15 : decode μX9_canFlip.2.1 15 = .ok (.ireturn, 1) := by decide +kernel
theorem dX9_canFlip_16 : decode μX9_canFlip.2.1 16 = .ok (.aload_n 0, 1) := by decide +kernel
theorem dX9_canFlip_17 : decode μX9_canFlip.2.1 17 = .ok (.iload_n 1, 1) := by decide +kernel
theorem dX9_canFlip_18 : decode μX9_canFlip.2.1 18 = .ok (.iload_n 2, 1) := by decide +kernel
theorem dX9_canFlip_19 : decode μX9_canFlip.2.1 19 = .ok (.iconst 0, 1) := by decide +kernel
theorem dX9_canFlip_20 : decode μX9_canFlip.2.1 20 = .ok (.invokevirtual 310, 3) := by decide +kernel
theorem dX9_canFlip_23 : decode μX9_canFlip.2.1 23 = .ok (.istore_n 3, 1) := by decide +kernel
theorem dX9_canFlip_24 : decode μX9_canFlip.2.1 24 = .ok (.aload_n 0, 1) := by decide +kernel
theorem dX9_canFlip_25 : decode μX9_canFlip.2.1 25 = .ok (.iload_n 1, 1) := by decide +kernel
theorem dX9_canFlip_26 : decode μX9_canFlip.2.1 26 = .ok (.iload_n 2, 1) := by decide +kernel
theorem dX9_canFlip_27 : decode μX9_canFlip.2.1 27 = .ok (.iconst 1, 1) := by decide +kernel
theorem dX9_canFlip_28 : decode μX9_canFlip.2.1 28 = .ok (.invokevirtual 310, 3) := by decide +kernel
theorem dX9_canFlip_31 : decode μX9_canFlip.2.1 31 = .ok (.istore 4, 2) := by decide +kernel
theorem dX9_canFlip_33 : decode μX9_canFlip.2.1 33 = .ok (.iload_n 3, 1) := by decide +kernel
theorem dX9_canFlip_34 : decode μX9_canFlip.2.1 34 = .ok (.iload 4, 2) := by decide +kernel
theorem dX9_canFlip_36 : decode μX9_canFlip.2.1 36 = .ok (.if_icmp .eq 35, 3) := by decide +kernel
theorem dX9_canFlip_39 : decode μX9_canFlip.2.1 39 = .ok (.aload_n 0, 1) := by decide +kernel
theorem dX9_canFlip_40 : decode μX9_canFlip.2.1 40 = .ok (.iload_n 3, 1) := by decide +kernel
theorem dX9_canFlip_41 : decode μX9_canFlip.2.1 41 = .ok (.iload 4, 2) := by decide +kernel
theorem dX9_canFlip_43 : decode μX9_canFlip.2.1 43 = .ok (.invokevirtual 307, 3) := by decide +kernel
theorem dX9_canFlip_46 : decode μX9_canFlip.2.1 46 = .ok (.ifCond .ne 25, 3) := by decide +kernel
theorem dX9_canFlip_49 : decode μX9_canFlip.2.1 49 = .ok (.aload_n 0, 1) := by decide +kernel
theorem dX9_canFlip_50 : decode μX9_canFlip.2.1 50 = .ok (.iload_n 1, 1) := by decide +kernel
theorem dX9_canFlip_51 : decode μX9_canFlip.2.1 51 = .ok (.invokevirtual 265, 3) := by decide +kernel
theorem dX9_canFlip_54 : decode μX9_canFlip.2.1 54 = .ok (.iconst 4, 1) := by decide +kernel
theorem dX9_canFlip_55 : decode μX9_canFlip.2.1 55 = .ok (.if_icmp .lt 16, 3) := by decide +kernel
theorem dX9_canFlip_58 : decode μX9_canFlip.2.1 58 = .ok (.aload_n 0, 1) := by decide +kernel
theorem dX9_canFlip_59 : decode μX9_canFlip.2.1 59 = .ok (.iload_n 2, 1) := by decide +kernel
theorem dX9_canFlip_60 : decode μX9_canFlip.2.1 60 = .ok (.invokevirtual 265, 3) := by decide +kernel
theorem dX9_canFlip_63 : decode μX9_canFlip.2.1 63 = .ok (.iconst 4, 1) := by decide +kernel
theorem dX9_canFlip_64 : decode μX9_canFlip.2.1 64 = .ok (.if_icmp .lt 7, 3) := by decide +kernel
theorem dX9_canFlip_67 : decode μX9_canFlip.2.1 67 = .ok (.iconst 1, 1) := by decide +kernel
theorem dX9_canFlip_68 : decode μX9_canFlip.2.1 68 = .ok (.goto 4, 3) := by decide +kernel
theorem dX9_canFlip_71 : decode μX9_canFlip.2.1 71 = .ok (.iconst 0, 1) := by decide +kernel
theorem dX9_canFlip_72 : decode μX9_canFlip.2.1 72 = .ok (.ireturn, 1) := by decide +kernel
set_option maxRecDepth 20000 in
theorem sg_X9_canFlip_0 {d : Nat} {x1 : Int32} {x2 : Int32} {M : Mem} {K : (Int32 → Mem → Prop)}  (h : (if x1 = x2 then K 0 M else (CI d μX9_doBorder [.ref 58, .int x1, .int x2] M (fun r2 M1 => (if r2 = 0 then K 0 M1 else (CI d μX9_third [.ref 58, .int x1, .int x2, .int 0] M1 (fun r4 M3 => (CI d μX9_third [.ref 58, .int x1, .int x2, .int 1] M3 (fun r6 M5 => (if r4 = r6 then K 0 M5 else (CI d μX9_doBorder [.ref 58, .int r4, .int r6] M5 (fun r8 M7 => (if r8 = 0 then (CI d μX9_sidesOf [.ref 58, .int x1] M7 (fun r10 M9 => (if r10 < 4 then K 0 M9 else (CI d μX9_sidesOf [.ref 58, .int x2] M9 (fun r12 M11 => (if r12 < 4 then K 0 M11 else K 1 M11)))))) else K 0 M7))))))))))))) : CI (d + 1) μX9_canFlip [.ref 58, .int x1, .int x2] M K := by
  show Rn (d + 1) μX9_canFlip 0 [(0, .ref 58), (1, .int x1), (2, .int x2)] [] M _
  refine rn_iload_n (i := 1) (x := x1) dX9_canFlip_0 rfl (by simp) ?_
  refine rn_iload_n (i := 2) (x := x2) dX9_canFlip_1 rfl (by simp) ?_
  refine rn_icmp_eq (tgt := 14) dX9_canFlip_2 (by decide) (ite_go h (fun hc h => ?_) (fun hc h => ?_))
  · refine rn_iconst (v := 0) dX9_canFlip_14 rfl ?_
    exact rn_zret dX9_canFlip_15 rfl (by decide) ⟨_, rfl, h⟩
  · refine rn_aload_n (i := 0) (x := 58) dX9_canFlip_5 rfl (by simp) ?_
    refine rn_iload_n (i := 1) (x := x1) dX9_canFlip_6 rfl (by simp) ?_
    refine rn_iload_n (i := 2) (x := x2) dX9_canFlip_7 rfl (by simp) ?_
    refine rn_callVi (as := [.int x1, .int x2]) (st := []) dX9_canFlip_8 mf_X9_doBorder lk_X9_307 im_X9_doBorder rfl rfl rfl rfl (Nat.le_of_ble_eq_true rfl) (Nat.le_of_ble_eq_true rfl) rfl (RI.mono h (fun r2 M1 h => ?_))
    refine rn_if_ne (tgt := 16) dX9_canFlip_11 (by decide) (ite_go h (fun hc h => ?_) (fun hc h => ?_))
    · refine rn_iconst (v := 0) dX9_canFlip_14 rfl ?_
      exact rn_zret dX9_canFlip_15 rfl (by decide) ⟨_, rfl, h⟩
    · refine rn_aload_n (i := 0) (x := 58) dX9_canFlip_16 rfl (by simp) ?_
      refine rn_iload_n (i := 1) (x := x1) dX9_canFlip_17 rfl (by simp) ?_
      refine rn_iload_n (i := 2) (x := x2) dX9_canFlip_18 rfl (by simp) ?_
      refine rn_iconst (v := 0) dX9_canFlip_19 rfl ?_
      refine rn_callVi (as := [.int x1, .int x2, .int 0]) (st := []) dX9_canFlip_20 mf_X9_third lk_X9_310 im_X9_third rfl rfl rfl rfl (Nat.le_of_ble_eq_true rfl) (Nat.le_of_ble_eq_true rfl) rfl (RI.mono h (fun r4 M3 h => ?_))
      refine rn_istore_n (lv' := [(0, .ref 58), (1, .int x1), (2, .int x2), (3, .int r4)]) (hd := dX9_canFlip_23) (i := 3) (hi := rfl) (hn := by decide) (hf := rfl) (hl := rfl) ?_
      refine rn_aload_n (i := 0) (x := 58) dX9_canFlip_24 rfl (by simp) ?_
      refine rn_iload_n (i := 1) (x := x1) dX9_canFlip_25 rfl (by simp) ?_
      refine rn_iload_n (i := 2) (x := x2) dX9_canFlip_26 rfl (by simp) ?_
      refine rn_iconst (v := 1) dX9_canFlip_27 rfl ?_
      refine rn_callVi (as := [.int x1, .int x2, .int 1]) (st := []) dX9_canFlip_28 mf_X9_third lk_X9_310 im_X9_third rfl rfl rfl rfl (Nat.le_of_ble_eq_true rfl) (Nat.le_of_ble_eq_true rfl) rfl (RI.mono h (fun r6 M5 h => ?_))
      refine rn_istore (lv' := [(0, .ref 58), (1, .int x1), (2, .int x2), (3, .int r4), (4, .int r6)]) (hd := dX9_canFlip_31) (hn := by decide) (hf := rfl) (hl := rfl) ?_
      refine rn_iload_n (i := 3) (x := r4) dX9_canFlip_33 rfl (by simp) ?_
      refine rn_iload (x := r6) dX9_canFlip_34 (by simp) ?_
      refine rn_icmp_eq (tgt := 71) dX9_canFlip_36 (by decide) (ite_go h (fun hc h => ?_) (fun hc h => ?_))
      · refine rn_iconst (v := 0) dX9_canFlip_71 rfl ?_
        exact rn_zret dX9_canFlip_72 rfl (by decide) ⟨_, rfl, h⟩
      · refine rn_aload_n (i := 0) (x := 58) dX9_canFlip_39 rfl (by simp) ?_
        refine rn_iload_n (i := 3) (x := r4) dX9_canFlip_40 rfl (by simp) ?_
        refine rn_iload (x := r6) dX9_canFlip_41 (by simp) ?_
        refine rn_callVi (as := [.int r4, .int r6]) (st := []) dX9_canFlip_43 mf_X9_doBorder lk_X9_307 im_X9_doBorder rfl rfl rfl rfl (Nat.le_of_ble_eq_true rfl) (Nat.le_of_ble_eq_true rfl) rfl (RI.mono h (fun r8 M7 h => ?_))
        refine rn_if_ne (tgt := 71) dX9_canFlip_46 (by decide) (ite_go h (fun hc h => ?_) (fun hc h => ?_))
        · refine rn_aload_n (i := 0) (x := 58) dX9_canFlip_49 rfl (by simp) ?_
          refine rn_iload_n (i := 1) (x := x1) dX9_canFlip_50 rfl (by simp) ?_
          refine rn_callVi (as := [.int x1]) (st := []) dX9_canFlip_51 mf_X9_sidesOf lk_X9_265 im_X9_sidesOf rfl rfl rfl rfl (Nat.le_of_ble_eq_true rfl) (Nat.le_of_ble_eq_true rfl) rfl (RI.mono h (fun r10 M9 h => ?_))
          refine rn_iconst (v := 4) dX9_canFlip_54 rfl ?_
          refine rn_icmp_lt (tgt := 71) dX9_canFlip_55 (by decide) (ite_go h (fun hc h => ?_) (fun hc h => ?_))
          · refine rn_iconst (v := 0) dX9_canFlip_71 rfl ?_
            exact rn_zret dX9_canFlip_72 rfl (by decide) ⟨_, rfl, h⟩
          · refine rn_aload_n (i := 0) (x := 58) dX9_canFlip_58 rfl (by simp) ?_
            refine rn_iload_n (i := 2) (x := x2) dX9_canFlip_59 rfl (by simp) ?_
            refine rn_callVi (as := [.int x2]) (st := []) dX9_canFlip_60 mf_X9_sidesOf lk_X9_265 im_X9_sidesOf rfl rfl rfl rfl (Nat.le_of_ble_eq_true rfl) (Nat.le_of_ble_eq_true rfl) rfl (RI.mono h (fun r12 M11 h => ?_))
            refine rn_iconst (v := 4) dX9_canFlip_63 rfl ?_
            refine rn_icmp_lt (tgt := 71) dX9_canFlip_64 (by decide) (ite_go h (fun hc h => ?_) (fun hc h => ?_))
            · refine rn_iconst (v := 0) dX9_canFlip_71 rfl ?_
              exact rn_zret dX9_canFlip_72 rfl (by decide) ⟨_, rfl, h⟩
            · refine rn_iconst (v := 1) dX9_canFlip_67 rfl ?_
              refine rn_goto (tgt := 72) dX9_canFlip_68 (by decide) ?_
              exact rn_zret dX9_canFlip_72 rfl (by decide) ⟨_, rfl, h⟩
        · refine rn_iconst (v := 0) dX9_canFlip_71 rfl ?_
          exact rn_zret dX9_canFlip_72 rfl (by decide) ⟨_, rfl, h⟩
theorem dX9_doFlip_0 : decode μX9_doFlip.2.1 0 = .ok (.aload_n 0, 1) := by decide +kernel
theorem dX9_doFlip_1 : decode μX9_doFlip.2.1 1 = .ok (.iload_n 1, 1) := by decide +kernel
theorem dX9_doFlip_2 : decode μX9_doFlip.2.1 2 = .ok (.iload_n 2, 1) := by decide +kernel
theorem dX9_doFlip_3 : decode μX9_doFlip.2.1 3 = .ok (.iconst 0, 1) := by decide +kernel
theorem dX9_doFlip_4 : decode μX9_doFlip.2.1 4 = .ok (.invokevirtual 310, 3) := by decide +kernel
theorem dX9_doFlip_7 : decode μX9_doFlip.2.1 7 = .ok (.istore_n 3, 1) := by decide +kernel
theorem dX9_doFlip_8 : decode μX9_doFlip.2.1 8 = .ok (.aload_n 0, 1) := by decide +kernel
theorem dX9_doFlip_9 : decode μX9_doFlip.2.1 9 = .ok (.iload_n 1, 1) := by decide +kernel
theorem dX9_doFlip_10 : decode μX9_doFlip.2.1 10 = .ok (.iload_n 2, 1) := by decide +kernel
theorem dX9_doFlip_11 : decode μX9_doFlip.2.1 11 = .ok (.iconst 1, 1) := by decide +kernel
theorem dX9_doFlip_12 : decode μX9_doFlip.2.1 12 = .ok (.invokevirtual 310, 3) := by decide +kernel
theorem dX9_doFlip_15 : decode μX9_doFlip.2.1 15 = .ok (.istore 4, 2) := by decide +kernel
theorem dX9_doFlip_17 : decode μX9_doFlip.2.1 17 = .ok (.aload_n 0, 1) := by decide +kernel
theorem dX9_doFlip_18 : decode μX9_doFlip.2.1 18 = .ok (.iload_n 1, 1) := by decide +kernel
theorem dX9_doFlip_19 : decode μX9_doFlip.2.1 19 = .ok (.iload_n 2, 1) := by decide +kernel
theorem dX9_doFlip_20 : decode μX9_doFlip.2.1 20 = .ok (.iload_n 3, 1) := by decide +kernel
theorem dX9_doFlip_21 : decode μX9_doFlip.2.1 21 = .ok (.invokestatic 297, 3) := by decide +kernel
theorem dX9_doFlip_24 : decode μX9_doFlip.2.1 24 = .ok (.invokevirtual 313, 3) := by decide +kernel
theorem dX9_doFlip_27 : decode μX9_doFlip.2.1 27 = .ok (.aload_n 0, 1) := by decide +kernel
theorem dX9_doFlip_28 : decode μX9_doFlip.2.1 28 = .ok (.iload_n 1, 1) := by decide +kernel
theorem dX9_doFlip_29 : decode μX9_doFlip.2.1 29 = .ok (.iload_n 2, 1) := by decide +kernel
theorem dX9_doFlip_30 : decode μX9_doFlip.2.1 30 = .ok (.iload 4, 2) := by decide +kernel
theorem dX9_doFlip_32 : decode μX9_doFlip.2.1 32 = .ok (.invokestatic 297, 3) := by decide +kernel
theorem dX9_doFlip_35 : decode μX9_doFlip.2.1 35 = .ok (.invokevirtual 313, 3) := by decide +kernel
theorem dX9_doFlip_38 : decode μX9_doFlip.2.1 38 = .ok (.aload_n 0, 1) := by decide +kernel
theorem dX9_doFlip_39 : decode μX9_doFlip.2.1 39 = .ok (.iload_n 1, 1) := by decide +kernel
theorem dX9_doFlip_40 : decode μX9_doFlip.2.1 40 = .ok (.iload_n 3, 1) := by decide +kernel
theorem dX9_doFlip_41 : decode μX9_doFlip.2.1 41 = .ok (.iload 4, 2) := by decide +kernel
theorem dX9_doFlip_43 : decode μX9_doFlip.2.1 43 = .ok (.invokevirtual 316, 3) := by decide +kernel
theorem dX9_doFlip_46 : decode μX9_doFlip.2.1 46 = .ok (.aload_n 0, 1) := by decide +kernel
theorem dX9_doFlip_47 : decode μX9_doFlip.2.1 47 = .ok (.iload_n 2, 1) := by decide +kernel
theorem dX9_doFlip_48 : decode μX9_doFlip.2.1 48 = .ok (.iload_n 3, 1) := by decide +kernel
theorem dX9_doFlip_49 : decode μX9_doFlip.2.1 49 = .ok (.iload 4, 2) := by decide +kernel
theorem dX9_doFlip_51 : decode μX9_doFlip.2.1 51 = .ok (.invokevirtual 316, 3) := by decide +kernel
theorem dX9_doFlip_54 : decode μX9_doFlip.2.1 54 = .ok (.bipush 8, 2) := by decide +kernel
theorem dX9_doFlip_56 : decode μX9_doFlip.2.1 56 = .ok (.iload_n 3, 1) := by decide +kernel
theorem dX9_doFlip_57 : decode μX9_doFlip.2.1 57 = .ok (.iload 4, 2) := by decide +kernel
theorem dX9_doFlip_59 : decode μX9_doFlip.2.1 59 = .ok (.invokestatic 290, 3) := by decide +kernel
theorem dX9_doFlip_62 : decode μX9_doFlip.2.1 62 = .ok (.imul, 1) := by decide +kernel
theorem dX9_doFlip_63 : decode μX9_doFlip.2.1 63 = .ok (.iload_n 3, 1) := by decide +kernel
theorem dX9_doFlip_64 : decode μX9_doFlip.2.1 64 = .ok (.iload 4, 2) := by decide +kernel
theorem dX9_doFlip_66 : decode μX9_doFlip.2.1 66 = .ok (.invokestatic 294, 3) := by decide +kernel
theorem dX9_doFlip_69 : decode μX9_doFlip.2.1 69 = .ok (.iadd, 1) := by decide +kernel
theorem dX9_doFlip_70 : decode μX9_doFlip.2.1 70 = .ok (.ireturn, 1) := by decide +kernel
set_option maxRecDepth 20000 in
theorem sg_X9_doFlip_0 {d : Nat} {x1 : Int32} {x2 : Int32} {M : Mem} {K : (Int32 → Mem → Prop)}  (h : (CI d μX9_third [.ref 58, .int x1, .int x2, .int 0] M (fun r2 M1 => (CI d μX9_third [.ref 58, .int x1, .int x2, .int 1] M1 (fun r4 M3 => (CI d μX9_cornerOf [.int x1, .int x2, .int r2] M3 (fun r6 M5 => (CV d μX9_takeCorner [.ref 58, .int r6] M5 (fun M7 => (CI d μX9_cornerOf [.int x1, .int x2, .int r4] M7 (fun r9 M8 => (CV d μX9_takeCorner [.ref 58, .int r9] M8 (fun M10 => (CV d μX9_addCorner [.ref 58, .int x1, .int r2, .int r4] M10 (fun M11 => (CV d μX9_addCorner [.ref 58, .int x2, .int r2, .int r4] M11 (fun M12 => (CI d μX9_lesser [.int r2, .int r4] M12 (fun r14 M13 => (CI d μX9_greater [.int r2, .int r4] M13 (fun r16 M15 => K ((8 * r14) + r16) M15))))))))))))))))))))) : CI (d + 1) μX9_doFlip [.ref 58, .int x1, .int x2] M K := by
  show Rn (d + 1) μX9_doFlip 0 [(0, .ref 58), (1, .int x1), (2, .int x2)] [] M _
  refine rn_aload_n (i := 0) (x := 58) dX9_doFlip_0 rfl (by simp) ?_
  refine rn_iload_n (i := 1) (x := x1) dX9_doFlip_1 rfl (by simp) ?_
  refine rn_iload_n (i := 2) (x := x2) dX9_doFlip_2 rfl (by simp) ?_
  refine rn_iconst (v := 0) dX9_doFlip_3 rfl ?_
  refine rn_callVi (as := [.int x1, .int x2, .int 0]) (st := []) dX9_doFlip_4 mf_X9_third lk_X9_310 im_X9_third rfl rfl rfl rfl (Nat.le_of_ble_eq_true rfl) (Nat.le_of_ble_eq_true rfl) rfl (RI.mono h (fun r2 M1 h => ?_))
  refine rn_istore_n (lv' := [(0, .ref 58), (1, .int x1), (2, .int x2), (3, .int r2)]) (hd := dX9_doFlip_7) (i := 3) (hi := rfl) (hn := by decide) (hf := rfl) (hl := rfl) ?_
  refine rn_aload_n (i := 0) (x := 58) dX9_doFlip_8 rfl (by simp) ?_
  refine rn_iload_n (i := 1) (x := x1) dX9_doFlip_9 rfl (by simp) ?_
  refine rn_iload_n (i := 2) (x := x2) dX9_doFlip_10 rfl (by simp) ?_
  refine rn_iconst (v := 1) dX9_doFlip_11 rfl ?_
  refine rn_callVi (as := [.int x1, .int x2, .int 1]) (st := []) dX9_doFlip_12 mf_X9_third lk_X9_310 im_X9_third rfl rfl rfl rfl (Nat.le_of_ble_eq_true rfl) (Nat.le_of_ble_eq_true rfl) rfl (RI.mono h (fun r4 M3 h => ?_))
  refine rn_istore (lv' := [(0, .ref 58), (1, .int x1), (2, .int x2), (3, .int r2), (4, .int r4)]) (hd := dX9_doFlip_15) (hn := by decide) (hf := rfl) (hl := rfl) ?_
  refine rn_aload_n (i := 0) (x := 58) dX9_doFlip_17 rfl (by simp) ?_
  refine rn_iload_n (i := 1) (x := x1) dX9_doFlip_18 rfl (by simp) ?_
  refine rn_iload_n (i := 2) (x := x2) dX9_doFlip_19 rfl (by simp) ?_
  refine rn_iload_n (i := 3) (x := r2) dX9_doFlip_20 rfl (by simp) ?_
  refine rn_callSi (as := [.int x1, .int x2, .int r2]) (st := [.ref 58]) dX9_doFlip_21 mf_X9_cornerOf lk_X9_297 sm_X9_cornerOf rfl (Nat.le_of_ble_eq_true rfl) (Nat.le_of_ble_eq_true rfl) rfl (RI.mono h (fun r6 M5 h => ?_))
  refine rn_callVv (as := [.int r6]) (st := []) dX9_doFlip_24 mf_X9_takeCorner lk_X9_313 im_X9_takeCorner rfl rfl rfl rfl (Nat.le_of_ble_eq_true rfl) (Nat.le_of_ble_eq_true rfl) rfl (RV.mono h (fun M7 h => ?_))
  refine rn_aload_n (i := 0) (x := 58) dX9_doFlip_27 rfl (by simp) ?_
  refine rn_iload_n (i := 1) (x := x1) dX9_doFlip_28 rfl (by simp) ?_
  refine rn_iload_n (i := 2) (x := x2) dX9_doFlip_29 rfl (by simp) ?_
  refine rn_iload (x := r4) dX9_doFlip_30 (by simp) ?_
  refine rn_callSi (as := [.int x1, .int x2, .int r4]) (st := [.ref 58]) dX9_doFlip_32 mf_X9_cornerOf lk_X9_297 sm_X9_cornerOf rfl (Nat.le_of_ble_eq_true rfl) (Nat.le_of_ble_eq_true rfl) rfl (RI.mono h (fun r9 M8 h => ?_))
  refine rn_callVv (as := [.int r9]) (st := []) dX9_doFlip_35 mf_X9_takeCorner lk_X9_313 im_X9_takeCorner rfl rfl rfl rfl (Nat.le_of_ble_eq_true rfl) (Nat.le_of_ble_eq_true rfl) rfl (RV.mono h (fun M10 h => ?_))
  refine rn_aload_n (i := 0) (x := 58) dX9_doFlip_38 rfl (by simp) ?_
  refine rn_iload_n (i := 1) (x := x1) dX9_doFlip_39 rfl (by simp) ?_
  refine rn_iload_n (i := 3) (x := r2) dX9_doFlip_40 rfl (by simp) ?_
  refine rn_iload (x := r4) dX9_doFlip_41 (by simp) ?_
  refine rn_callVv (as := [.int x1, .int r2, .int r4]) (st := []) dX9_doFlip_43 mf_X9_addCorner lk_X9_316 im_X9_addCorner rfl rfl rfl rfl (Nat.le_of_ble_eq_true rfl) (Nat.le_of_ble_eq_true rfl) rfl (RV.mono h (fun M11 h => ?_))
  refine rn_aload_n (i := 0) (x := 58) dX9_doFlip_46 rfl (by simp) ?_
  refine rn_iload_n (i := 2) (x := x2) dX9_doFlip_47 rfl (by simp) ?_
  refine rn_iload_n (i := 3) (x := r2) dX9_doFlip_48 rfl (by simp) ?_
  refine rn_iload (x := r4) dX9_doFlip_49 (by simp) ?_
  refine rn_callVv (as := [.int x2, .int r2, .int r4]) (st := []) dX9_doFlip_51 mf_X9_addCorner lk_X9_316 im_X9_addCorner rfl rfl rfl rfl (Nat.le_of_ble_eq_true rfl) (Nat.le_of_ble_eq_true rfl) rfl (RV.mono h (fun M12 h => ?_))
  refine rn_bipush (v := 8) dX9_doFlip_54 rfl ?_
  refine rn_iload_n (i := 3) (x := r2) dX9_doFlip_56 rfl (by simp) ?_
  refine rn_iload (x := r4) dX9_doFlip_57 (by simp) ?_
  refine rn_callSi (as := [.int r2, .int r4]) (st := [.int 8]) dX9_doFlip_59 mf_X9_lesser lk_X9_290 sm_X9_lesser rfl (Nat.le_of_ble_eq_true rfl) (Nat.le_of_ble_eq_true rfl) rfl (RI.mono h (fun r14 M13 h => ?_))
  refine rn_imul dX9_doFlip_62 ?_
  refine rn_iload_n (i := 3) (x := r2) dX9_doFlip_63 rfl (by simp) ?_
  refine rn_iload (x := r4) dX9_doFlip_64 (by simp) ?_
  refine rn_callSi (as := [.int r2, .int r4]) (st := [.int (8 * r14)]) dX9_doFlip_66 mf_X9_greater lk_X9_294 sm_X9_greater rfl (Nat.le_of_ble_eq_true rfl) (Nat.le_of_ble_eq_true rfl) rfl (RI.mono h (fun r16 M15 h => ?_))
  refine rn_iadd dX9_doFlip_69 ?_
  exact rn_iret dX9_doFlip_70 rfl ⟨_, rfl, h⟩
theorem dX9_canPop_0 : decode μX9_canPop.2.1 0 = .ok (.iload_n 1, 1) := by decide +kernel
theorem dX9_canPop_1 : decode μX9_canPop.2.1 1 = .ok (.iload_n 2, 1) := by decide +kernel
theorem dX9_canPop_2 : decode μX9_canPop.2.1 2 = .ok (.if_icmp .eq 48, 3) := by decide +kernel
theorem dX9_canPop_5 : decode μX9_canPop.2.1 5 = .ok (.aload_n 0, 1) := by decide +kernel
theorem dX9_canPop_6 : decode μX9_canPop.2.1 6 = .ok (.getfield 45, 3) := by decide +kernel
theorem dX9_canPop_9 : decode μX9_canPop.2.1 9 = .ok (.bipush 13, 2) := by decide +kernel
theorem dX9_canPop_11 : decode μX9_canPop.2.1 11 = .ok (.iaload, 1) := by decide +kernel
theorem dX9_canPop_12 : decode μX9_canPop.2.1 12 = .ok (.invokestatic 274, 3) := by decide +kernel
theorem dX9_canPop_15 : decode μX9_canPop.2.1 15 = .ok (.iconst 3, 1) := by decide +kernel
theorem dX9_canPop_16 : decode μX9_canPop.2.1 16 = .ok (.if_icmp .le 34, 3) := by decide +kernel
theorem dX9_canPop_19 : decode μX9_canPop.2.1 19 = .ok (.aload_n 0, 1) := by decide +kernel
theorem dX9_canPop_20 : decode μX9_canPop.2.1 20 = .ok (.iload_n 1, 1) := by decide +kernel
theorem dX9_canPop_21 : decode μX9_canPop.2.1 21 = .ok (.iload_n 2, 1) := by decide +kernel
theorem dX9_canPop_22 : decode μX9_canPop.2.1 22 = .ok (.invokevirtual 307, 3) := by decide +kernel
theorem dX9_canPop_25 : decode μX9_canPop.2.1 25 = .ok (.ifCond .eq 25, 3) := by decide +kernel
theorem dX9_canPop_28 : decode μX9_canPop.2.1 28 = .ok (.aload_n 0, 1) := by decide +kernel
theorem dX9_canPop_29 : decode μX9_canPop.2.1 29 = .ok (.iload_n 1, 1) := by decide +kernel
theorem dX9_canPop_30 : decode μX9_canPop.2.1 30 = .ok (.invokevirtual 268, 3) := by decide +kernel
theorem dX9_canPop_33 : decode μX9_canPop.2.1 33 = .ok (.aload_n 0, 1) := by decide +kernel
theorem dX9_canPop_34 : decode μX9_canPop.2.1 34 = .ok (.iload_n 2, 1) := by decide +kernel
theorem dX9_canPop_35 : decode μX9_canPop.2.1 35 = .ok (.invokevirtual 268, 3) := by decide +kernel
theorem dX9_canPop_38 : decode μX9_canPop.2.1 38 = .ok (.iand, 1) := by decide +kernel
theorem dX9_canPop_39 : decode μX9_canPop.2.1 39 = .ok (.invokestatic 274, 3) := by decide +kernel
theorem dX9_canPop_42 : decode μX9_canPop.2.1 42 = .ok (.iconst 2, 1) := by decide +kernel
theorem dX9_canPop_43 : decode μX9_canPop.2.1 43 = .ok (.if_icmp .ne 7, 3) := by decide +kernel
theorem dX9_canPop_46 : decode μX9_canPop.2.1 46 = .ok (.iconst 1, 1) := by decide +kernel
theorem dX9_canPop_47 : decode μX9_canPop.2.1 47 = .ok (.goto 4, 3) := by decide +kernel
theorem dX9_canPop_50 : decode μX9_canPop.2.1 50 = .ok (.iconst 0, 1) := by decide +kernel
theorem dX9_canPop_51 : decode μX9_canPop.2.1 51 = .ok (.ireturn, 1) := by decide +kernel
set_option maxRecDepth 20000 in
theorem sg_X9_canPop_0 {d : Nat} {x1 : Int32} {x2 : Int32} {M : Mem} {K : (Int32 → Mem → Prop)}  (h : (if x1 = x2 then K 0 M else (CI d μX9_members [.int (ri M 69 (nx 13))] M (fun r2 M1 => (if r2 ≤ 3 then K 0 M1 else (CI d μX9_doBorder [.ref 58, .int x1, .int x2] M1 (fun r4 M3 => (if r4 = 0 then K 0 M3 else (CI d μX9_bordersOf [.ref 58, .int x1] M3 (fun r6 M5 => (CI d μX9_bordersOf [.ref 58, .int x2] M5 (fun r8 M7 => (CI d μX9_members [.int (r6 &&& r8)] M7 (fun r10 M9 => (if r10 = 2 then K 1 M9 else K 0 M9))))))))))))))) : CI (d + 1) μX9_canPop [.ref 58, .int x1, .int x2] M K := by
  show Rn (d + 1) μX9_canPop 0 [(0, .ref 58), (1, .int x1), (2, .int x2)] [] M _
  refine rn_iload_n (i := 1) (x := x1) dX9_canPop_0 rfl (by simp) ?_
  refine rn_iload_n (i := 2) (x := x2) dX9_canPop_1 rfl (by simp) ?_
  refine rn_icmp_eq (tgt := 50) dX9_canPop_2 (by decide) (ite_go h (fun hc h => ?_) (fun hc h => ?_))
  · refine rn_iconst (v := 0) dX9_canPop_50 rfl ?_
    exact rn_zret dX9_canPop_51 rfl (by decide) ⟨_, rfl, h⟩
  · refine rn_aload_n (i := 0) (x := 58) dX9_canPop_5 rfl (by simp) ?_
    refine rn_getr (t := 69) dX9_canPop_6 rfl gf_X9_45 rfl rfl ?_
    refine rn_bipush (v := 13) dX9_canPop_9 rfl ?_
    refine rn_iaload dX9_canPop_11 rfl (by unfold vp_in; decide) ?_
    refine rn_callSi (as := [.int (ri M 69 (nx 13))]) (st := []) dX9_canPop_12 mf_X9_members lk_X9_274 sm_X9_members rfl (Nat.le_of_ble_eq_true rfl) (Nat.le_of_ble_eq_true rfl) rfl (RI.mono h (fun r2 M1 h => ?_))
    refine rn_iconst (v := 3) dX9_canPop_15 rfl ?_
    refine rn_icmp_le (tgt := 50) dX9_canPop_16 (by decide) (ite_go h (fun hc h => ?_) (fun hc h => ?_))
    · refine rn_iconst (v := 0) dX9_canPop_50 rfl ?_
      exact rn_zret dX9_canPop_51 rfl (by decide) ⟨_, rfl, h⟩
    · refine rn_aload_n (i := 0) (x := 58) dX9_canPop_19 rfl (by simp) ?_
      refine rn_iload_n (i := 1) (x := x1) dX9_canPop_20 rfl (by simp) ?_
      refine rn_iload_n (i := 2) (x := x2) dX9_canPop_21 rfl (by simp) ?_
      refine rn_callVi (as := [.int x1, .int x2]) (st := []) dX9_canPop_22 mf_X9_doBorder lk_X9_307 im_X9_doBorder rfl rfl rfl rfl (Nat.le_of_ble_eq_true rfl) (Nat.le_of_ble_eq_true rfl) rfl (RI.mono h (fun r4 M3 h => ?_))
      refine rn_if_eq (tgt := 50) dX9_canPop_25 (by decide) (ite_go h (fun hc h => ?_) (fun hc h => ?_))
      · refine rn_iconst (v := 0) dX9_canPop_50 rfl ?_
        exact rn_zret dX9_canPop_51 rfl (by decide) ⟨_, rfl, h⟩
      · refine rn_aload_n (i := 0) (x := 58) dX9_canPop_28 rfl (by simp) ?_
        refine rn_iload_n (i := 1) (x := x1) dX9_canPop_29 rfl (by simp) ?_
        refine rn_callVi (as := [.int x1]) (st := []) dX9_canPop_30 mf_X9_bordersOf lk_X9_268 im_X9_bordersOf rfl rfl rfl rfl (Nat.le_of_ble_eq_true rfl) (Nat.le_of_ble_eq_true rfl) rfl (RI.mono h (fun r6 M5 h => ?_))
        refine rn_aload_n (i := 0) (x := 58) dX9_canPop_33 rfl (by simp) ?_
        refine rn_iload_n (i := 2) (x := x2) dX9_canPop_34 rfl (by simp) ?_
        refine rn_callVi (as := [.int x2]) (st := [.int r6]) dX9_canPop_35 mf_X9_bordersOf lk_X9_268 im_X9_bordersOf rfl rfl rfl rfl (Nat.le_of_ble_eq_true rfl) (Nat.le_of_ble_eq_true rfl) rfl (RI.mono h (fun r8 M7 h => ?_))
        refine rn_iand dX9_canPop_38 ?_
        refine rn_callSi (as := [.int (r6 &&& r8)]) (st := []) dX9_canPop_39 mf_X9_members lk_X9_274 sm_X9_members rfl (Nat.le_of_ble_eq_true rfl) (Nat.le_of_ble_eq_true rfl) rfl (RI.mono h (fun r10 M9 h => ?_))
        refine rn_iconst (v := 2) dX9_canPop_42 rfl ?_
        refine rn_icmp_ne (tgt := 50) dX9_canPop_43 (by decide) (ite_go h (fun hc h => ?_) (fun hc h => ?_))
        · refine rn_iconst (v := 1) dX9_canPop_46 rfl ?_
          refine rn_goto (tgt := 51) dX9_canPop_47 (by decide) ?_
          exact rn_zret dX9_canPop_51 rfl (by decide) ⟨_, rfl, h⟩
        · refine rn_iconst (v := 0) dX9_canPop_50 rfl ?_
          exact rn_zret dX9_canPop_51 rfl (by decide) ⟨_, rfl, h⟩
theorem dX9_doPop_0 : decode μX9_doPop.2.1 0 = .ok (.aload_n 0, 1) := by decide +kernel
theorem dX9_doPop_1 : decode μX9_doPop.2.1 1 = .ok (.iload_n 1, 1) := by decide +kernel
theorem dX9_doPop_2 : decode μX9_doPop.2.1 2 = .ok (.iload_n 2, 1) := by decide +kernel
theorem dX9_doPop_3 : decode μX9_doPop.2.1 3 = .ok (.iconst 0, 1) := by decide +kernel
theorem dX9_doPop_4 : decode μX9_doPop.2.1 4 = .ok (.invokevirtual 310, 3) := by decide +kernel
theorem dX9_doPop_7 : decode μX9_doPop.2.1 7 = .ok (.istore_n 3, 1) := by decide +kernel
theorem dX9_doPop_8 : decode μX9_doPop.2.1 8 = .ok (.aload_n 0, 1) := by decide +kernel
theorem dX9_doPop_9 : decode μX9_doPop.2.1 9 = .ok (.iload_n 1, 1) := by decide +kernel
theorem dX9_doPop_10 : decode μX9_doPop.2.1 10 = .ok (.iload_n 2, 1) := by decide +kernel
theorem dX9_doPop_11 : decode μX9_doPop.2.1 11 = .ok (.iconst 1, 1) := by decide +kernel
theorem dX9_doPop_12 : decode μX9_doPop.2.1 12 = .ok (.invokevirtual 310, 3) := by decide +kernel
theorem dX9_doPop_15 : decode μX9_doPop.2.1 15 = .ok (.istore 4, 2) := by decide +kernel
theorem dX9_doPop_17 : decode μX9_doPop.2.1 17 = .ok (.aload_n 0, 1) := by decide +kernel
theorem dX9_doPop_18 : decode μX9_doPop.2.1 18 = .ok (.iload_n 1, 1) := by decide +kernel
theorem dX9_doPop_19 : decode μX9_doPop.2.1 19 = .ok (.iload_n 2, 1) := by decide +kernel
theorem dX9_doPop_20 : decode μX9_doPop.2.1 20 = .ok (.iload_n 3, 1) := by decide +kernel
theorem dX9_doPop_21 : decode μX9_doPop.2.1 21 = .ok (.invokestatic 297, 3) := by decide +kernel
theorem dX9_doPop_24 : decode μX9_doPop.2.1 24 = .ok (.invokevirtual 313, 3) := by decide +kernel
theorem dX9_doPop_27 : decode μX9_doPop.2.1 27 = .ok (.aload_n 0, 1) := by decide +kernel
theorem dX9_doPop_28 : decode μX9_doPop.2.1 28 = .ok (.iload_n 1, 1) := by decide +kernel
theorem dX9_doPop_29 : decode μX9_doPop.2.1 29 = .ok (.iload_n 2, 1) := by decide +kernel
theorem dX9_doPop_30 : decode μX9_doPop.2.1 30 = .ok (.iload 4, 2) := by decide +kernel
theorem dX9_doPop_32 : decode μX9_doPop.2.1 32 = .ok (.invokestatic 297, 3) := by decide +kernel
theorem dX9_doPop_35 : decode μX9_doPop.2.1 35 = .ok (.invokevirtual 313, 3) := by decide +kernel
theorem dX9_doPop_38 : decode μX9_doPop.2.1 38 = .ok (.iconst 1, 1) := by decide +kernel
theorem dX9_doPop_39 : decode μX9_doPop.2.1 39 = .ok (.istore 5, 2) := by decide +kernel
theorem dX9_doPop_41 : decode μX9_doPop.2.1 41 = .ok (.iload 5, 2) := by decide +kernel
theorem dX9_doPop_43 : decode μX9_doPop.2.1 43 = .ok (.ifCond .eq 147, 3) := by decide +kernel
theorem dX9_doPop_46 : decode μX9_doPop.2.1 46 = .ok (.iconst 0, 1) := by decide +kernel
theorem dX9_doPop_47 : decode μX9_doPop.2.1 47 = .ok (.istore 6, 2) := by decide +kernel
theorem dX9_doPop_49 : decode μX9_doPop.2.1 49 = .ok (.iload 6, 2) := by decide +kernel
theorem dX9_doPop_51 : decode μX9_doPop.2.1 51 = .ok (.aload_n 0, 1) := by decide +kernel
theorem dX9_doPop_52 : decode μX9_doPop.2.1 52 = .ok (.getfield 45, 3) := by decide +kernel
theorem dX9_doPop_55 : decode μX9_doPop.2.1 55 = .ok (.bipush 12, 2) := by decide +kernel
theorem dX9_doPop_57 : decode μX9_doPop.2.1 57 = .ok (.iaload, 1) := by decide +kernel
theorem dX9_doPop_58 : decode μX9_doPop.2.1 58 = .ok (.if_icmp .ge 23, 3) := by decide +kernel
theorem dX9_doPop_61 : decode μX9_doPop.2.1 61 = .ok (.aload_n 0, 1) := by decide +kernel
theorem dX9_doPop_62 : decode μX9_doPop.2.1 62 = .ok (.getfield 45, 3) := by decide +kernel
theorem dX9_doPop_65 : decode μX9_doPop.2.1 65 = .ok (.iload 6, 2) := by decide +kernel
theorem dX9_doPop_67 : decode μX9_doPop.2.1 67 = .ok (.iaload, 1) := by decide +kernel
theorem dX9_doPop_68 : decode μX9_doPop.2.1 68 = .ok (.iload_n 2, 1) := by decide +kernel
theorem dX9_doPop_69 : decode μX9_doPop.2.1 69 = .ok (.invokestatic 300, 3) := by decide +kernel
theorem dX9_doPop_72 : decode μX9_doPop.2.1 72 = .ok (.ifCond .ne 9, 3) := by decide +kernel
theorem dX9_doPop_75 : decode μX9_doPop.2.1 75 = .ok (.iinc 6 1, 3) := by decide +kernel
theorem dX9_doPop_78 : decode μX9_doPop.2.1 78 = .ok (.goto (-29), 3) := by decide +kernel
theorem dX9_doPop_81 : decode μX9_doPop.2.1 81 = .ok (.iload 6, 2) := by decide +kernel
theorem dX9_doPop_83 : decode μX9_doPop.2.1 83 = .ok (.aload_n 0, 1) := by decide +kernel
theorem dX9_doPop_84 : decode μX9_doPop.2.1 84 = .ok (.getfield 45, 3) := by decide +kernel
theorem dX9_doPop_87 : decode μX9_doPop.2.1 87 = .ok (.bipush 12, 2) := by decide +kernel
theorem dX9_doPop_89 : decode μX9_doPop.2.1 89 = .ok (.iaload, 1) := by decide +kernel
theorem dX9_doPop_90 : decode μX9_doPop.2.1 90 = .ok (.if_icmp .ge 7, 3) := by decide +kernel
theorem dX9_doPop_93 : decode μX9_doPop.2.1 93 = .ok (.iconst 1, 1) := by decide +kernel
theorem dX9_doPop_94 : decode μX9_doPop.2.1 94 = .ok (.goto 4, 3) := by decide +kernel
theorem dX9_doPop_97 : decode μX9_doPop.2.1 97 = .ok (.iconst 0, 1) := by decide +kernel
theorem dX9_doPop_98 : decode μX9_doPop.2.1 98 = .ok (.istore 5, 2) := by decide +kernel
theorem dX9_doPop_100 : decode μX9_doPop.2.1 100 = .ok (.iload 5, 2) := by decide +kernel
theorem dX9_doPop_102 : decode μX9_doPop.2.1 102 = .ok (.ifCond .ne 6, 3) := by decide +kernel
theorem dX9_doPop_105 : decode μX9_doPop.2.1 105 = .ok (.goto (-64), 3) := by decide +kernel
theorem dX9_doPop_108 : decode μX9_doPop.2.1 108 = .ok (.aload_n 0, 1) := by decide +kernel
theorem dX9_doPop_109 : decode μX9_doPop.2.1 109 = .ok (.getfield 45, 3) := by decide +kernel
theorem dX9_doPop_112 : decode μX9_doPop.2.1 112 = .ok (.iload 6, 2) := by decide +kernel
theorem dX9_doPop_114 : decode μX9_doPop.2.1 114 = .ok (.iaload, 1) := by decide +kernel
theorem dX9_doPop_115 : decode μX9_doPop.2.1 115 = .ok (.istore 7, 2) := by decide +kernel
theorem dX9_doPop_117 : decode μX9_doPop.2.1 117 = .ok (.aload_n 0, 1) := by decide +kernel
theorem dX9_doPop_118 : decode μX9_doPop.2.1 118 = .ok (.iload 7, 2) := by decide +kernel
theorem dX9_doPop_120 : decode μX9_doPop.2.1 120 = .ok (.invokevirtual 313, 3) := by decide +kernel
theorem dX9_doPop_123 : decode μX9_doPop.2.1 123 = .ok (.aload_n 0, 1) := by decide +kernel
theorem dX9_doPop_124 : decode μX9_doPop.2.1 124 = .ok (.iload 7, 2) := by decide +kernel
theorem dX9_doPop_126 : decode μX9_doPop.2.1 126 = .ok (.iconst 0, 1) := by decide +kernel
theorem dX9_doPop_127 : decode μX9_doPop.2.1 127 = .ok (.invokestatic 320, 3) := by decide +kernel
theorem dX9_doPop_130 : decode μX9_doPop.2.1 130 = .ok (.iload_n 2, 1) := by decide +kernel
theorem dX9_doPop_131 : decode μX9_doPop.2.1 131 = .ok (.if_icmp .ne 7, 3) := by decide +kernel
theorem dX9_doPop_134 : decode μX9_doPop.2.1 134 = .ok (.iload_n 1, 1) := by decide +kernel
theorem dX9_doPop_135 : decode μX9_doPop.2.1 135 = .ok (.goto 9, 3) := by decide +kernel
theorem dX9_doPop_138 : decode μX9_doPop.2.1 138 = .ok (.iload 7, 2) := by decide +kernel
theorem dX9_doPop_140 : decode μX9_doPop.2.1 140 = .ok (.iconst 0, 1) := by decide +kernel
theorem dX9_doPop_141 : decode μX9_doPop.2.1 141 = .ok (.invokestatic 320, 3) := by decide +kernel
theorem dX9_doPop_144 : decode μX9_doPop.2.1 144 = .ok (.iload 7, 2) := by decide +kernel
theorem dX9_doPop_146 : decode μX9_doPop.2.1 146 = .ok (.iconst 1, 1) := by decide +kernel
theorem dX9_doPop_147 : decode μX9_doPop.2.1 147 = .ok (.invokestatic 320, 3) := by decide +kernel
theorem dX9_doPop_150 : decode μX9_doPop.2.1 150 = .ok (.iload_n 2, 1) := by decide +kernel
theorem dX9_doPop_151 : decode μX9_doPop.2.1 151 = .ok (.if_icmp .ne 7, 3) := by decide +kernel
theorem dX9_doPop_154 : decode μX9_doPop.2.1 154 = .ok (.iload_n 1, 1) := by decide +kernel
theorem dX9_doPop_155 : decode μX9_doPop.2.1 155 = .ok (.goto 9, 3) := by decide +kernel
theorem dX9_doPop_158 : decode μX9_doPop.2.1 158 = .ok (.iload 7, 2) := by decide +kernel
theorem dX9_doPop_160 : decode μX9_doPop.2.1 160 = .ok (.iconst 1, 1) := by decide +kernel
theorem dX9_doPop_161 : decode μX9_doPop.2.1 161 = .ok (.invokestatic 320, 3) := by decide +kernel
theorem dX9_doPop_164 : decode μX9_doPop.2.1 164 = .ok (.iload 7, 2) := by decide +kernel
theorem dX9_doPop_166 : decode μX9_doPop.2.1 166 = .ok (.iconst 2, 1) := by decide +kernel
theorem dX9_doPop_167 : decode μX9_doPop.2.1 167 = .ok (.invokestatic 320, 3) := by decide +kernel
theorem dX9_doPop_170 : decode μX9_doPop.2.1 170 = .ok (.iload_n 2, 1) := by decide +kernel
theorem dX9_doPop_171 : decode μX9_doPop.2.1 171 = .ok (.if_icmp .ne 7, 3) := by decide +kernel
theorem dX9_doPop_174 : decode μX9_doPop.2.1 174 = .ok (.iload_n 1, 1) := by decide +kernel
theorem dX9_doPop_175 : decode μX9_doPop.2.1 175 = .ok (.goto 9, 3) := by decide +kernel
theorem dX9_doPop_178 : decode μX9_doPop.2.1 178 = .ok (.iload 7, 2) := by decide +kernel
theorem dX9_doPop_180 : decode μX9_doPop.2.1 180 = .ok (.iconst 2, 1) := by decide +kernel
theorem dX9_doPop_181 : decode μX9_doPop.2.1 181 = .ok (.invokestatic 320, 3) := by decide +kernel
theorem dX9_doPop_184 : decode μX9_doPop.2.1 184 = .ok (.invokevirtual 316, 3) := by decide +kernel
theorem dX9_doPop_187 : decode μX9_doPop.2.1 187 = .ok (.goto (-146), 3) := by decide +kernel
theorem dX9_doPop_190 : decode μX9_doPop.2.1 190 = .ok (.aload_n 0, 1) := by decide +kernel
theorem dX9_doPop_191 : decode μX9_doPop.2.1 191 = .ok (.getfield 45, 3) := by decide +kernel
theorem dX9_doPop_194 : decode μX9_doPop.2.1 194 = .ok (.bipush 14, 2) := by decide +kernel
theorem dX9_doPop_196 : decode μX9_doPop.2.1 196 = .ok (.iload_n 1, 1) := by decide +kernel
theorem dX9_doPop_197 : decode μX9_doPop.2.1 197 = .ok (.iadd, 1) := by decide +kernel
theorem dX9_doPop_198 : decode μX9_doPop.2.1 198 = .ok (.sipush 999, 3) := by decide +kernel
theorem dX9_doPop_201 : decode μX9_doPop.2.1 201 = .ok (.aload_n 0, 1) := by decide +kernel
theorem dX9_doPop_202 : decode μX9_doPop.2.1 202 = .ok (.getfield 45, 3) := by decide +kernel
theorem dX9_doPop_205 : decode μX9_doPop.2.1 205 = .ok (.bipush 14, 2) := by decide +kernel
theorem dX9_doPop_207 : decode μX9_doPop.2.1 207 = .ok (.iload_n 1, 1) := by decide +kernel
theorem dX9_doPop_208 : decode μX9_doPop.2.1 208 = .ok (.iadd, 1) := by decide +kernel
theorem dX9_doPop_209 : decode μX9_doPop.2.1 209 = .ok (.iaload, 1) := by decide +kernel
theorem dX9_doPop_210 : decode μX9_doPop.2.1 210 = .ok (.aload_n 0, 1) := by decide +kernel
theorem dX9_doPop_211 : decode μX9_doPop.2.1 211 = .ok (.getfield 45, 3) := by decide +kernel
theorem dX9_doPop_214 : decode μX9_doPop.2.1 214 = .ok (.bipush 14, 2) := by decide +kernel
theorem dX9_doPop_216 : decode μX9_doPop.2.1 216 = .ok (.iload_n 2, 1) := by decide +kernel
theorem dX9_doPop_217 : decode μX9_doPop.2.1 217 = .ok (.iadd, 1) := by decide +kernel
theorem dX9_doPop_218 : decode μX9_doPop.2.1 218 = .ok (.iaload, 1) := by decide +kernel
theorem dX9_doPop_219 : decode μX9_doPop.2.1 219 = .ok (.iadd, 1) := by decide +kernel
theorem dX9_doPop_220 : decode μX9_doPop.2.1 220 = .ok (.invokestatic 290, 3) := by decide +kernel
theorem dX9_doPop_223 : decode μX9_doPop.2.1 223 = .ok (.iastore, 1) := by decide +kernel
theorem dX9_doPop_224 : decode μX9_doPop.2.1 224 = .ok (.aload_n 0, 1) := by decide +kernel
theorem dX9_doPop_225 : decode μX9_doPop.2.1 225 = .ok (.iload_n 2, 1) := by decide +kernel
theorem dX9_doPop_226 : decode μX9_doPop.2.1 226 = .ok (.invokevirtual 323, 3) := by decide +kernel
theorem dX9_doPop_229 : decode μX9_doPop.2.1 229 = .ok (.return_, 1) := by decide +kernel
set_option maxRecDepth 20000 in
theorem sg_X9_doPop_0 {d : Nat} {x1 : Int32} {x2 : Int32} {M : Mem} {K : (Mem → Prop)}  (h : (CI d μX9_third [.ref 58, .int x1, .int x2, .int 0] M (fun r2 M1 => (CI d μX9_third [.ref 58, .int x1, .int x2, .int 1] M1 (fun r4 M3 => (CI d μX9_cornerOf [.int x1, .int x2, .int r2] M3 (fun r6 M5 => (CV d μX9_takeCorner [.ref 58, .int r6] M5 (fun M7 => (CI d μX9_cornerOf [.int x1, .int x2, .int r4] M7 (fun r9 M8 => (CV d μX9_takeCorner [.ref 58, .int r9] M8 (fun M10 => RV (d + 1) μX9_doPop 41 [(0, .ref 58), (1, .int x1), (2, .int x2), (3, .int r2), (4, .int r4), (5, .int 1)] [] M10 K))))))))))))) : CV (d + 1) μX9_doPop [.ref 58, .int x1, .int x2] M K := by
  show Rn (d + 1) μX9_doPop 0 [(0, .ref 58), (1, .int x1), (2, .int x2)] [] M _
  refine rn_aload_n (i := 0) (x := 58) dX9_doPop_0 rfl (by simp) ?_
  refine rn_iload_n (i := 1) (x := x1) dX9_doPop_1 rfl (by simp) ?_
  refine rn_iload_n (i := 2) (x := x2) dX9_doPop_2 rfl (by simp) ?_
  refine rn_iconst (v := 0) dX9_doPop_3 rfl ?_
  refine rn_callVi (as := [.int x1, .int x2, .int 0]) (st := []) dX9_doPop_4 mf_X9_third lk_X9_310 im_X9_third rfl rfl rfl rfl (Nat.le_of_ble_eq_true rfl) (Nat.le_of_ble_eq_true rfl) rfl (RI.mono h (fun r2 M1 h => ?_))
  refine rn_istore_n (lv' := [(0, .ref 58), (1, .int x1), (2, .int x2), (3, .int r2)]) (hd := dX9_doPop_7) (i := 3) (hi := rfl) (hn := by decide) (hf := rfl) (hl := rfl) ?_
  refine rn_aload_n (i := 0) (x := 58) dX9_doPop_8 rfl (by simp) ?_
  refine rn_iload_n (i := 1) (x := x1) dX9_doPop_9 rfl (by simp) ?_
  refine rn_iload_n (i := 2) (x := x2) dX9_doPop_10 rfl (by simp) ?_
  refine rn_iconst (v := 1) dX9_doPop_11 rfl ?_
  refine rn_callVi (as := [.int x1, .int x2, .int 1]) (st := []) dX9_doPop_12 mf_X9_third lk_X9_310 im_X9_third rfl rfl rfl rfl (Nat.le_of_ble_eq_true rfl) (Nat.le_of_ble_eq_true rfl) rfl (RI.mono h (fun r4 M3 h => ?_))
  refine rn_istore (lv' := [(0, .ref 58), (1, .int x1), (2, .int x2), (3, .int r2), (4, .int r4)]) (hd := dX9_doPop_15) (hn := by decide) (hf := rfl) (hl := rfl) ?_
  refine rn_aload_n (i := 0) (x := 58) dX9_doPop_17 rfl (by simp) ?_
  refine rn_iload_n (i := 1) (x := x1) dX9_doPop_18 rfl (by simp) ?_
  refine rn_iload_n (i := 2) (x := x2) dX9_doPop_19 rfl (by simp) ?_
  refine rn_iload_n (i := 3) (x := r2) dX9_doPop_20 rfl (by simp) ?_
  refine rn_callSi (as := [.int x1, .int x2, .int r2]) (st := [.ref 58]) dX9_doPop_21 mf_X9_cornerOf lk_X9_297 sm_X9_cornerOf rfl (Nat.le_of_ble_eq_true rfl) (Nat.le_of_ble_eq_true rfl) rfl (RI.mono h (fun r6 M5 h => ?_))
  refine rn_callVv (as := [.int r6]) (st := []) dX9_doPop_24 mf_X9_takeCorner lk_X9_313 im_X9_takeCorner rfl rfl rfl rfl (Nat.le_of_ble_eq_true rfl) (Nat.le_of_ble_eq_true rfl) rfl (RV.mono h (fun M7 h => ?_))
  refine rn_aload_n (i := 0) (x := 58) dX9_doPop_27 rfl (by simp) ?_
  refine rn_iload_n (i := 1) (x := x1) dX9_doPop_28 rfl (by simp) ?_
  refine rn_iload_n (i := 2) (x := x2) dX9_doPop_29 rfl (by simp) ?_
  refine rn_iload (x := r4) dX9_doPop_30 (by simp) ?_
  refine rn_callSi (as := [.int x1, .int x2, .int r4]) (st := [.ref 58]) dX9_doPop_32 mf_X9_cornerOf lk_X9_297 sm_X9_cornerOf rfl (Nat.le_of_ble_eq_true rfl) (Nat.le_of_ble_eq_true rfl) rfl (RI.mono h (fun r9 M8 h => ?_))
  refine rn_callVv (as := [.int r9]) (st := []) dX9_doPop_35 mf_X9_takeCorner lk_X9_313 im_X9_takeCorner rfl rfl rfl rfl (Nat.le_of_ble_eq_true rfl) (Nat.le_of_ble_eq_true rfl) rfl (RV.mono h (fun M10 h => ?_))
  refine rn_iconst (v := 1) dX9_doPop_38 rfl ?_
  refine rn_istore (lv' := [(0, .ref 58), (1, .int x1), (2, .int x2), (3, .int r2), (4, .int r4), (5, .int 1)]) (hd := dX9_doPop_39) (hn := by decide) (hf := rfl) (hl := rfl) ?_
  exact h
set_option maxRecDepth 20000 in
theorem sg_X9_doPop_41 {d : Nat} {x1 : Int32} {x2 : Int32} {x3 : Int32} {x4 : Int32} {x5 : Int32} {M : Mem} {K : (Mem → Prop)}  (h : (if x5 = 0 then (vp_in (14 + x1) 24 ∧ (vp_in (14 + x2) 24 ∧ (CI d μX9_lesser [.int 999, .int ((ri M 69 (nx (14 + x1))) + (ri M 69 (nx (14 + x2))))] M (fun r2 M1 => (vp_in (14 + x1) 24 ∧ ∀ M3, M3 = wi M1 69 (nx (14 + x1)) r2 → (CV d μX9_leave [.ref 58, .int x2] M3 (fun M4 => K M4))))))) else RV (d + 1) μX9_doPop 49 [(0, .ref 58), (1, .int x1), (2, .int x2), (3, .int x3), (4, .int x4), (5, .int x5), (6, .int 0)] [] M K)) : RV (d + 1) μX9_doPop 41 [(0, .ref 58), (1, .int x1), (2, .int x2), (3, .int x3), (4, .int x4), (5, .int x5)] [] M K := by
  show Rn (d + 1) μX9_doPop 41 [(0, .ref 58), (1, .int x1), (2, .int x2), (3, .int x3), (4, .int x4), (5, .int x5)] [] M _
  refine rn_iload (x := x5) dX9_doPop_41 (by simp) ?_
  refine rn_if_eq (tgt := 190) dX9_doPop_43 (by decide) (ite_go h (fun hc h => ?_) (fun hc h => ?_))
  · refine rn_aload_n (i := 0) (x := 58) dX9_doPop_190 rfl (by simp) ?_
    refine rn_getr (t := 69) dX9_doPop_191 rfl gf_X9_45 rfl rfl ?_
    refine rn_bipush (v := 14) dX9_doPop_194 rfl ?_
    refine rn_iload_n (i := 1) (x := x1) dX9_doPop_196 rfl (by simp) ?_
    refine rn_iadd dX9_doPop_197 ?_
    refine rn_sipush (v := 999) dX9_doPop_198 rfl ?_
    refine rn_aload_n (i := 0) (x := 58) dX9_doPop_201 rfl (by simp) ?_
    refine rn_getr (t := 69) dX9_doPop_202 rfl gf_X9_45 rfl rfl ?_
    refine rn_bipush (v := 14) dX9_doPop_205 rfl ?_
    refine rn_iload_n (i := 1) (x := x1) dX9_doPop_207 rfl (by simp) ?_
    refine rn_iadd dX9_doPop_208 ?_
    obtain ⟨hi, h⟩ := h
    refine rn_iaload dX9_doPop_209 rfl hi ?_
    refine rn_aload_n (i := 0) (x := 58) dX9_doPop_210 rfl (by simp) ?_
    refine rn_getr (t := 69) dX9_doPop_211 rfl gf_X9_45 rfl rfl ?_
    refine rn_bipush (v := 14) dX9_doPop_214 rfl ?_
    refine rn_iload_n (i := 2) (x := x2) dX9_doPop_216 rfl (by simp) ?_
    refine rn_iadd dX9_doPop_217 ?_
    obtain ⟨hi, h⟩ := h
    refine rn_iaload dX9_doPop_218 rfl hi ?_
    refine rn_iadd dX9_doPop_219 ?_
    refine rn_callSi (as := [.int 999, .int ((ri M 69 (nx (14 + x1))) + (ri M 69 (nx (14 + x2))))]) (st := [.int (14 + x1), .ref 69]) dX9_doPop_220 mf_X9_lesser lk_X9_290 sm_X9_lesser rfl (Nat.le_of_ble_eq_true rfl) (Nat.le_of_ble_eq_true rfl) rfl (RI.mono h (fun r2 M1 h => ?_))
    obtain ⟨hi, h⟩ := h
    have h := h _ rfl
    refine rn_iastore dX9_doPop_223 rfl hi ?_
    generalize wi M1 69 (nx (14 + x1)) r2 = M3 at h ⊢
    refine rn_aload_n (i := 0) (x := 58) dX9_doPop_224 rfl (by simp) ?_
    refine rn_iload_n (i := 2) (x := x2) dX9_doPop_225 rfl (by simp) ?_
    refine rn_callVv (as := [.int x2]) (st := []) dX9_doPop_226 mf_X9_leave lk_X9_323 im_X9_leave rfl rfl rfl rfl (Nat.le_of_ble_eq_true rfl) (Nat.le_of_ble_eq_true rfl) rfl (RV.mono h (fun M4 h => ?_))
    exact rn_ret dX9_doPop_229 rfl ⟨rfl, h⟩
  · refine rn_iconst (v := 0) dX9_doPop_46 rfl ?_
    refine rn_istore (lv' := [(0, .ref 58), (1, .int x1), (2, .int x2), (3, .int x3), (4, .int x4), (5, .int x5), (6, .int 0)]) (hd := dX9_doPop_47) (hn := by decide) (hf := rfl) (hl := rfl) ?_
    exact h
set_option maxRecDepth 20000 in
theorem sg_X9_doPop_49 {d : Nat} {x1 : Int32} {x2 : Int32} {x3 : Int32} {x4 : Int32} {x5 : Int32} {x6 : Int32} {M : Mem} {K : (Mem → Prop)}  (h : (if ri M 69 (nx 12) ≤ x6 then (if ri M 69 (nx 12) ≤ x6 then RV (d + 1) μX9_doPop 98 [(0, .ref 58), (1, .int x1), (2, .int x2), (3, .int x3), (4, .int x4), (5, .int x5), (6, .int x6)] [.int 0] M K else RV (d + 1) μX9_doPop 98 [(0, .ref 58), (1, .int x1), (2, .int x2), (3, .int x3), (4, .int x4), (5, .int x5), (6, .int x6)] [.int 1] M K) else (vp_in x6 24 ∧ (CI d μX9_has [.int (ri M 69 (nx x6)), .int x2] M (fun r2 M1 => (if r2 = 0 then RV (d + 1) μX9_doPop 49 [(0, .ref 58), (1, .int x1), (2, .int x2), (3, .int x3), (4, .int x4), (5, .int x5), (6, .int (x6 + 1))] [] M1 K else (if ri M1 69 (nx 12) ≤ x6 then RV (d + 1) μX9_doPop 98 [(0, .ref 58), (1, .int x1), (2, .int x2), (3, .int x3), (4, .int x4), (5, .int x5), (6, .int x6)] [.int 0] M1 K else RV (d + 1) μX9_doPop 98 [(0, .ref 58), (1, .int x1), (2, .int x2), (3, .int x3), (4, .int x4), (5, .int x5), (6, .int x6)] [.int 1] M1 K))))))) : RV (d + 1) μX9_doPop 49 [(0, .ref 58), (1, .int x1), (2, .int x2), (3, .int x3), (4, .int x4), (5, .int x5), (6, .int x6)] [] M K := by
  show Rn (d + 1) μX9_doPop 49 [(0, .ref 58), (1, .int x1), (2, .int x2), (3, .int x3), (4, .int x4), (5, .int x5), (6, .int x6)] [] M _
  refine rn_iload (x := x6) dX9_doPop_49 (by simp) ?_
  refine rn_aload_n (i := 0) (x := 58) dX9_doPop_51 rfl (by simp) ?_
  refine rn_getr (t := 69) dX9_doPop_52 rfl gf_X9_45 rfl rfl ?_
  refine rn_bipush (v := 12) dX9_doPop_55 rfl ?_
  refine rn_iaload dX9_doPop_57 rfl (by unfold vp_in; decide) ?_
  refine rn_icmp_ge (tgt := 81) dX9_doPop_58 (by decide) (ite_go h (fun hc h => ?_) (fun hc h => ?_))
  · refine rn_iload (x := x6) dX9_doPop_81 (by simp) ?_
    refine rn_aload_n (i := 0) (x := 58) dX9_doPop_83 rfl (by simp) ?_
    refine rn_getr (t := 69) dX9_doPop_84 rfl gf_X9_45 rfl rfl ?_
    refine rn_bipush (v := 12) dX9_doPop_87 rfl ?_
    refine rn_iaload dX9_doPop_89 rfl (by unfold vp_in; decide) ?_
    refine rn_icmp_ge (tgt := 97) dX9_doPop_90 (by decide) (ite_go h (fun hc h => ?_) (fun hc h => ?_))
    · refine rn_iconst (v := 0) dX9_doPop_97 rfl ?_
      exact h
    · refine rn_iconst (v := 1) dX9_doPop_93 rfl ?_
      refine rn_goto (tgt := 98) dX9_doPop_94 (by decide) ?_
      exact h
  · refine rn_aload_n (i := 0) (x := 58) dX9_doPop_61 rfl (by simp) ?_
    refine rn_getr (t := 69) dX9_doPop_62 rfl gf_X9_45 rfl rfl ?_
    refine rn_iload (x := x6) dX9_doPop_65 (by simp) ?_
    obtain ⟨hi, h⟩ := h
    refine rn_iaload dX9_doPop_67 rfl hi ?_
    refine rn_iload_n (i := 2) (x := x2) dX9_doPop_68 rfl (by simp) ?_
    refine rn_callSi (as := [.int (ri M 69 (nx x6)), .int x2]) (st := []) dX9_doPop_69 mf_X9_has lk_X9_300 sm_X9_has rfl (Nat.le_of_ble_eq_true rfl) (Nat.le_of_ble_eq_true rfl) rfl (RI.mono h (fun r2 M1 h => ?_))
    refine rn_if_ne (tgt := 81) dX9_doPop_72 (by decide) (ite_go h (fun hc h => ?_) (fun hc h => ?_))
    · refine rn_iinc (x := x6) (v := x6 + 1) (lv' := [(0, .ref 58), (1, .int x1), (2, .int x2), (3, .int x3), (4, .int x4), (5, .int x5), (6, .int (x6 + 1))]) dX9_doPop_75 (by simp) rfl (by decide) rfl rfl ?_
      refine rn_goto (tgt := 49) dX9_doPop_78 (by decide) ?_
      exact h
    · refine rn_iload (x := x6) dX9_doPop_81 (by simp) ?_
      refine rn_aload_n (i := 0) (x := 58) dX9_doPop_83 rfl (by simp) ?_
      refine rn_getr (t := 69) dX9_doPop_84 rfl gf_X9_45 rfl rfl ?_
      refine rn_bipush (v := 12) dX9_doPop_87 rfl ?_
      refine rn_iaload dX9_doPop_89 rfl (by unfold vp_in; decide) ?_
      refine rn_icmp_ge (tgt := 97) dX9_doPop_90 (by decide) (ite_go h (fun hc h => ?_) (fun hc h => ?_))
      · refine rn_iconst (v := 0) dX9_doPop_97 rfl ?_
        exact h
      · refine rn_iconst (v := 1) dX9_doPop_93 rfl ?_
        refine rn_goto (tgt := 98) dX9_doPop_94 (by decide) ?_
        exact h
set_option maxRecDepth 20000 in
theorem sg_X9_doPop_98 {d : Nat} {x1 : Int32} {x2 : Int32} {x3 : Int32} {x4 : Int32} {x5 : Int32} {x6 : Int32} {y0 : Int32} {M : Mem} {K : (Mem → Prop)}  (h : (if y0 = 0 then RV (d + 1) μX9_doPop 41 [(0, .ref 58), (1, .int x1), (2, .int x2), (3, .int x3), (4, .int x4), (5, .int y0)] [] M K else (vp_in x6 24 ∧ (CV d μX9_takeCorner [.ref 58, .int (ri M 69 (nx x6))] M (fun M1 => (CI d μX9_lordOf [.int (ri M 69 (nx x6)), .int 0] M1 (fun r3 M2 => (if r3 = x2 then RV (d + 1) μX9_doPop 144 [(0, .ref 58), (1, .int x1), (2, .int x2), (3, .int x3), (4, .int x4), (5, .int y0), (6, .int x6), (7, .int (ri M 69 (nx x6)))] [.int x1, .ref 58] M2 K else (CI d μX9_lordOf [.int (ri M 69 (nx x6)), .int 0] M2 (fun r5 M4 => RV (d + 1) μX9_doPop 144 [(0, .ref 58), (1, .int x1), (2, .int x2), (3, .int x3), (4, .int x4), (5, .int y0), (6, .int x6), (7, .int (ri M 69 (nx x6)))] [.int r5, .ref 58] M4 K)))))))))) : RV (d + 1) μX9_doPop 98 [(0, .ref 58), (1, .int x1), (2, .int x2), (3, .int x3), (4, .int x4), (5, .int x5), (6, .int x6)] [.int y0] M K := by
  show Rn (d + 1) μX9_doPop 98 [(0, .ref 58), (1, .int x1), (2, .int x2), (3, .int x3), (4, .int x4), (5, .int x5), (6, .int x6)] [.int y0] M _
  refine rn_istore (lv' := [(0, .ref 58), (1, .int x1), (2, .int x2), (3, .int x3), (4, .int x4), (5, .int y0), (6, .int x6)]) (hd := dX9_doPop_98) (hn := by decide) (hf := rfl) (hl := rfl) ?_
  refine rn_iload (x := y0) dX9_doPop_100 (by simp) ?_
  refine rn_if_ne (tgt := 108) dX9_doPop_102 (by decide) (ite_go h (fun hc h => ?_) (fun hc h => ?_))
  · refine rn_goto (tgt := 41) dX9_doPop_105 (by decide) ?_
    refine Rn.sub (lv' := [(0, .ref 58), (1, .int x1), (2, .int x2), (3, .int x3), (4, .int x4), (5, .int y0)]) (by simp) ?_
    exact h
  · refine rn_aload_n (i := 0) (x := 58) dX9_doPop_108 rfl (by simp) ?_
    refine rn_getr (t := 69) dX9_doPop_109 rfl gf_X9_45 rfl rfl ?_
    refine rn_iload (x := x6) dX9_doPop_112 (by simp) ?_
    obtain ⟨hi, h⟩ := h
    refine rn_iaload dX9_doPop_114 rfl hi ?_
    refine rn_istore (lv' := [(0, .ref 58), (1, .int x1), (2, .int x2), (3, .int x3), (4, .int x4), (5, .int y0), (6, .int x6), (7, .int (ri M 69 (nx x6)))]) (hd := dX9_doPop_115) (hn := by decide) (hf := rfl) (hl := rfl) ?_
    refine rn_aload_n (i := 0) (x := 58) dX9_doPop_117 rfl (by simp) ?_
    refine rn_iload (x := ri M 69 (nx x6)) dX9_doPop_118 (by simp) ?_
    refine rn_callVv (as := [.int (ri M 69 (nx x6))]) (st := []) dX9_doPop_120 mf_X9_takeCorner lk_X9_313 im_X9_takeCorner rfl rfl rfl rfl (Nat.le_of_ble_eq_true rfl) (Nat.le_of_ble_eq_true rfl) rfl (RV.mono h (fun M1 h => ?_))
    refine rn_aload_n (i := 0) (x := 58) dX9_doPop_123 rfl (by simp) ?_
    refine rn_iload (x := ri M 69 (nx x6)) dX9_doPop_124 (by simp) ?_
    refine rn_iconst (v := 0) dX9_doPop_126 rfl ?_
    refine rn_callSi (as := [.int (ri M 69 (nx x6)), .int 0]) (st := [.ref 58]) dX9_doPop_127 mf_X9_lordOf lk_X9_320 sm_X9_lordOf rfl (Nat.le_of_ble_eq_true rfl) (Nat.le_of_ble_eq_true rfl) rfl (RI.mono h (fun r3 M2 h => ?_))
    refine rn_iload_n (i := 2) (x := x2) dX9_doPop_130 rfl (by simp) ?_
    refine rn_icmp_ne (tgt := 138) dX9_doPop_131 (by decide) (ite_go h (fun hc h => ?_) (fun hc h => ?_))
    · refine rn_iload_n (i := 1) (x := x1) dX9_doPop_134 rfl (by simp) ?_
      refine rn_goto (tgt := 144) dX9_doPop_135 (by decide) ?_
      exact h
    · refine rn_iload (x := ri M 69 (nx x6)) dX9_doPop_138 (by simp) ?_
      refine rn_iconst (v := 0) dX9_doPop_140 rfl ?_
      refine rn_callSi (as := [.int (ri M 69 (nx x6)), .int 0]) (st := [.ref 58]) dX9_doPop_141 mf_X9_lordOf lk_X9_320 sm_X9_lordOf rfl (Nat.le_of_ble_eq_true rfl) (Nat.le_of_ble_eq_true rfl) rfl (RI.mono h (fun r5 M4 h => ?_))
      exact h
set_option maxRecDepth 20000 in
theorem sg_X9_doPop_144 {d : Nat} {x1 : Int32} {x2 : Int32} {x3 : Int32} {x4 : Int32} {x5 : Int32} {x6 : Int32} {x7 : Int32} {y1 : Int32} {M : Mem} {K : (Mem → Prop)}  (h : (CI d μX9_lordOf [.int x7, .int 1] M (fun r2 M1 => (if r2 = x2 then RV (d + 1) μX9_doPop 164 [(0, .ref 58), (1, .int x1), (2, .int x2), (3, .int x3), (4, .int x4), (5, .int x5), (6, .int x6), (7, .int x7)] [.int x1, .int y1, .ref 58] M1 K else (CI d μX9_lordOf [.int x7, .int 1] M1 (fun r4 M3 => RV (d + 1) μX9_doPop 164 [(0, .ref 58), (1, .int x1), (2, .int x2), (3, .int x3), (4, .int x4), (5, .int x5), (6, .int x6), (7, .int x7)] [.int r4, .int y1, .ref 58] M3 K)))))) : RV (d + 1) μX9_doPop 144 [(0, .ref 58), (1, .int x1), (2, .int x2), (3, .int x3), (4, .int x4), (5, .int x5), (6, .int x6), (7, .int x7)] [.int y1, .ref 58] M K := by
  show Rn (d + 1) μX9_doPop 144 [(0, .ref 58), (1, .int x1), (2, .int x2), (3, .int x3), (4, .int x4), (5, .int x5), (6, .int x6), (7, .int x7)] [.int y1, .ref 58] M _
  refine rn_iload (x := x7) dX9_doPop_144 (by simp) ?_
  refine rn_iconst (v := 1) dX9_doPop_146 rfl ?_
  refine rn_callSi (as := [.int x7, .int 1]) (st := [.int y1, .ref 58]) dX9_doPop_147 mf_X9_lordOf lk_X9_320 sm_X9_lordOf rfl (Nat.le_of_ble_eq_true rfl) (Nat.le_of_ble_eq_true rfl) rfl (RI.mono h (fun r2 M1 h => ?_))
  refine rn_iload_n (i := 2) (x := x2) dX9_doPop_150 rfl (by simp) ?_
  refine rn_icmp_ne (tgt := 158) dX9_doPop_151 (by decide) (ite_go h (fun hc h => ?_) (fun hc h => ?_))
  · refine rn_iload_n (i := 1) (x := x1) dX9_doPop_154 rfl (by simp) ?_
    refine rn_goto (tgt := 164) dX9_doPop_155 (by decide) ?_
    exact h
  · refine rn_iload (x := x7) dX9_doPop_158 (by simp) ?_
    refine rn_iconst (v := 1) dX9_doPop_160 rfl ?_
    refine rn_callSi (as := [.int x7, .int 1]) (st := [.int y1, .ref 58]) dX9_doPop_161 mf_X9_lordOf lk_X9_320 sm_X9_lordOf rfl (Nat.le_of_ble_eq_true rfl) (Nat.le_of_ble_eq_true rfl) rfl (RI.mono h (fun r4 M3 h => ?_))
    exact h
set_option maxRecDepth 20000 in
theorem sg_X9_doPop_164 {d : Nat} {x1 : Int32} {x2 : Int32} {x3 : Int32} {x4 : Int32} {x5 : Int32} {x6 : Int32} {x7 : Int32} {y1 : Int32} {y2 : Int32} {M : Mem} {K : (Mem → Prop)}  (h : (CI d μX9_lordOf [.int x7, .int 2] M (fun r2 M1 => (if r2 = x2 then (CV d μX9_addCorner [.ref 58, .int y1, .int y2, .int x1] M1 (fun M3 => RV (d + 1) μX9_doPop 41 [(0, .ref 58), (1, .int x1), (2, .int x2), (3, .int x3), (4, .int x4), (5, .int x5)] [] M3 K)) else (CI d μX9_lordOf [.int x7, .int 2] M1 (fun r5 M4 => (CV d μX9_addCorner [.ref 58, .int y1, .int y2, .int r5] M4 (fun M6 => RV (d + 1) μX9_doPop 41 [(0, .ref 58), (1, .int x1), (2, .int x2), (3, .int x3), (4, .int x4), (5, .int x5)] [] M6 K)))))))) : RV (d + 1) μX9_doPop 164 [(0, .ref 58), (1, .int x1), (2, .int x2), (3, .int x3), (4, .int x4), (5, .int x5), (6, .int x6), (7, .int x7)] [.int y2, .int y1, .ref 58] M K := by
  show Rn (d + 1) μX9_doPop 164 [(0, .ref 58), (1, .int x1), (2, .int x2), (3, .int x3), (4, .int x4), (5, .int x5), (6, .int x6), (7, .int x7)] [.int y2, .int y1, .ref 58] M _
  refine rn_iload (x := x7) dX9_doPop_164 (by simp) ?_
  refine rn_iconst (v := 2) dX9_doPop_166 rfl ?_
  refine rn_callSi (as := [.int x7, .int 2]) (st := [.int y2, .int y1, .ref 58]) dX9_doPop_167 mf_X9_lordOf lk_X9_320 sm_X9_lordOf rfl (Nat.le_of_ble_eq_true rfl) (Nat.le_of_ble_eq_true rfl) rfl (RI.mono h (fun r2 M1 h => ?_))
  refine rn_iload_n (i := 2) (x := x2) dX9_doPop_170 rfl (by simp) ?_
  refine rn_icmp_ne (tgt := 178) dX9_doPop_171 (by decide) (ite_go h (fun hc h => ?_) (fun hc h => ?_))
  · refine rn_iload_n (i := 1) (x := x1) dX9_doPop_174 rfl (by simp) ?_
    refine rn_goto (tgt := 184) dX9_doPop_175 (by decide) ?_
    refine rn_callVv (as := [.int y1, .int y2, .int x1]) (st := []) dX9_doPop_184 mf_X9_addCorner lk_X9_316 im_X9_addCorner rfl rfl rfl rfl (Nat.le_of_ble_eq_true rfl) (Nat.le_of_ble_eq_true rfl) rfl (RV.mono h (fun M3 h => ?_))
    refine rn_goto (tgt := 41) dX9_doPop_187 (by decide) ?_
    refine Rn.sub (lv' := [(0, .ref 58), (1, .int x1), (2, .int x2), (3, .int x3), (4, .int x4), (5, .int x5)]) (by simp) ?_
    exact h
  · refine rn_iload (x := x7) dX9_doPop_178 (by simp) ?_
    refine rn_iconst (v := 2) dX9_doPop_180 rfl ?_
    refine rn_callSi (as := [.int x7, .int 2]) (st := [.int y2, .int y1, .ref 58]) dX9_doPop_181 mf_X9_lordOf lk_X9_320 sm_X9_lordOf rfl (Nat.le_of_ble_eq_true rfl) (Nat.le_of_ble_eq_true rfl) rfl (RI.mono h (fun r5 M4 h => ?_))
    refine rn_callVv (as := [.int y1, .int y2, .int r5]) (st := []) dX9_doPop_184 mf_X9_addCorner lk_X9_316 im_X9_addCorner rfl rfl rfl rfl (Nat.le_of_ble_eq_true rfl) (Nat.le_of_ble_eq_true rfl) rfl (RV.mono h (fun M6 h => ?_))
    refine rn_goto (tgt := 41) dX9_doPop_187 (by decide) ?_
    refine Rn.sub (lv' := [(0, .ref 58), (1, .int x1), (2, .int x2), (3, .int x3), (4, .int x4), (5, .int x5)]) (by simp) ?_
    exact h
theorem dX9_leave_0 : decode μX9_leave.2.1 0 = .ok (.aload_n 0, 1) := by decide +kernel
theorem dX9_leave_1 : decode μX9_leave.2.1 1 = .ok (.getfield 45, 3) := by decide +kernel
theorem dX9_leave_4 : decode μX9_leave.2.1 4 = .ok (.bipush 13, 2) := by decide +kernel
theorem dX9_leave_6 : decode μX9_leave.2.1 6 = .ok (.dup2, 1) := by decide +kernel
theorem dX9_leave_7 : decode μX9_leave.2.1 7 = .ok (.iaload, 1) := by decide +kernel
theorem dX9_leave_8 : decode μX9_leave.2.1 8 = .ok (.iconst 1, 1) := by decide +kernel
theorem dX9_leave_9 : decode μX9_leave.2.1 9 = .ok (.iload_n 1, 1) := by decide +kernel
theorem dX9_leave_10 : decode μX9_leave.2.1 10 = .ok (.ishl, 1) := by decide +kernel
theorem dX9_leave_11 : decode μX9_leave.2.1 11 = .ok (.iconst (-1), 1) := by decide +kernel
theorem dX9_leave_12 : decode μX9_leave.2.1 12 = .ok (.ixor, 1) := by decide +kernel
theorem dX9_leave_13 : decode μX9_leave.2.1 13 = .ok (.iand, 1) := by decide +kernel
theorem dX9_leave_14 : decode μX9_leave.2.1 14 = .ok (.iastore, 1) := by decide +kernel
theorem dX9_leave_15 : decode μX9_leave.2.1 15 = .ok (.aload_n 0, 1) := by decide +kernel
theorem dX9_leave_16 : decode μX9_leave.2.1 16 = .ok (.getfield 45, 3) := by decide +kernel
theorem dX9_leave_19 : decode μX9_leave.2.1 19 = .ok (.bipush 14, 2) := by decide +kernel
theorem dX9_leave_21 : decode μX9_leave.2.1 21 = .ok (.iload_n 1, 1) := by decide +kernel
theorem dX9_leave_22 : decode μX9_leave.2.1 22 = .ok (.iadd, 1) := by decide +kernel
theorem dX9_leave_23 : decode μX9_leave.2.1 23 = .ok (.iconst 0, 1) := by decide +kernel
theorem dX9_leave_24 : decode μX9_leave.2.1 24 = .ok (.iastore, 1) := by decide +kernel
theorem dX9_leave_25 : decode μX9_leave.2.1 25 = .ok (.return_, 1) := by decide +kernel
set_option maxRecDepth 20000 in
theorem sg_X9_leave_0 {d : Nat} {x1 : Int32} {M : Mem} {K : (Mem → Prop)}  (h : (∀ M1, M1 = wi M 69 (nx 13) ((ri M 69 (nx 13)) &&& (((1 : Int32) <<< (x1 &&& 31)) ^^^ ((-1)))) → (vp_in (14 + x1) 24 ∧ ∀ M2, M2 = wi M1 69 (nx (14 + x1)) 0 → K M2))) : CV d μX9_leave [.ref 58, .int x1] M K := by
  show Rn d μX9_leave 0 [(0, .ref 58), (1, .int x1)] [] M _
  refine rn_aload_n (i := 0) (x := 58) dX9_leave_0 rfl (by simp) ?_
  refine rn_getr (t := 69) dX9_leave_1 rfl gf_X9_45 rfl rfl ?_
  refine rn_bipush (v := 13) dX9_leave_4 rfl ?_
  refine rn_dup2 dX9_leave_6 rfl rfl ?_
  refine rn_iaload dX9_leave_7 rfl (by unfold vp_in; decide) ?_
  refine rn_iconst (v := 1) dX9_leave_8 rfl ?_
  refine rn_iload_n (i := 1) (x := x1) dX9_leave_9 rfl (by simp) ?_
  refine rn_ishl dX9_leave_10 ?_
  refine rn_iconst (v := -1) dX9_leave_11 rfl ?_
  refine rn_ixor dX9_leave_12 ?_
  refine rn_iand dX9_leave_13 ?_
  have h := h _ rfl
  refine rn_iastore dX9_leave_14 rfl (by unfold vp_in; decide) ?_
  generalize wi M 69 (nx 13) ((ri M 69 (nx 13)) &&& (((1 : Int32) <<< (x1 &&& 31)) ^^^ ((-1)))) = M1 at h ⊢
  refine rn_aload_n (i := 0) (x := 58) dX9_leave_15 rfl (by simp) ?_
  refine rn_getr (t := 69) dX9_leave_16 rfl gf_X9_45 rfl rfl ?_
  refine rn_bipush (v := 14) dX9_leave_19 rfl ?_
  refine rn_iload_n (i := 1) (x := x1) dX9_leave_21 rfl (by simp) ?_
  refine rn_iadd dX9_leave_22 ?_
  refine rn_iconst (v := 0) dX9_leave_23 rfl ?_
  obtain ⟨hi, h⟩ := h
  have h := h _ rfl
  refine rn_iastore dX9_leave_24 rfl hi ?_
  generalize wi M1 69 (nx (14 + x1)) 0 = M2 at h ⊢
  exact rn_ret dX9_leave_25 rfl ⟨rfl, h⟩
theorem dX9_canVanish_0 : decode μX9_canVanish.2.1 0 = .ok (.aload_n 0, 1) := by decide +kernel
theorem dX9_canVanish_1 : decode μX9_canVanish.2.1 1 = .ok (.iload_n 1, 1) := by decide +kernel
theorem dX9_canVanish_2 : decode μX9_canVanish.2.1 2 = .ok (.invokevirtual 265, 3) := by decide +kernel
theorem dX9_canVanish_5 : decode μX9_canVanish.2.1 5 = .ok (.iconst 3, 1) := by decide +kernel
theorem dX9_canVanish_6 : decode μX9_canVanish.2.1 6 = .ok (.if_icmp .ne 33, 3) := by decide +kernel
theorem dX9_canVanish_9 : decode μX9_canVanish.2.1 9 = .ok (.aload_n 0, 1) := by decide +kernel
theorem dX9_canVanish_10 : decode μX9_canVanish.2.1 10 = .ok (.iload_n 1, 1) := by decide +kernel
theorem dX9_canVanish_11 : decode μX9_canVanish.2.1 11 = .ok (.invokevirtual 268, 3) := by decide +kernel
theorem dX9_canVanish_14 : decode μX9_canVanish.2.1 14 = .ok (.invokestatic 274, 3) := by decide +kernel
theorem dX9_canVanish_17 : decode μX9_canVanish.2.1 17 = .ok (.iconst 3, 1) := by decide +kernel
theorem dX9_canVanish_18 : decode μX9_canVanish.2.1 18 = .ok (.if_icmp .ne 21, 3) := by decide +kernel
theorem dX9_canVanish_21 : decode μX9_canVanish.2.1 21 = .ok (.aload_n 0, 1) := by decide +kernel
theorem dX9_canVanish_22 : decode μX9_canVanish.2.1 22 = .ok (.getfield 45, 3) := by decide +kernel
theorem dX9_canVanish_25 : decode μX9_canVanish.2.1 25 = .ok (.bipush 13, 2) := by decide +kernel
theorem dX9_canVanish_27 : decode μX9_canVanish.2.1 27 = .ok (.iaload, 1) := by decide +kernel
theorem dX9_canVanish_28 : decode μX9_canVanish.2.1 28 = .ok (.invokestatic 274, 3) := by decide +kernel
theorem dX9_canVanish_31 : decode μX9_canVanish.2.1 31 = .ok (.iconst 3, 1) := by decide +kernel
theorem dX9_canVanish_32 : decode μX9_canVanish.2.1 32 = .ok (.if_icmp .le 7, 3) := by decide +kernel
theorem dX9_canVanish_35 : decode μX9_canVanish.2.1 35 = .ok (.iconst 1, 1) := by decide +kernel
theorem dX9_canVanish_36 : decode μX9_canVanish.2.1 36 = .ok (.goto 4, 3) := by decide +kernel
theorem dX9_canVanish_39 : decode μX9_canVanish.2.1 39 = .ok (.iconst 0, 1) := by decide +kernel
theorem dX9_canVanish_40 : decode μX9_canVanish.2.1 40 = .ok (.ireturn, 1) := by decide +kernel
set_option maxRecDepth 20000 in
theorem sg_X9_canVanish_0 {d : Nat} {x1 : Int32} {M : Mem} {K : (Int32 → Mem → Prop)}  (h : (CI d μX9_sidesOf [.ref 58, .int x1] M (fun r2 M1 => (if r2 = 3 then (CI d μX9_bordersOf [.ref 58, .int x1] M1 (fun r4 M3 => (CI d μX9_members [.int r4] M3 (fun r6 M5 => (if r6 = 3 then (CI d μX9_members [.int (ri M5 69 (nx 13))] M5 (fun r8 M7 => (if r8 ≤ 3 then K 0 M7 else K 1 M7))) else K 0 M5))))) else K 0 M1)))) : CI (d + 1) μX9_canVanish [.ref 58, .int x1] M K := by
  show Rn (d + 1) μX9_canVanish 0 [(0, .ref 58), (1, .int x1)] [] M _
  refine rn_aload_n (i := 0) (x := 58) dX9_canVanish_0 rfl (by simp) ?_
  refine rn_iload_n (i := 1) (x := x1) dX9_canVanish_1 rfl (by simp) ?_
  refine rn_callVi (as := [.int x1]) (st := []) dX9_canVanish_2 mf_X9_sidesOf lk_X9_265 im_X9_sidesOf rfl rfl rfl rfl (Nat.le_of_ble_eq_true rfl) (Nat.le_of_ble_eq_true rfl) rfl (RI.mono h (fun r2 M1 h => ?_))
  refine rn_iconst (v := 3) dX9_canVanish_5 rfl ?_
  refine rn_icmp_ne (tgt := 39) dX9_canVanish_6 (by decide) (ite_go h (fun hc h => ?_) (fun hc h => ?_))
  · refine rn_aload_n (i := 0) (x := 58) dX9_canVanish_9 rfl (by simp) ?_
    refine rn_iload_n (i := 1) (x := x1) dX9_canVanish_10 rfl (by simp) ?_
    refine rn_callVi (as := [.int x1]) (st := []) dX9_canVanish_11 mf_X9_bordersOf lk_X9_268 im_X9_bordersOf rfl rfl rfl rfl (Nat.le_of_ble_eq_true rfl) (Nat.le_of_ble_eq_true rfl) rfl (RI.mono h (fun r4 M3 h => ?_))
    refine rn_callSi (as := [.int r4]) (st := []) dX9_canVanish_14 mf_X9_members lk_X9_274 sm_X9_members rfl (Nat.le_of_ble_eq_true rfl) (Nat.le_of_ble_eq_true rfl) rfl (RI.mono h (fun r6 M5 h => ?_))
    refine rn_iconst (v := 3) dX9_canVanish_17 rfl ?_
    refine rn_icmp_ne (tgt := 39) dX9_canVanish_18 (by decide) (ite_go h (fun hc h => ?_) (fun hc h => ?_))
    · refine rn_aload_n (i := 0) (x := 58) dX9_canVanish_21 rfl (by simp) ?_
      refine rn_getr (t := 69) dX9_canVanish_22 rfl gf_X9_45 rfl rfl ?_
      refine rn_bipush (v := 13) dX9_canVanish_25 rfl ?_
      refine rn_iaload dX9_canVanish_27 rfl (by unfold vp_in; decide) ?_
      refine rn_callSi (as := [.int (ri M5 69 (nx 13))]) (st := []) dX9_canVanish_28 mf_X9_members lk_X9_274 sm_X9_members rfl (Nat.le_of_ble_eq_true rfl) (Nat.le_of_ble_eq_true rfl) rfl (RI.mono h (fun r8 M7 h => ?_))
      refine rn_iconst (v := 3) dX9_canVanish_31 rfl ?_
      refine rn_icmp_le (tgt := 39) dX9_canVanish_32 (by decide) (ite_go h (fun hc h => ?_) (fun hc h => ?_))
      · refine rn_iconst (v := 0) dX9_canVanish_39 rfl ?_
        exact rn_zret dX9_canVanish_40 rfl (by decide) ⟨_, rfl, h⟩
      · refine rn_iconst (v := 1) dX9_canVanish_35 rfl ?_
        refine rn_goto (tgt := 40) dX9_canVanish_36 (by decide) ?_
        exact rn_zret dX9_canVanish_40 rfl (by decide) ⟨_, rfl, h⟩
    · refine rn_iconst (v := 0) dX9_canVanish_39 rfl ?_
      exact rn_zret dX9_canVanish_40 rfl (by decide) ⟨_, rfl, h⟩
  · refine rn_iconst (v := 0) dX9_canVanish_39 rfl ?_
    exact rn_zret dX9_canVanish_40 rfl (by decide) ⟨_, rfl, h⟩
