theorem dX2_canMerge_0 : decode μX2_canMerge.2.1 0 = .ok (.aload_n 0, 1) := by decide +kernel
theorem dX2_canMerge_1 : decode μX2_canMerge.2.1 1 = .ok (.iload_n 1, 1) := by decide +kernel
theorem dX2_canMerge_2 : decode μX2_canMerge.2.1 2 = .ok (.iload_n 2, 1) := by decide +kernel
theorem dX2_canMerge_3 : decode μX2_canMerge.2.1 3 = .ok (.invokevirtual 69, 3) := by decide +kernel
theorem dX2_canMerge_6 : decode μX2_canMerge.2.1 6 = .ok (.ifCond .eq 35, 3) := by decide +kernel
theorem dX2_canMerge_9 : decode μX2_canMerge.2.1 9 = .ok (.aload_n 0, 1) := by decide +kernel
theorem dX2_canMerge_10 : decode μX2_canMerge.2.1 10 = .ok (.invokevirtual 82, 3) := by decide +kernel
theorem dX2_canMerge_13 : decode μX2_canMerge.2.1 13 = .ok (.iconst 3, 1) := by decide +kernel
theorem dX2_canMerge_14 : decode μX2_canMerge.2.1 14 = .ok (.if_icmp .le 27, 3) := by decide +kernel
theorem dX2_canMerge_17 : decode μX2_canMerge.2.1 17 = .ok (.aload_n 0, 1) := by decide +kernel
theorem dX2_canMerge_18 : decode μX2_canMerge.2.1 18 = .ok (.getfield 34, 3) := by decide +kernel
theorem dX2_canMerge_21 : decode μX2_canMerge.2.1 21 = .ok (.iload_n 1, 1) := by decide +kernel
theorem dX2_canMerge_22 : decode μX2_canMerge.2.1 22 = .ok (.iaload, 1) := by decide +kernel
theorem dX2_canMerge_23 : decode μX2_canMerge.2.1 23 = .ok (.aload_n 0, 1) := by decide +kernel
theorem dX2_canMerge_24 : decode μX2_canMerge.2.1 24 = .ok (.getfield 34, 3) := by decide +kernel
theorem dX2_canMerge_27 : decode μX2_canMerge.2.1 27 = .ok (.iload_n 2, 1) := by decide +kernel
theorem dX2_canMerge_28 : decode μX2_canMerge.2.1 28 = .ok (.iaload, 1) := by decide +kernel
theorem dX2_canMerge_29 : decode μX2_canMerge.2.1 29 = .ok (.iand, 1) := by decide +kernel
theorem dX2_canMerge_30 : decode μX2_canMerge.2.1 30 = .ok (.invokestatic 52, 3) := by decide +kernel
theorem dX2_canMerge_33 : decode μX2_canMerge.2.1 33 = .ok (.iconst 2, 1) := by decide +kernel
theorem dX2_canMerge_34 : decode μX2_canMerge.2.1 34 = .ok (.if_icmp .ne 7, 3) := by decide +kernel
theorem dX2_canMerge_37 : decode μX2_canMerge.2.1 37 = .ok (.iconst 1, 1) := by decide +kernel
theorem dX2_canMerge_38 : decode μX2_canMerge.2.1 38 = .ok (.goto 4, 3) := by decide +kernel
theorem dX2_canMerge_41 : decode μX2_canMerge.2.1 41 = .ok (.iconst 0, 1) := by decide +kernel
theorem dX2_canMerge_42 : decode μX2_canMerge.2.1 42 = .ok (.ireturn, 1) := by decide +kernel
set_option maxRecDepth 20000 in
theorem sg_X2_canMerge_0 {d : Nat} {o : Nat} {x1 : Int32} {x2 : Int32} {M : Mem} {K : (Int32 → Mem → Prop)} (ho : kd o = (0, 2)) (h : (CI d μX2_meets [.ref o, .int x1, .int x2] M (fun r2 M1 => (if r2 = 0 then K 0 M1 else (CI d μX2_howManyThere [.ref o] M1 (fun r4 M3 => (if r4 ≤ 3 then K 0 M3 else (vp_in x1 8 ∧ (vp_in x2 8 ∧ (CI d μJ6_bitCount_0f7a4 [.int ((ri M3 (o + 3) (nx x1)) &&& (ri M3 (o + 3) (nx x2)))] M3 (fun r6 M5 => (if r6 = 2 then K 1 M5 else K 0 M5)))))))))))) : CI (d + 1) μX2_canMerge [.ref o, .int x1, .int x2] M K := by
  show Rn (d + 1) μX2_canMerge 0 [(0, .ref o), (1, .int x1), (2, .int x2)] [] M _
  refine rn_aload_n (i := 0) (x := o) dX2_canMerge_0 rfl (by simp) ?_
  refine rn_iload_n (i := 1) (x := x1) dX2_canMerge_1 rfl (by simp) ?_
  refine rn_iload_n (i := 2) (x := x2) dX2_canMerge_2 rfl (by simp) ?_
  refine rn_callVi (as := [.int x1, .int x2]) (st := []) dX2_canMerge_3 mf_X2_meets lk_X2_69 im_X2_meets ho rfl rfl rfl (Nat.le_of_ble_eq_true rfl) (Nat.le_of_ble_eq_true rfl) rfl (RI.mono h (fun r2 M1 h => ?_))
  refine rn_if_eq (tgt := 41) dX2_canMerge_6 (by decide) (ite_go h (fun hc h => ?_) (fun hc h => ?_))
  · refine rn_iconst (v := 0) dX2_canMerge_41 rfl ?_
    exact rn_zret dX2_canMerge_42 rfl (by decide) ⟨_, rfl, h⟩
  · refine rn_aload_n (i := 0) (x := o) dX2_canMerge_9 rfl (by simp) ?_
    refine rn_callVi (as := []) (st := []) dX2_canMerge_10 mf_X2_howManyThere lk_X2_82 im_X2_howManyThere ho rfl rfl rfl (Nat.le_of_ble_eq_true rfl) (Nat.le_of_ble_eq_true rfl) rfl (RI.mono h (fun r4 M3 h => ?_))
    refine rn_iconst (v := 3) dX2_canMerge_13 rfl ?_
    refine rn_icmp_le (tgt := 41) dX2_canMerge_14 (by decide) (ite_go h (fun hc h => ?_) (fun hc h => ?_))
    · refine rn_iconst (v := 0) dX2_canMerge_41 rfl ?_
      exact rn_zret dX2_canMerge_42 rfl (by decide) ⟨_, rfl, h⟩
    · refine rn_aload_n (i := 0) (x := o) dX2_canMerge_17 rfl (by simp) ?_
      refine rn_getr (t := o + 3) dX2_canMerge_18 ho gf_X2_34 rfl (froth_refs _ ho).2.2.1.1 ?_
      refine rn_iload_n (i := 1) (x := x1) dX2_canMerge_21 rfl (by simp) ?_
      obtain ⟨hi, h⟩ := h
      refine rn_iaload dX2_canMerge_22 (froth_refs _ ho).2.2.1.2 hi ?_
      refine rn_aload_n (i := 0) (x := o) dX2_canMerge_23 rfl (by simp) ?_
      refine rn_getr (t := o + 3) dX2_canMerge_24 ho gf_X2_34 rfl (froth_refs _ ho).2.2.1.1 ?_
      refine rn_iload_n (i := 2) (x := x2) dX2_canMerge_27 rfl (by simp) ?_
      obtain ⟨hi, h⟩ := h
      refine rn_iaload dX2_canMerge_28 (froth_refs _ ho).2.2.1.2 hi ?_
      refine rn_iand dX2_canMerge_29 ?_
      refine rn_callSi (as := [.int ((ri M3 (o + 3) (nx x1)) &&& (ri M3 (o + 3) (nx x2)))]) (st := []) dX2_canMerge_30 mf_J6_bitCount_0f7a4 lk_X2_52 sm_J6_bitCount_0f7a4 rfl (Nat.le_of_ble_eq_true rfl) (Nat.le_of_ble_eq_true rfl) rfl (RI.mono h (fun r6 M5 h => ?_))
      refine rn_iconst (v := 2) dX2_canMerge_33 rfl ?_
      refine rn_icmp_ne (tgt := 41) dX2_canMerge_34 (by decide) (ite_go h (fun hc h => ?_) (fun hc h => ?_))
      · refine rn_iconst (v := 1) dX2_canMerge_37 rfl ?_
        refine rn_goto (tgt := 42) dX2_canMerge_38 (by decide) ?_
        exact rn_zret dX2_canMerge_42 rfl (by decide) ⟨_, rfl, h⟩
      · refine rn_iconst (v := 0) dX2_canMerge_41 rfl ?_
        exact rn_zret dX2_canMerge_42 rfl (by decide) ⟨_, rfl, h⟩
theorem dX2_merge_0 : decode μX2_merge.2.1 0 = .ok (.aload_n 0, 1) := by decide +kernel
theorem dX2_merge_1 : decode μX2_merge.2.1 1 = .ok (.iload_n 1, 1) := by decide +kernel
theorem dX2_merge_2 : decode μX2_merge.2.1 2 = .ok (.iload_n 2, 1) := by decide +kernel
theorem dX2_merge_3 : decode μX2_merge.2.1 3 = .ok (.invokevirtual 86, 3) := by decide +kernel
theorem dX2_merge_6 : decode μX2_merge.2.1 6 = .ok (.ifCond .ne 5, 3) := by decide +kernel
theorem dX2_merge_9 : decode μX2_merge.2.1 9 = .ok (.iconst 0, 1) := by decide +kernel
theorem dX2_merge_10 : decode μX2_merge.2.1 10 = .ok (.ireturn, 1) := by decide +kernel
theorem dX2_merge_11 : decode μX2_merge.2.1 11 = .ok (.aload_n 0, 1) := by decide +kernel
theorem dX2_merge_12 : decode μX2_merge.2.1 12 = .ok (.iconst 1, 1) := by decide +kernel
theorem dX2_merge_13 : decode μX2_merge.2.1 13 = .ok (.iload_n 1, 1) := by decide +kernel
theorem dX2_merge_14 : decode μX2_merge.2.1 14 = .ok (.ishl, 1) := by decide +kernel
theorem dX2_merge_15 : decode μX2_merge.2.1 15 = .ok (.iconst 1, 1) := by decide +kernel
theorem dX2_merge_16 : decode μX2_merge.2.1 16 = .ok (.iload_n 2, 1) := by decide +kernel
theorem dX2_merge_17 : decode μX2_merge.2.1 17 = .ok (.ishl, 1) := by decide +kernel
theorem dX2_merge_18 : decode μX2_merge.2.1 18 = .ok (.ior, 1) := by decide +kernel
theorem dX2_merge_19 : decode μX2_merge.2.1 19 = .ok (.invokevirtual 79, 3) := by decide +kernel
theorem dX2_merge_22 : decode μX2_merge.2.1 22 = .ok (.iconst 0, 1) := by decide +kernel
theorem dX2_merge_23 : decode μX2_merge.2.1 23 = .ok (.istore_n 3, 1) := by decide +kernel
theorem dX2_merge_24 : decode μX2_merge.2.1 24 = .ok (.iload_n 3, 1) := by decide +kernel
theorem dX2_merge_25 : decode μX2_merge.2.1 25 = .ok (.aload_n 0, 1) := by decide +kernel
theorem dX2_merge_26 : decode μX2_merge.2.1 26 = .ok (.getfield 24, 3) := by decide +kernel
theorem dX2_merge_29 : decode μX2_merge.2.1 29 = .ok (.if_icmp .ge 45, 3) := by decide +kernel
theorem dX2_merge_32 : decode μX2_merge.2.1 32 = .ok (.aload_n 0, 1) := by decide +kernel
theorem dX2_merge_33 : decode μX2_merge.2.1 33 = .ok (.getfield 31, 3) := by decide +kernel
theorem dX2_merge_36 : decode μX2_merge.2.1 36 = .ok (.iload_n 3, 1) := by decide +kernel
theorem dX2_merge_37 : decode μX2_merge.2.1 37 = .ok (.iaload, 1) := by decide +kernel
theorem dX2_merge_38 : decode μX2_merge.2.1 38 = .ok (.iload_n 2, 1) := by decide +kernel
theorem dX2_merge_39 : decode μX2_merge.2.1 39 = .ok (.ishr, 1) := by decide +kernel
theorem dX2_merge_40 : decode μX2_merge.2.1 40 = .ok (.iconst 1, 1) := by decide +kernel
theorem dX2_merge_41 : decode μX2_merge.2.1 41 = .ok (.iand, 1) := by decide +kernel
theorem dX2_merge_42 : decode μX2_merge.2.1 42 = .ok (.iconst 1, 1) := by decide +kernel
theorem dX2_merge_43 : decode μX2_merge.2.1 43 = .ok (.if_icmp .ne 25, 3) := by decide +kernel
theorem dX2_merge_46 : decode μX2_merge.2.1 46 = .ok (.aload_n 0, 1) := by decide +kernel
theorem dX2_merge_47 : decode μX2_merge.2.1 47 = .ok (.getfield 31, 3) := by decide +kernel
theorem dX2_merge_50 : decode μX2_merge.2.1 50 = .ok (.iload_n 3, 1) := by decide +kernel
theorem dX2_merge_51 : decode μX2_merge.2.1 51 = .ok (.aload_n 0, 1) := by decide +kernel
theorem dX2_merge_52 : decode μX2_merge.2.1 52 = .ok (.getfield 31, 3) := by decide +kernel
theorem dX2_merge_55 : decode μX2_merge.2.1 55 = .ok (.iload_n 3, 1) := by decide +kernel
theorem dX2_merge_56 : decode μX2_merge.2.1 56 = .ok (.iaload, 1) := by decide +kernel
theorem dX2_merge_57 : decode μX2_merge.2.1 57 = .ok (.iconst 1, 1) := by decide +kernel
theorem dX2_merge_58 : decode μX2_merge.2.1 58 = .ok (.iload_n 2, 1) := by decide +kernel
theorem dX2_merge_59 : decode μX2_merge.2.1 59 = .ok (.ishl, 1) := by decide +kernel
theorem dX2_merge_60 : decode μX2_merge.2.1 60 = .ok (.iconst (-1), 1) := by decide +kernel
theorem dX2_merge_61 : decode μX2_merge.2.1 61 = .ok (.ixor, 1) := by decide +kernel
theorem dX2_merge_62 : decode μX2_merge.2.1 62 = .ok (.iand, 1) := by decide +kernel
theorem dX2_merge_63 : decode μX2_merge.2.1 63 = .ok (.iconst 1, 1) := by decide +kernel
theorem dX2_merge_64 : decode μX2_merge.2.1 64 = .ok (.iload_n 1, 1) := by decide +kernel
theorem dX2_merge_65 : decode μX2_merge.2.1 65 = .ok (.ishl, 1) := by decide +kernel
theorem dX2_merge_66 : decode μX2_merge.2.1 66 = .ok (.ior, 1) := by decide +kernel
theorem dX2_merge_67 : decode μX2_merge.2.1 67 = .ok (.iastore, 1) := by decide +kernel
theorem dX2_merge_68 : decode μX2_merge.2.1 68 = .ok (.iinc 3 1, 3) := by decide +kernel
theorem dX2_merge_71 : decode μX2_merge.2.1 71 = .ok (.goto (-47), 3) := by decide +kernel
theorem dX2_merge_74 : decode μX2_merge.2.1 74 = .ok (.aload_n 0, 1) := by decide +kernel
theorem dX2_merge_75 : decode μX2_merge.2.1 75 = .ok (.getfield 27, 3) := by decide +kernel
theorem dX2_merge_78 : decode μX2_merge.2.1 78 = .ok (.iload_n 1, 1) := by decide +kernel
theorem dX2_merge_79 : decode μX2_merge.2.1 79 = .ok (.sipush 999, 3) := by decide +kernel
theorem dX2_merge_82 : decode μX2_merge.2.1 82 = .ok (.aload_n 0, 1) := by decide +kernel
theorem dX2_merge_83 : decode μX2_merge.2.1 83 = .ok (.getfield 27, 3) := by decide +kernel
theorem dX2_merge_86 : decode μX2_merge.2.1 86 = .ok (.iload_n 1, 1) := by decide +kernel
theorem dX2_merge_87 : decode μX2_merge.2.1 87 = .ok (.iaload, 1) := by decide +kernel
theorem dX2_merge_88 : decode μX2_merge.2.1 88 = .ok (.aload_n 0, 1) := by decide +kernel
theorem dX2_merge_89 : decode μX2_merge.2.1 89 = .ok (.getfield 27, 3) := by decide +kernel
theorem dX2_merge_92 : decode μX2_merge.2.1 92 = .ok (.iload_n 2, 1) := by decide +kernel
theorem dX2_merge_93 : decode μX2_merge.2.1 93 = .ok (.iaload, 1) := by decide +kernel
theorem dX2_merge_94 : decode μX2_merge.2.1 94 = .ok (.iadd, 1) := by decide +kernel
theorem dX2_merge_95 : decode μX2_merge.2.1 95 = .ok (.invokestatic 89, 3) := by decide +kernel
theorem dX2_merge_98 : decode μX2_merge.2.1 98 = .ok (.iastore, 1) := by decide +kernel
theorem dX2_merge_99 : decode μX2_merge.2.1 99 = .ok (.aload_n 0, 1) := by decide +kernel
theorem dX2_merge_100 : decode μX2_merge.2.1 100 = .ok (.iload_n 2, 1) := by decide +kernel
theorem dX2_merge_101 : decode μX2_merge.2.1 101 = .ok (.invokevirtual 94, 3) := by decide +kernel
theorem dX2_merge_104 : decode μX2_merge.2.1 104 = .ok (.aload_n 0, 1) := by decide +kernel
theorem dX2_merge_105 : decode μX2_merge.2.1 105 = .ok (.invokevirtual 43, 3) := by decide +kernel
theorem dX2_merge_108 : decode μX2_merge.2.1 108 = .ok (.iconst 1, 1) := by decide +kernel
theorem dX2_merge_109 : decode μX2_merge.2.1 109 = .ok (.ireturn, 1) := by decide +kernel
set_option maxRecDepth 20000 in
theorem sg_X2_merge_0 {d : Nat} {o : Nat} {x1 : Int32} {x2 : Int32} {M : Mem} {K : (Int32 → Mem → Prop)} (ho : kd o = (0, 2)) (h : (CI d μX2_canMerge [.ref o, .int x1, .int x2] M (fun r2 M1 => (if r2 = 0 then K 0 M1 else (CV d μX2_dropCornersOf [.ref o, .int (((1 : Int32) <<< (x1 &&& 31)) ||| ((1 : Int32) <<< (x2 &&& 31)))] M1 (fun M3 => RI (d + 1) μX2_merge 24 [(0, .ref o), (1, .int x1), (2, .int x2), (3, .int 0)] [] M3 K)))))) : CI (d + 1) μX2_merge [.ref o, .int x1, .int x2] M K := by
  show Rn (d + 1) μX2_merge 0 [(0, .ref o), (1, .int x1), (2, .int x2)] [] M _
  refine rn_aload_n (i := 0) (x := o) dX2_merge_0 rfl (by simp) ?_
  refine rn_iload_n (i := 1) (x := x1) dX2_merge_1 rfl (by simp) ?_
  refine rn_iload_n (i := 2) (x := x2) dX2_merge_2 rfl (by simp) ?_
  refine rn_callVi (as := [.int x1, .int x2]) (st := []) dX2_merge_3 mf_X2_canMerge lk_X2_86 im_X2_canMerge ho rfl rfl rfl (Nat.le_of_ble_eq_true rfl) (Nat.le_of_ble_eq_true rfl) rfl (RI.mono h (fun r2 M1 h => ?_))
  refine rn_if_ne (tgt := 11) dX2_merge_6 (by decide) (ite_go h (fun hc h => ?_) (fun hc h => ?_))
  · refine rn_iconst (v := 0) dX2_merge_9 rfl ?_
    exact rn_zret dX2_merge_10 rfl (by decide) ⟨_, rfl, h⟩
  · refine rn_aload_n (i := 0) (x := o) dX2_merge_11 rfl (by simp) ?_
    refine rn_iconst (v := 1) dX2_merge_12 rfl ?_
    refine rn_iload_n (i := 1) (x := x1) dX2_merge_13 rfl (by simp) ?_
    refine rn_ishl dX2_merge_14 ?_
    refine rn_iconst (v := 1) dX2_merge_15 rfl ?_
    refine rn_iload_n (i := 2) (x := x2) dX2_merge_16 rfl (by simp) ?_
    refine rn_ishl dX2_merge_17 ?_
    refine rn_ior dX2_merge_18 ?_
    refine rn_callVv (as := [.int (((1 : Int32) <<< (x1 &&& 31)) ||| ((1 : Int32) <<< (x2 &&& 31)))]) (st := []) dX2_merge_19 mf_X2_dropCornersOf lk_X2_79 im_X2_dropCornersOf ho rfl rfl rfl (Nat.le_of_ble_eq_true rfl) (Nat.le_of_ble_eq_true rfl) rfl (RV.mono h (fun M3 h => ?_))
    refine rn_iconst (v := 0) dX2_merge_22 rfl ?_
    refine rn_istore_n (lv' := [(0, .ref o), (1, .int x1), (2, .int x2), (3, .int 0)]) (hd := dX2_merge_23) (i := 3) (hi := rfl) (hn := by decide) (hf := rfl) (hl := rfl) ?_
    exact h
set_option maxRecDepth 20000 in
theorem sg_X2_merge_24 {d : Nat} {o : Nat} {x1 : Int32} {x2 : Int32} {x3 : Int32} {M : Mem} {K : (Int32 → Mem → Prop)} (ho : kd o = (0, 2)) (h : (if ri M o 4 ≤ x3 then (vp_in x1 8 ∧ (vp_in x2 8 ∧ (vp_in x1 8 ∧ ∀ M1, M1 = wi M (o + 1) (nx x1) (if (ri M (o + 1) (nx x1)) + (ri M (o + 1) (nx x2)) < 999 then (ri M (o + 1) (nx x1)) + (ri M (o + 1) (nx x2)) else 999) → (CV d μX2_leave [.ref o, .int x2] M1 (fun M2 => (CV d μX2_settle [.ref o] M2 (fun M3 => K 1 M3))))))) else (vp_in x3 12 ∧ (if ((ri M (o + 2) (nx x3)) >>> (x2 &&& 31)) &&& 1 = 1 then (vp_in x3 12 ∧ (vp_in x3 12 ∧ ∀ M4, M4 = wi M (o + 2) (nx x3) (((ri M (o + 2) (nx x3)) &&& (((1 : Int32) <<< (x2 &&& 31)) ^^^ ((-1)))) ||| ((1 : Int32) <<< (x1 &&& 31))) → RI (d + 1) μX2_merge 24 [(0, .ref o), (1, .int x1), (2, .int x2), (3, .int (x3 + 1))] [] M4 K)) else RI (d + 1) μX2_merge 24 [(0, .ref o), (1, .int x1), (2, .int x2), (3, .int (x3 + 1))] [] M K)))) : RI (d + 1) μX2_merge 24 [(0, .ref o), (1, .int x1), (2, .int x2), (3, .int x3)] [] M K := by
  show Rn (d + 1) μX2_merge 24 [(0, .ref o), (1, .int x1), (2, .int x2), (3, .int x3)] [] M _
  refine rn_iload_n (i := 3) (x := x3) dX2_merge_24 rfl (by simp) ?_
  refine rn_aload_n (i := 0) (x := o) dX2_merge_25 rfl (by simp) ?_
  refine rn_geti dX2_merge_26 ho gf_X2_24 (by decide) ?_
  refine rn_icmp_ge (tgt := 74) dX2_merge_29 (by decide) (ite_go h (fun hc h => ?_) (fun hc h => ?_))
  · refine rn_aload_n (i := 0) (x := o) dX2_merge_74 rfl (by simp) ?_
    refine rn_getr (t := o + 1) dX2_merge_75 ho gf_X2_27 rfl (froth_refs _ ho).1.1 ?_
    refine rn_iload_n (i := 1) (x := x1) dX2_merge_78 rfl (by simp) ?_
    refine rn_sipush (v := 999) dX2_merge_79 rfl ?_
    refine rn_aload_n (i := 0) (x := o) dX2_merge_82 rfl (by simp) ?_
    refine rn_getr (t := o + 1) dX2_merge_83 ho gf_X2_27 rfl (froth_refs _ ho).1.1 ?_
    refine rn_iload_n (i := 1) (x := x1) dX2_merge_86 rfl (by simp) ?_
    obtain ⟨hi, h⟩ := h
    refine rn_iaload dX2_merge_87 (froth_refs _ ho).1.2 hi ?_
    refine rn_aload_n (i := 0) (x := o) dX2_merge_88 rfl (by simp) ?_
    refine rn_getr (t := o + 1) dX2_merge_89 ho gf_X2_27 rfl (froth_refs _ ho).1.1 ?_
    refine rn_iload_n (i := 2) (x := x2) dX2_merge_92 rfl (by simp) ?_
    obtain ⟨hi, h⟩ := h
    refine rn_iaload dX2_merge_93 (froth_refs _ ho).1.2 hi ?_
    refine rn_iadd dX2_merge_94 ?_
    refine rn_mmin dX2_merge_95 mi_X2_89 (Nat.le_of_ble_eq_true rfl) ?_
    obtain ⟨hi, h⟩ := h
    have h := h _ rfl
    refine rn_iastore dX2_merge_98 (froth_refs _ ho).1.2 hi ?_
    generalize wi M (o + 1) (nx x1) (if (ri M (o + 1) (nx x1)) + (ri M (o + 1) (nx x2)) < 999 then (ri M (o + 1) (nx x1)) + (ri M (o + 1) (nx x2)) else 999) = M1 at h ⊢
    refine rn_aload_n (i := 0) (x := o) dX2_merge_99 rfl (by simp) ?_
    refine rn_iload_n (i := 2) (x := x2) dX2_merge_100 rfl (by simp) ?_
    refine rn_callVv (as := [.int x2]) (st := []) dX2_merge_101 mf_X2_leave lk_X2_94 im_X2_leave ho rfl rfl rfl (Nat.le_of_ble_eq_true rfl) (Nat.le_of_ble_eq_true rfl) rfl (RV.mono h (fun M2 h => ?_))
    refine rn_aload_n (i := 0) (x := o) dX2_merge_104 rfl (by simp) ?_
    refine rn_callVv (as := []) (st := []) dX2_merge_105 mf_X2_settle lk_X2_43 im_X2_settle ho rfl rfl rfl (Nat.le_of_ble_eq_true rfl) (Nat.le_of_ble_eq_true rfl) rfl (RV.mono h (fun M3 h => ?_))
    refine rn_iconst (v := 1) dX2_merge_108 rfl ?_
    exact rn_zret dX2_merge_109 rfl (by decide) ⟨_, rfl, h⟩
  · refine rn_aload_n (i := 0) (x := o) dX2_merge_32 rfl (by simp) ?_
    refine rn_getr (t := o + 2) dX2_merge_33 ho gf_X2_31 rfl (froth_refs _ ho).2.1.1 ?_
    refine rn_iload_n (i := 3) (x := x3) dX2_merge_36 rfl (by simp) ?_
    obtain ⟨hi, h⟩ := h
    refine rn_iaload dX2_merge_37 (froth_refs _ ho).2.1.2 hi ?_
    refine rn_iload_n (i := 2) (x := x2) dX2_merge_38 rfl (by simp) ?_
    refine rn_ishr dX2_merge_39 ?_
    refine rn_iconst (v := 1) dX2_merge_40 rfl ?_
    refine rn_iand dX2_merge_41 ?_
    refine rn_iconst (v := 1) dX2_merge_42 rfl ?_
    refine rn_icmp_ne (tgt := 68) dX2_merge_43 (by decide) (ite_go h (fun hc h => ?_) (fun hc h => ?_))
    · refine rn_aload_n (i := 0) (x := o) dX2_merge_46 rfl (by simp) ?_
      refine rn_getr (t := o + 2) dX2_merge_47 ho gf_X2_31 rfl (froth_refs _ ho).2.1.1 ?_
      refine rn_iload_n (i := 3) (x := x3) dX2_merge_50 rfl (by simp) ?_
      refine rn_aload_n (i := 0) (x := o) dX2_merge_51 rfl (by simp) ?_
      refine rn_getr (t := o + 2) dX2_merge_52 ho gf_X2_31 rfl (froth_refs _ ho).2.1.1 ?_
      refine rn_iload_n (i := 3) (x := x3) dX2_merge_55 rfl (by simp) ?_
      obtain ⟨hi, h⟩ := h
      refine rn_iaload dX2_merge_56 (froth_refs _ ho).2.1.2 hi ?_
      refine rn_iconst (v := 1) dX2_merge_57 rfl ?_
      refine rn_iload_n (i := 2) (x := x2) dX2_merge_58 rfl (by simp) ?_
      refine rn_ishl dX2_merge_59 ?_
      refine rn_iconst (v := -1) dX2_merge_60 rfl ?_
      refine rn_ixor dX2_merge_61 ?_
      refine rn_iand dX2_merge_62 ?_
      refine rn_iconst (v := 1) dX2_merge_63 rfl ?_
      refine rn_iload_n (i := 1) (x := x1) dX2_merge_64 rfl (by simp) ?_
      refine rn_ishl dX2_merge_65 ?_
      refine rn_ior dX2_merge_66 ?_
      obtain ⟨hi, h⟩ := h
      have h := h _ rfl
      refine rn_iastore dX2_merge_67 (froth_refs _ ho).2.1.2 hi ?_
      generalize wi M (o + 2) (nx x3) (((ri M (o + 2) (nx x3)) &&& (((1 : Int32) <<< (x2 &&& 31)) ^^^ ((-1)))) ||| ((1 : Int32) <<< (x1 &&& 31))) = M4 at h ⊢
      refine rn_iinc (x := x3) (v := x3 + 1) (lv' := [(0, .ref o), (1, .int x1), (2, .int x2), (3, .int (x3 + 1))]) dX2_merge_68 (by simp) rfl (by decide) rfl rfl ?_
      refine rn_goto (tgt := 24) dX2_merge_71 (by decide) ?_
      exact h
    · refine rn_iinc (x := x3) (v := x3 + 1) (lv' := [(0, .ref o), (1, .int x1), (2, .int x2), (3, .int (x3 + 1))]) dX2_merge_68 (by simp) rfl (by decide) rfl rfl ?_
      refine rn_goto (tgt := 24) dX2_merge_71 (by decide) ?_
      exact h
theorem dX2_leave_0 : decode μX2_leave.2.1 0 = .ok (.aload_n 0, 1) := by decide +kernel
theorem dX2_leave_1 : decode μX2_leave.2.1 1 = .ok (.dup, 1) := by decide +kernel
theorem dX2_leave_2 : decode μX2_leave.2.1 2 = .ok (.getfield 15, 3) := by decide +kernel
theorem dX2_leave_5 : decode μX2_leave.2.1 5 = .ok (.iconst 1, 1) := by decide +kernel
theorem dX2_leave_6 : decode μX2_leave.2.1 6 = .ok (.iload_n 1, 1) := by decide +kernel
theorem dX2_leave_7 : decode μX2_leave.2.1 7 = .ok (.ishl, 1) := by decide +kernel
theorem dX2_leave_8 : decode μX2_leave.2.1 8 = .ok (.iconst (-1), 1) := by decide +kernel
theorem dX2_leave_9 : decode μX2_leave.2.1 9 = .ok (.ixor, 1) := by decide +kernel
theorem dX2_leave_10 : decode μX2_leave.2.1 10 = .ok (.iand, 1) := by decide +kernel
theorem dX2_leave_11 : decode μX2_leave.2.1 11 = .ok (.putfield 15, 3) := by decide +kernel
theorem dX2_leave_14 : decode μX2_leave.2.1 14 = .ok (.aload_n 0, 1) := by decide +kernel
theorem dX2_leave_15 : decode μX2_leave.2.1 15 = .ok (.getfield 27, 3) := by decide +kernel
theorem dX2_leave_18 : decode μX2_leave.2.1 18 = .ok (.iload_n 1, 1) := by decide +kernel
theorem dX2_leave_19 : decode μX2_leave.2.1 19 = .ok (.iconst 0, 1) := by decide +kernel
theorem dX2_leave_20 : decode μX2_leave.2.1 20 = .ok (.iastore, 1) := by decide +kernel
theorem dX2_leave_21 : decode μX2_leave.2.1 21 = .ok (.return_, 1) := by decide +kernel
set_option maxRecDepth 20000 in
theorem sg_X2_leave_0 {d : Nat} {o : Nat} {x1 : Int32} {M : Mem} {K : (Mem → Prop)} (ho : kd o = (0, 2)) (h : (∀ M1, M1 = wi M o 1 ((ri M o 1) &&& (((1 : Int32) <<< (x1 &&& 31)) ^^^ ((-1)))) → (vp_in x1 8 ∧ ∀ M2, M2 = wi M1 (o + 1) (nx x1) 0 → K M2))) : CV d μX2_leave [.ref o, .int x1] M K := by
  show Rn d μX2_leave 0 [(0, .ref o), (1, .int x1)] [] M _
  refine rn_aload_n (i := 0) (x := o) dX2_leave_0 rfl (by simp) ?_
  refine rn_dup dX2_leave_1 rfl ?_
  refine rn_geti dX2_leave_2 ho gf_X2_15 (by decide) ?_
  refine rn_iconst (v := 1) dX2_leave_5 rfl ?_
  refine rn_iload_n (i := 1) (x := x1) dX2_leave_6 rfl (by simp) ?_
  refine rn_ishl dX2_leave_7 ?_
  refine rn_iconst (v := -1) dX2_leave_8 rfl ?_
  refine rn_ixor dX2_leave_9 ?_
  refine rn_iand dX2_leave_10 ?_
  have h := h _ rfl
  refine rn_puti dX2_leave_11 ho pf_X2_15 (by decide) rfl rfl ?_
  generalize wi M o 1 ((ri M o 1) &&& (((1 : Int32) <<< (x1 &&& 31)) ^^^ ((-1)))) = M1 at h ⊢
  refine rn_aload_n (i := 0) (x := o) dX2_leave_14 rfl (by simp) ?_
  refine rn_getr (t := o + 1) dX2_leave_15 ho gf_X2_27 rfl (froth_refs _ ho).1.1 ?_
  refine rn_iload_n (i := 1) (x := x1) dX2_leave_18 rfl (by simp) ?_
  refine rn_iconst (v := 0) dX2_leave_19 rfl ?_
  obtain ⟨hi, h⟩ := h
  have h := h _ rfl
  refine rn_iastore dX2_leave_20 (froth_refs _ ho).1.2 hi ?_
  generalize wi M1 (o + 1) (nx x1) 0 = M2 at h ⊢
  exact rn_ret dX2_leave_21 rfl ⟨rfl, h⟩
theorem dX2_growthOf_0 : decode μX2_growthOf.2.1 0 = .ok (.aload_n 0, 1) := by decide +kernel
theorem dX2_growthOf_1 : decode μX2_growthOf.2.1 1 = .ok (.iload_n 1, 1) := by decide +kernel
theorem dX2_growthOf_2 : decode μX2_growthOf.2.1 2 = .ok (.invokevirtual 97, 3) := by decide +kernel
theorem dX2_growthOf_5 : decode μX2_growthOf.2.1 5 = .ok (.ifCond .ne 5, 3) := by decide +kernel
theorem dX2_growthOf_8 : decode μX2_growthOf.2.1 8 = .ok (.iconst 0, 1) := by decide +kernel
theorem dX2_growthOf_9 : decode μX2_growthOf.2.1 9 = .ok (.ireturn, 1) := by decide +kernel
theorem dX2_growthOf_10 : decode μX2_growthOf.2.1 10 = .ok (.iconst 0, 1) := by decide +kernel
theorem dX2_growthOf_11 : decode μX2_growthOf.2.1 11 = .ok (.istore_n 3, 1) := by decide +kernel
theorem dX2_growthOf_12 : decode μX2_growthOf.2.1 12 = .ok (.iconst 0, 1) := by decide +kernel
theorem dX2_growthOf_13 : decode μX2_growthOf.2.1 13 = .ok (.istore 4, 2) := by decide +kernel
theorem dX2_growthOf_15 : decode μX2_growthOf.2.1 15 = .ok (.iload 4, 2) := by decide +kernel
theorem dX2_growthOf_17 : decode μX2_growthOf.2.1 17 = .ok (.aload_n 0, 1) := by decide +kernel
theorem dX2_growthOf_18 : decode μX2_growthOf.2.1 18 = .ok (.getfield 9, 3) := by decide +kernel
theorem dX2_growthOf_21 : decode μX2_growthOf.2.1 21 = .ok (.if_icmp .ge 29, 3) := by decide +kernel
theorem dX2_growthOf_24 : decode μX2_growthOf.2.1 24 = .ok (.aload_n 0, 1) := by decide +kernel
theorem dX2_growthOf_25 : decode μX2_growthOf.2.1 25 = .ok (.iload_n 1, 1) := by decide +kernel
theorem dX2_growthOf_26 : decode μX2_growthOf.2.1 26 = .ok (.iload 4, 2) := by decide +kernel
theorem dX2_growthOf_28 : decode μX2_growthOf.2.1 28 = .ok (.invokevirtual 69, 3) := by decide +kernel
theorem dX2_growthOf_31 : decode μX2_growthOf.2.1 31 = .ok (.ifCond .eq 13, 3) := by decide +kernel
theorem dX2_growthOf_34 : decode μX2_growthOf.2.1 34 = .ok (.iload_n 3, 1) := by decide +kernel
theorem dX2_growthOf_35 : decode μX2_growthOf.2.1 35 = .ok (.aload_n 0, 1) := by decide +kernel
theorem dX2_growthOf_36 : decode μX2_growthOf.2.1 36 = .ok (.getfield 27, 3) := by decide +kernel
theorem dX2_growthOf_39 : decode μX2_growthOf.2.1 39 = .ok (.iload 4, 2) := by decide +kernel
theorem dX2_growthOf_41 : decode μX2_growthOf.2.1 41 = .ok (.iaload, 1) := by decide +kernel
theorem dX2_growthOf_42 : decode μX2_growthOf.2.1 42 = .ok (.iadd, 1) := by decide +kernel
theorem dX2_growthOf_43 : decode μX2_growthOf.2.1 43 = .ok (.istore_n 3, 1) := by decide +kernel
theorem dX2_growthOf_44 : decode μX2_growthOf.2.1 44 = .ok (.iinc 4 1, 3) := by decide +kernel
theorem dX2_growthOf_47 : decode μX2_growthOf.2.1 47 = .ok (.goto (-32), 3) := by decide +kernel
theorem dX2_growthOf_50 : decode μX2_growthOf.2.1 50 = .ok (.aload_n 2, 1) := by decide +kernel
theorem dX2_growthOf_51 : decode μX2_growthOf.2.1 51 = .ok (.aload_n 0, 1) := by decide +kernel
theorem dX2_growthOf_52 : decode μX2_growthOf.2.1 52 = .ok (.getfield 37, 3) := by decide +kernel
theorem dX2_growthOf_55 : decode μX2_growthOf.2.1 55 = .ok (.iload_n 1, 1) := by decide +kernel
theorem dX2_growthOf_56 : decode μX2_growthOf.2.1 56 = .ok (.iaload, 1) := by decide +kernel
theorem dX2_growthOf_57 : decode μX2_growthOf.2.1 57 = .ok (.aload_n 0, 1) := by decide +kernel
theorem dX2_growthOf_58 : decode μX2_growthOf.2.1 58 = .ok (.getfield 27, 3) := by decide +kernel
theorem dX2_growthOf_61 : decode μX2_growthOf.2.1 61 = .ok (.iload_n 1, 1) := by decide +kernel
theorem dX2_growthOf_62 : decode μX2_growthOf.2.1 62 = .ok (.iaload, 1) := by decide +kernel
theorem dX2_growthOf_63 : decode μX2_growthOf.2.1 63 = .ok (.iload_n 3, 1) := by decide +kernel
theorem dX2_growthOf_64 : decode μX2_growthOf.2.1 64 = .ok (.aload_n 0, 1) := by decide +kernel
theorem dX2_growthOf_65 : decode μX2_growthOf.2.1 65 = .ok (.invokevirtual 82, 3) := by decide +kernel
theorem dX2_growthOf_68 : decode μX2_growthOf.2.1 68 = .ok (.aload_n 0, 1) := by decide +kernel
theorem dX2_growthOf_69 : decode μX2_growthOf.2.1 69 = .ok (.getfield 18, 3) := by decide +kernel
theorem dX2_growthOf_72 : decode μX2_growthOf.2.1 72 = .ok (.invokevirtual 101, 3) := by decide +kernel
theorem dX2_growthOf_75 : decode μX2_growthOf.2.1 75 = .ok (.ireturn, 1) := by decide +kernel
set_option maxRecDepth 20000 in
theorem sg_X2_growthOf_0 {d : Nat} {o : Nat} {x1 : Int32} {g : Nat} {M : Mem} {K : (Int32 → Mem → Prop)} (ho : kd o = (0, 2)) (hg : kd g = (0, 1)) (h : (CI d μX2_isTold [.ref o, .int x1] M (fun r2 M1 => (if r2 = 0 then K 0 M1 else RI (d + 1) μX2_growthOf 15 [(0, .ref o), (1, .int x1), (2, .ref g), (3, .int 0), (4, .int 0)] [] M1 K)))) : CI (d + 1) μX2_growthOf [.ref o, .int x1, .ref g] M K := by
  show Rn (d + 1) μX2_growthOf 0 [(0, .ref o), (1, .int x1), (2, .ref g)] [] M _
  refine rn_aload_n (i := 0) (x := o) dX2_growthOf_0 rfl (by simp) ?_
  refine rn_iload_n (i := 1) (x := x1) dX2_growthOf_1 rfl (by simp) ?_
  refine rn_callVi (as := [.int x1]) (st := []) dX2_growthOf_2 mf_X2_isTold lk_X2_97 im_X2_isTold ho rfl rfl rfl (Nat.le_of_ble_eq_true rfl) (Nat.le_of_ble_eq_true rfl) rfl (RI.mono h (fun r2 M1 h => ?_))
  refine rn_if_ne (tgt := 10) dX2_growthOf_5 (by decide) (ite_go h (fun hc h => ?_) (fun hc h => ?_))
  · refine rn_iconst (v := 0) dX2_growthOf_8 rfl ?_
    exact rn_iret dX2_growthOf_9 rfl ⟨_, rfl, h⟩
  · refine rn_iconst (v := 0) dX2_growthOf_10 rfl ?_
    refine rn_istore_n (lv' := [(0, .ref o), (1, .int x1), (2, .ref g), (3, .int 0)]) (hd := dX2_growthOf_11) (i := 3) (hi := rfl) (hn := by decide) (hf := rfl) (hl := rfl) ?_
    refine rn_iconst (v := 0) dX2_growthOf_12 rfl ?_
    refine rn_istore (lv' := [(0, .ref o), (1, .int x1), (2, .ref g), (3, .int 0), (4, .int 0)]) (hd := dX2_growthOf_13) (hn := by decide) (hf := rfl) (hl := rfl) ?_
    exact h
set_option maxRecDepth 20000 in
theorem sg_X2_growthOf_15 {d : Nat} {o : Nat} {x1 : Int32} {g : Nat} {x3 : Int32} {x4 : Int32} {M : Mem} {K : (Int32 → Mem → Prop)} (ho : kd o = (0, 2)) (hg : kd g = (0, 1)) (h : (if ri M o 0 ≤ x4 then (vp_in x1 8 ∧ (vp_in x1 8 ∧ (CI d μX2_howManyThere [.ref o] M (fun r2 M1 => (CI d μX1_growth [.ref g, .int (ri M (o + 4) (nx x1)), .int (ri M (o + 1) (nx x1)), .int x3, .int r2, .int (ri M1 o 2)] M1 (fun r4 M3 => K r4 M3)))))) else (CI d μX2_meets [.ref o, .int x1, .int x4] M (fun r6 M5 => (if r6 = 0 then RI (d + 1) μX2_growthOf 15 [(0, .ref o), (1, .int x1), (2, .ref g), (3, .int x3), (4, .int (x4 + 1))] [] M5 K else (vp_in x4 8 ∧ RI (d + 1) μX2_growthOf 15 [(0, .ref o), (1, .int x1), (2, .ref g), (3, .int (x3 + (ri M5 (o + 1) (nx x4)))), (4, .int (x4 + 1))] [] M5 K)))))) : RI (d + 1) μX2_growthOf 15 [(0, .ref o), (1, .int x1), (2, .ref g), (3, .int x3), (4, .int x4)] [] M K := by
  show Rn (d + 1) μX2_growthOf 15 [(0, .ref o), (1, .int x1), (2, .ref g), (3, .int x3), (4, .int x4)] [] M _
  refine rn_iload (x := x4) dX2_growthOf_15 (by simp) ?_
  refine rn_aload_n (i := 0) (x := o) dX2_growthOf_17 rfl (by simp) ?_
  refine rn_geti dX2_growthOf_18 ho gf_X2_9 (by decide) ?_
  refine rn_icmp_ge (tgt := 50) dX2_growthOf_21 (by decide) (ite_go h (fun hc h => ?_) (fun hc h => ?_))
  · refine rn_aload_n (i := 2) (x := g) dX2_growthOf_50 rfl (by simp) ?_
    refine rn_aload_n (i := 0) (x := o) dX2_growthOf_51 rfl (by simp) ?_
    refine rn_getr (t := o + 4) dX2_growthOf_52 ho gf_X2_37 rfl (froth_refs _ ho).2.2.2.1.1 ?_
    refine rn_iload_n (i := 1) (x := x1) dX2_growthOf_55 rfl (by simp) ?_
    obtain ⟨hi, h⟩ := h
    refine rn_iaload dX2_growthOf_56 (froth_refs _ ho).2.2.2.1.2 hi ?_
    refine rn_aload_n (i := 0) (x := o) dX2_growthOf_57 rfl (by simp) ?_
    refine rn_getr (t := o + 1) dX2_growthOf_58 ho gf_X2_27 rfl (froth_refs _ ho).1.1 ?_
    refine rn_iload_n (i := 1) (x := x1) dX2_growthOf_61 rfl (by simp) ?_
    obtain ⟨hi, h⟩ := h
    refine rn_iaload dX2_growthOf_62 (froth_refs _ ho).1.2 hi ?_
    refine rn_iload_n (i := 3) (x := x3) dX2_growthOf_63 rfl (by simp) ?_
    refine rn_aload_n (i := 0) (x := o) dX2_growthOf_64 rfl (by simp) ?_
    refine rn_callVi (as := []) (st := [.int x3, .int (ri M (o + 1) (nx x1)), .int (ri M (o + 4) (nx x1)), .ref g]) dX2_growthOf_65 mf_X2_howManyThere lk_X2_82 im_X2_howManyThere ho rfl rfl rfl (Nat.le_of_ble_eq_true rfl) (Nat.le_of_ble_eq_true rfl) rfl (RI.mono h (fun r2 M1 h => ?_))
    refine rn_aload_n (i := 0) (x := o) dX2_growthOf_68 rfl (by simp) ?_
    refine rn_geti dX2_growthOf_69 ho gf_X2_18 (by decide) ?_
    refine rn_callVi (as := [.int (ri M (o + 4) (nx x1)), .int (ri M (o + 1) (nx x1)), .int x3, .int r2, .int (ri M1 o 2)]) (st := []) dX2_growthOf_72 mf_X1_growth lk_X2_101 im_X1_growth hg rfl rfl rfl (Nat.le_of_ble_eq_true rfl) (Nat.le_of_ble_eq_true rfl) rfl (RI.mono h (fun r4 M3 h => ?_))
    exact rn_iret dX2_growthOf_75 rfl ⟨_, rfl, h⟩
  · refine rn_aload_n (i := 0) (x := o) dX2_growthOf_24 rfl (by simp) ?_
    refine rn_iload_n (i := 1) (x := x1) dX2_growthOf_25 rfl (by simp) ?_
    refine rn_iload (x := x4) dX2_growthOf_26 (by simp) ?_
    refine rn_callVi (as := [.int x1, .int x4]) (st := []) dX2_growthOf_28 mf_X2_meets lk_X2_69 im_X2_meets ho rfl rfl rfl (Nat.le_of_ble_eq_true rfl) (Nat.le_of_ble_eq_true rfl) rfl (RI.mono h (fun r6 M5 h => ?_))
    refine rn_if_eq (tgt := 44) dX2_growthOf_31 (by decide) (ite_go h (fun hc h => ?_) (fun hc h => ?_))
    · refine rn_iinc (x := x4) (v := x4 + 1) (lv' := [(0, .ref o), (1, .int x1), (2, .ref g), (3, .int x3), (4, .int (x4 + 1))]) dX2_growthOf_44 (by simp) rfl (by decide) rfl rfl ?_
      refine rn_goto (tgt := 15) dX2_growthOf_47 (by decide) ?_
      exact h
    · refine rn_iload_n (i := 3) (x := x3) dX2_growthOf_34 rfl (by simp) ?_
      refine rn_aload_n (i := 0) (x := o) dX2_growthOf_35 rfl (by simp) ?_
      refine rn_getr (t := o + 1) dX2_growthOf_36 ho gf_X2_27 rfl (froth_refs _ ho).1.1 ?_
      refine rn_iload (x := x4) dX2_growthOf_39 (by simp) ?_
      obtain ⟨hi, h⟩ := h
      refine rn_iaload dX2_growthOf_41 (froth_refs _ ho).1.2 hi ?_
      refine rn_iadd dX2_growthOf_42 ?_
      refine rn_istore_n (lv' := [(0, .ref o), (1, .int x1), (2, .ref g), (3, .int (x3 + (ri M5 (o + 1) (nx x4)))), (4, .int x4)]) (hd := dX2_growthOf_43) (i := 3) (hi := rfl) (hn := by decide) (hf := rfl) (hl := rfl) ?_
      refine rn_iinc (x := x4) (v := x4 + 1) (lv' := [(0, .ref o), (1, .int x1), (2, .ref g), (3, .int (x3 + (ri M5 (o + 1) (nx x4)))), (4, .int (x4 + 1))]) dX2_growthOf_44 (by simp) rfl (by decide) rfl rfl ?_
      refine rn_goto (tgt := 15) dX2_growthOf_47 (by decide) ?_
      exact h
theorem dX2_passSeasons_0 : decode μX2_passSeasons.2.1 0 = .ok (.iconst 0, 1) := by decide +kernel
theorem dX2_passSeasons_1 : decode μX2_passSeasons.2.1 1 = .ok (.istore 4, 2) := by decide +kernel
theorem dX2_passSeasons_3 : decode μX2_passSeasons.2.1 3 = .ok (.iload 4, 2) := by decide +kernel
theorem dX2_passSeasons_5 : decode μX2_passSeasons.2.1 5 = .ok (.iload_n 1, 1) := by decide +kernel
theorem dX2_passSeasons_6 : decode μX2_passSeasons.2.1 6 = .ok (.if_icmp .ge 15, 3) := by decide +kernel
theorem dX2_passSeasons_9 : decode μX2_passSeasons.2.1 9 = .ok (.aload_n 0, 1) := by decide +kernel
theorem dX2_passSeasons_10 : decode μX2_passSeasons.2.1 10 = .ok (.aload_n 2, 1) := by decide +kernel
theorem dX2_passSeasons_11 : decode μX2_passSeasons.2.1 11 = .ok (.iload_n 3, 1) := by decide +kernel
theorem dX2_passSeasons_12 : decode μX2_passSeasons.2.1 12 = .ok (.invokevirtual 106, 3) := by decide +kernel
theorem dX2_passSeasons_15 : decode μX2_passSeasons.2.1 15 = .ok (.iinc 4 1, 3) := by decide +kernel
theorem dX2_passSeasons_18 : decode μX2_passSeasons.2.1 18 = .ok (.goto (-15), 3) := by decide +kernel
theorem dX2_passSeasons_21 : decode μX2_passSeasons.2.1 21 = .ok (.return_, 1) := by decide +kernel
set_option maxRecDepth 20000 in
theorem sg_X2_passSeasons_0 {d : Nat} {o : Nat} {x1 : Int32} {g : Nat} {x3 : Int32} {M : Mem} {K : (Mem → Prop)} (ho : kd o = (0, 2)) (hg : kd g = (0, 1)) (h : RV (d + 1) μX2_passSeasons 3 [(0, .ref o), (1, .int x1), (2, .ref g), (3, .int x3), (4, .int 0)] [] M K) : CV (d + 1) μX2_passSeasons [.ref o, .int x1, .ref g, .int x3] M K := by
  show Rn (d + 1) μX2_passSeasons 0 [(0, .ref o), (1, .int x1), (2, .ref g), (3, .int x3)] [] M _
  refine rn_iconst (v := 0) dX2_passSeasons_0 rfl ?_
  refine rn_istore (lv' := [(0, .ref o), (1, .int x1), (2, .ref g), (3, .int x3), (4, .int 0)]) (hd := dX2_passSeasons_1) (hn := by decide) (hf := rfl) (hl := rfl) ?_
  exact h
set_option maxRecDepth 20000 in
theorem sg_X2_passSeasons_3 {d : Nat} {o : Nat} {x1 : Int32} {g : Nat} {x3 : Int32} {x4 : Int32} {M : Mem} {K : (Mem → Prop)} (ho : kd o = (0, 2)) (hg : kd g = (0, 1)) (h : (if x1 ≤ x4 then K M else (CV d μX2_passSeason [.ref o, .ref g, .int x3] M (fun M1 => RV (d + 1) μX2_passSeasons 3 [(0, .ref o), (1, .int x1), (2, .ref g), (3, .int x3), (4, .int (x4 + 1))] [] M1 K)))) : RV (d + 1) μX2_passSeasons 3 [(0, .ref o), (1, .int x1), (2, .ref g), (3, .int x3), (4, .int x4)] [] M K := by
  show Rn (d + 1) μX2_passSeasons 3 [(0, .ref o), (1, .int x1), (2, .ref g), (3, .int x3), (4, .int x4)] [] M _
  refine rn_iload (x := x4) dX2_passSeasons_3 (by simp) ?_
  refine rn_iload_n (i := 1) (x := x1) dX2_passSeasons_5 rfl (by simp) ?_
  refine rn_icmp_ge (tgt := 21) dX2_passSeasons_6 (by decide) (ite_go h (fun hc h => ?_) (fun hc h => ?_))
  · exact rn_ret dX2_passSeasons_21 rfl ⟨rfl, h⟩
  · refine rn_aload_n (i := 0) (x := o) dX2_passSeasons_9 rfl (by simp) ?_
    refine rn_aload_n (i := 2) (x := g) dX2_passSeasons_10 rfl (by simp) ?_
    refine rn_iload_n (i := 3) (x := x3) dX2_passSeasons_11 rfl (by simp) ?_
    refine rn_callVv (as := [.ref g, .int x3]) (st := []) dX2_passSeasons_12 mf_X2_passSeason lk_X2_106 im_X2_passSeason ho rfl rfl rfl (Nat.le_of_ble_eq_true rfl) (Nat.le_of_ble_eq_true rfl) rfl (RV.mono h (fun M1 h => ?_))
    refine rn_iinc (x := x4) (v := x4 + 1) (lv' := [(0, .ref o), (1, .int x1), (2, .ref g), (3, .int x3), (4, .int (x4 + 1))]) dX2_passSeasons_15 (by simp) rfl (by decide) rfl rfl ?_
    refine rn_goto (tgt := 3) dX2_passSeasons_18 (by decide) ?_
    exact h
theorem dX2_passSeason_0 : decode μX2_passSeason.2.1 0 = .ok (.iconst 0, 1) := by decide +kernel
theorem dX2_passSeason_1 : decode μX2_passSeason.2.1 1 = .ok (.istore_n 3, 1) := by decide +kernel
theorem dX2_passSeason_2 : decode μX2_passSeason.2.1 2 = .ok (.iload_n 3, 1) := by decide +kernel
theorem dX2_passSeason_3 : decode μX2_passSeason.2.1 3 = .ok (.aload_n 0, 1) := by decide +kernel
theorem dX2_passSeason_4 : decode μX2_passSeason.2.1 4 = .ok (.getfield 9, 3) := by decide +kernel
theorem dX2_passSeason_7 : decode μX2_passSeason.2.1 7 = .ok (.if_icmp .ge 33, 3) := by decide +kernel
theorem dX2_passSeason_10 : decode μX2_passSeason.2.1 10 = .ok (.aload_n 0, 1) := by decide +kernel
theorem dX2_passSeason_11 : decode μX2_passSeason.2.1 11 = .ok (.getfield 40, 3) := by decide +kernel
theorem dX2_passSeason_14 : decode μX2_passSeason.2.1 14 = .ok (.iload_n 3, 1) := by decide +kernel
theorem dX2_passSeason_15 : decode μX2_passSeason.2.1 15 = .ok (.aload_n 0, 1) := by decide +kernel
theorem dX2_passSeason_16 : decode μX2_passSeason.2.1 16 = .ok (.iload_n 3, 1) := by decide +kernel
theorem dX2_passSeason_17 : decode μX2_passSeason.2.1 17 = .ok (.invokevirtual 110, 3) := by decide +kernel
theorem dX2_passSeason_20 : decode μX2_passSeason.2.1 20 = .ok (.ifCond .eq 12, 3) := by decide +kernel
theorem dX2_passSeason_23 : decode μX2_passSeason.2.1 23 = .ok (.aload_n 0, 1) := by decide +kernel
theorem dX2_passSeason_24 : decode μX2_passSeason.2.1 24 = .ok (.iload_n 3, 1) := by decide +kernel
theorem dX2_passSeason_25 : decode μX2_passSeason.2.1 25 = .ok (.aload_n 1, 1) := by decide +kernel
theorem dX2_passSeason_26 : decode μX2_passSeason.2.1 26 = .ok (.invokevirtual 113, 3) := by decide +kernel
theorem dX2_passSeason_29 : decode μX2_passSeason.2.1 29 = .ok (.goto 4, 3) := by decide +kernel
theorem dX2_passSeason_32 : decode μX2_passSeason.2.1 32 = .ok (.iconst 0, 1) := by decide +kernel
theorem dX2_passSeason_33 : decode μX2_passSeason.2.1 33 = .ok (.iastore, 1) := by decide +kernel
theorem dX2_passSeason_34 : decode μX2_passSeason.2.1 34 = .ok (.iinc 3 1, 3) := by decide +kernel
theorem dX2_passSeason_37 : decode μX2_passSeason.2.1 37 = .ok (.goto (-35), 3) := by decide +kernel
theorem dX2_passSeason_40 : decode μX2_passSeason.2.1 40 = .ok (.iconst 0, 1) := by decide +kernel
theorem dX2_passSeason_41 : decode μX2_passSeason.2.1 41 = .ok (.istore_n 3, 1) := by decide +kernel
theorem dX2_passSeason_42 : decode μX2_passSeason.2.1 42 = .ok (.iload_n 3, 1) := by decide +kernel
theorem dX2_passSeason_43 : decode μX2_passSeason.2.1 43 = .ok (.aload_n 0, 1) := by decide +kernel
theorem dX2_passSeason_44 : decode μX2_passSeason.2.1 44 = .ok (.getfield 9, 3) := by decide +kernel
theorem dX2_passSeason_47 : decode μX2_passSeason.2.1 47 = .ok (.if_icmp .ge 38, 3) := by decide +kernel
theorem dX2_passSeason_50 : decode μX2_passSeason.2.1 50 = .ok (.aload_n 0, 1) := by decide +kernel
theorem dX2_passSeason_51 : decode μX2_passSeason.2.1 51 = .ok (.getfield 27, 3) := by decide +kernel
theorem dX2_passSeason_54 : decode μX2_passSeason.2.1 54 = .ok (.iload_n 3, 1) := by decide +kernel
theorem dX2_passSeason_55 : decode μX2_passSeason.2.1 55 = .ok (.iconst 0, 1) := by decide +kernel
theorem dX2_passSeason_56 : decode μX2_passSeason.2.1 56 = .ok (.sipush 999, 3) := by decide +kernel
theorem dX2_passSeason_59 : decode μX2_passSeason.2.1 59 = .ok (.aload_n 0, 1) := by decide +kernel
theorem dX2_passSeason_60 : decode μX2_passSeason.2.1 60 = .ok (.getfield 27, 3) := by decide +kernel
theorem dX2_passSeason_63 : decode μX2_passSeason.2.1 63 = .ok (.iload_n 3, 1) := by decide +kernel
theorem dX2_passSeason_64 : decode μX2_passSeason.2.1 64 = .ok (.iaload, 1) := by decide +kernel
theorem dX2_passSeason_65 : decode μX2_passSeason.2.1 65 = .ok (.aload_n 0, 1) := by decide +kernel
theorem dX2_passSeason_66 : decode μX2_passSeason.2.1 66 = .ok (.getfield 40, 3) := by decide +kernel
theorem dX2_passSeason_69 : decode μX2_passSeason.2.1 69 = .ok (.iload_n 3, 1) := by decide +kernel
theorem dX2_passSeason_70 : decode μX2_passSeason.2.1 70 = .ok (.iaload, 1) := by decide +kernel
theorem dX2_passSeason_71 : decode μX2_passSeason.2.1 71 = .ok (.iadd, 1) := by decide +kernel
theorem dX2_passSeason_72 : decode μX2_passSeason.2.1 72 = .ok (.invokestatic 89, 3) := by decide +kernel
theorem dX2_passSeason_75 : decode μX2_passSeason.2.1 75 = .ok (.invokestatic 117, 3) := by decide +kernel
theorem dX2_passSeason_78 : decode μX2_passSeason.2.1 78 = .ok (.iastore, 1) := by decide +kernel
theorem dX2_passSeason_79 : decode μX2_passSeason.2.1 79 = .ok (.iinc 3 1, 3) := by decide +kernel
theorem dX2_passSeason_82 : decode μX2_passSeason.2.1 82 = .ok (.goto (-40), 3) := by decide +kernel
theorem dX2_passSeason_85 : decode μX2_passSeason.2.1 85 = .ok (.iconst 0, 1) := by decide +kernel
theorem dX2_passSeason_86 : decode μX2_passSeason.2.1 86 = .ok (.istore_n 3, 1) := by decide +kernel
theorem dX2_passSeason_87 : decode μX2_passSeason.2.1 87 = .ok (.iload_n 3, 1) := by decide +kernel
theorem dX2_passSeason_88 : decode μX2_passSeason.2.1 88 = .ok (.aload_n 0, 1) := by decide +kernel
theorem dX2_passSeason_89 : decode μX2_passSeason.2.1 89 = .ok (.getfield 9, 3) := by decide +kernel
theorem dX2_passSeason_92 : decode μX2_passSeason.2.1 92 = .ok (.if_icmp .ge 31, 3) := by decide +kernel
theorem dX2_passSeason_95 : decode μX2_passSeason.2.1 95 = .ok (.aload_n 0, 1) := by decide +kernel
theorem dX2_passSeason_96 : decode μX2_passSeason.2.1 96 = .ok (.iload_n 3, 1) := by decide +kernel
theorem dX2_passSeason_97 : decode μX2_passSeason.2.1 97 = .ok (.invokevirtual 110, 3) := by decide +kernel
theorem dX2_passSeason_100 : decode μX2_passSeason.2.1 100 = .ok (.ifCond .eq 17, 3) := by decide +kernel
theorem dX2_passSeason_103 : decode μX2_passSeason.2.1 103 = .ok (.aload_n 0, 1) := by decide +kernel
theorem dX2_passSeason_104 : decode μX2_passSeason.2.1 104 = .ok (.getfield 27, 3) := by decide +kernel
theorem dX2_passSeason_107 : decode μX2_passSeason.2.1 107 = .ok (.iload_n 3, 1) := by decide +kernel
theorem dX2_passSeason_108 : decode μX2_passSeason.2.1 108 = .ok (.iaload, 1) := by decide +kernel
theorem dX2_passSeason_109 : decode μX2_passSeason.2.1 109 = .ok (.ifCond .ne 8, 3) := by decide +kernel
theorem dX2_passSeason_112 : decode μX2_passSeason.2.1 112 = .ok (.aload_n 0, 1) := by decide +kernel
theorem dX2_passSeason_113 : decode μX2_passSeason.2.1 113 = .ok (.iload_n 3, 1) := by decide +kernel
theorem dX2_passSeason_114 : decode μX2_passSeason.2.1 114 = .ok (.invokevirtual 120, 3) := by decide +kernel
theorem dX2_passSeason_117 : decode μX2_passSeason.2.1 117 = .ok (.iinc 3 1, 3) := by decide +kernel
theorem dX2_passSeason_120 : decode μX2_passSeason.2.1 120 = .ok (.goto (-33), 3) := by decide +kernel
theorem dX2_passSeason_123 : decode μX2_passSeason.2.1 123 = .ok (.aload_n 0, 1) := by decide +kernel
theorem dX2_passSeason_124 : decode μX2_passSeason.2.1 124 = .ok (.aload_n 0, 1) := by decide +kernel
theorem dX2_passSeason_125 : decode μX2_passSeason.2.1 125 = .ok (.getfield 21, 3) := by decide +kernel
theorem dX2_passSeason_128 : decode μX2_passSeason.2.1 128 = .ok (.sipush 137, 3) := by decide +kernel
theorem dX2_passSeason_131 : decode μX2_passSeason.2.1 131 = .ok (.imul, 1) := by decide +kernel
theorem dX2_passSeason_132 : decode μX2_passSeason.2.1 132 = .ok (.bipush 71, 2) := by decide +kernel
theorem dX2_passSeason_134 : decode μX2_passSeason.2.1 134 = .ok (.iadd, 1) := by decide +kernel
theorem dX2_passSeason_135 : decode μX2_passSeason.2.1 135 = .ok (.sipush 1000, 3) := by decide +kernel
theorem dX2_passSeason_138 : decode μX2_passSeason.2.1 138 = .ok (.irem, 1) := by decide +kernel
theorem dX2_passSeason_139 : decode μX2_passSeason.2.1 139 = .ok (.putfield 21, 3) := by decide +kernel
theorem dX2_passSeason_142 : decode μX2_passSeason.2.1 142 = .ok (.aload_n 0, 1) := by decide +kernel
theorem dX2_passSeason_143 : decode μX2_passSeason.2.1 143 = .ok (.getfield 21, 3) := by decide +kernel
theorem dX2_passSeason_146 : decode μX2_passSeason.2.1 146 = .ok (.bipush 100, 2) := by decide +kernel
theorem dX2_passSeason_148 : decode μX2_passSeason.2.1 148 = .ok (.irem, 1) := by decide +kernel
theorem dX2_passSeason_149 : decode μX2_passSeason.2.1 149 = .ok (.iload_n 2, 1) := by decide +kernel
theorem dX2_passSeason_150 : decode μX2_passSeason.2.1 150 = .ok (.if_icmp .ge 42, 3) := by decide +kernel
theorem dX2_passSeason_153 : decode μX2_passSeason.2.1 153 = .ok (.aload_n 0, 1) := by decide +kernel
theorem dX2_passSeason_154 : decode μX2_passSeason.2.1 154 = .ok (.getfield 24, 3) := by decide +kernel
theorem dX2_passSeason_157 : decode μX2_passSeason.2.1 157 = .ok (.ifCond .le 35, 3) := by decide +kernel
theorem dX2_passSeason_160 : decode μX2_passSeason.2.1 160 = .ok (.aload_n 0, 1) := by decide +kernel
theorem dX2_passSeason_161 : decode μX2_passSeason.2.1 161 = .ok (.getfield 31, 3) := by decide +kernel
theorem dX2_passSeason_164 : decode μX2_passSeason.2.1 164 = .ok (.aload_n 0, 1) := by decide +kernel
theorem dX2_passSeason_165 : decode μX2_passSeason.2.1 165 = .ok (.getfield 21, 3) := by decide +kernel
theorem dX2_passSeason_168 : decode μX2_passSeason.2.1 168 = .ok (.aload_n 0, 1) := by decide +kernel
theorem dX2_passSeason_169 : decode μX2_passSeason.2.1 169 = .ok (.getfield 24, 3) := by decide +kernel
theorem dX2_passSeason_172 : decode μX2_passSeason.2.1 172 = .ok (.irem, 1) := by decide +kernel
theorem dX2_passSeason_173 : decode μX2_passSeason.2.1 173 = .ok (.iaload, 1) := by decide +kernel
theorem dX2_passSeason_174 : decode μX2_passSeason.2.1 174 = .ok (.istore_n 3, 1) := by decide +kernel
theorem dX2_passSeason_175 : decode μX2_passSeason.2.1 175 = .ok (.aload_n 0, 1) := by decide +kernel
theorem dX2_passSeason_176 : decode μX2_passSeason.2.1 176 = .ok (.iload_n 3, 1) := by decide +kernel
theorem dX2_passSeason_177 : decode μX2_passSeason.2.1 177 = .ok (.invokestatic 72, 3) := by decide +kernel
theorem dX2_passSeason_180 : decode μX2_passSeason.2.1 180 = .ok (.iload_n 3, 1) := by decide +kernel
theorem dX2_passSeason_181 : decode μX2_passSeason.2.1 181 = .ok (.iload_n 3, 1) := by decide +kernel
theorem dX2_passSeason_182 : decode μX2_passSeason.2.1 182 = .ok (.iconst 1, 1) := by decide +kernel
theorem dX2_passSeason_183 : decode μX2_passSeason.2.1 183 = .ok (.isub, 1) := by decide +kernel
theorem dX2_passSeason_184 : decode μX2_passSeason.2.1 184 = .ok (.iand, 1) := by decide +kernel
theorem dX2_passSeason_185 : decode μX2_passSeason.2.1 185 = .ok (.invokestatic 72, 3) := by decide +kernel
theorem dX2_passSeason_188 : decode μX2_passSeason.2.1 188 = .ok (.invokevirtual 123, 3) := by decide +kernel
theorem dX2_passSeason_191 : decode μX2_passSeason.2.1 191 = .ok (.pop, 1) := by decide +kernel
theorem dX2_passSeason_192 : decode μX2_passSeason.2.1 192 = .ok (.aload_n 0, 1) := by decide +kernel
theorem dX2_passSeason_193 : decode μX2_passSeason.2.1 193 = .ok (.dup, 1) := by decide +kernel
theorem dX2_passSeason_194 : decode μX2_passSeason.2.1 194 = .ok (.getfield 18, 3) := by decide +kernel
theorem dX2_passSeason_197 : decode μX2_passSeason.2.1 197 = .ok (.iconst 1, 1) := by decide +kernel
theorem dX2_passSeason_198 : decode μX2_passSeason.2.1 198 = .ok (.iadd, 1) := by decide +kernel
theorem dX2_passSeason_199 : decode μX2_passSeason.2.1 199 = .ok (.putfield 18, 3) := by decide +kernel
theorem dX2_passSeason_202 : decode μX2_passSeason.2.1 202 = .ok (.return_, 1) := by decide +kernel
set_option maxRecDepth 20000 in
theorem sg_X2_passSeason_0 {d : Nat} {o : Nat} {g : Nat} {x2 : Int32} {M : Mem} {K : (Mem → Prop)} (ho : kd o = (0, 2)) (hg : kd g = (0, 1)) (h : RV (d + 1) μX2_passSeason 2 [(0, .ref o), (1, .ref g), (2, .int x2), (3, .int 0)] [] M K) : CV (d + 1) μX2_passSeason [.ref o, .ref g, .int x2] M K := by
  show Rn (d + 1) μX2_passSeason 0 [(0, .ref o), (1, .ref g), (2, .int x2)] [] M _
  refine rn_iconst (v := 0) dX2_passSeason_0 rfl ?_
  refine rn_istore_n (lv' := [(0, .ref o), (1, .ref g), (2, .int x2), (3, .int 0)]) (hd := dX2_passSeason_1) (i := 3) (hi := rfl) (hn := by decide) (hf := rfl) (hl := rfl) ?_
  exact h
set_option maxRecDepth 20000 in
theorem sg_X2_passSeason_2 {d : Nat} {o : Nat} {g : Nat} {x2 : Int32} {x3 : Int32} {M : Mem} {K : (Mem → Prop)} (ho : kd o = (0, 2)) (hg : kd g = (0, 1)) (h : (if ri M o 0 ≤ x3 then RV (d + 1) μX2_passSeason 42 [(0, .ref o), (1, .ref g), (2, .int x2), (3, .int 0)] [] M K else (CI d μX2_isThere [.ref o, .int x3] M (fun r2 M1 => (if r2 = 0 then (vp_in x3 8 ∧ ∀ M3, M3 = wi M1 (o + 5) (nx x3) 0 → RV (d + 1) μX2_passSeason 2 [(0, .ref o), (1, .ref g), (2, .int x2), (3, .int (x3 + 1))] [] M3 K) else (CI d μX2_growthOf [.ref o, .int x3, .ref g] M1 (fun r5 M4 => (vp_in x3 8 ∧ ∀ M6, M6 = wi M4 (o + 5) (nx x3) r5 → RV (d + 1) μX2_passSeason 2 [(0, .ref o), (1, .ref g), (2, .int x2), (3, .int (x3 + 1))] [] M6 K)))))))) : RV (d + 1) μX2_passSeason 2 [(0, .ref o), (1, .ref g), (2, .int x2), (3, .int x3)] [] M K := by
  show Rn (d + 1) μX2_passSeason 2 [(0, .ref o), (1, .ref g), (2, .int x2), (3, .int x3)] [] M _
  refine rn_iload_n (i := 3) (x := x3) dX2_passSeason_2 rfl (by simp) ?_
  refine rn_aload_n (i := 0) (x := o) dX2_passSeason_3 rfl (by simp) ?_
  refine rn_geti dX2_passSeason_4 ho gf_X2_9 (by decide) ?_
  refine rn_icmp_ge (tgt := 40) dX2_passSeason_7 (by decide) (ite_go h (fun hc h => ?_) (fun hc h => ?_))
  · refine rn_iconst (v := 0) dX2_passSeason_40 rfl ?_
    refine rn_istore_n (lv' := [(0, .ref o), (1, .ref g), (2, .int x2), (3, .int 0)]) (hd := dX2_passSeason_41) (i := 3) (hi := rfl) (hn := by decide) (hf := rfl) (hl := rfl) ?_
    exact h
  · refine rn_aload_n (i := 0) (x := o) dX2_passSeason_10 rfl (by simp) ?_
    refine rn_getr (t := o + 5) dX2_passSeason_11 ho gf_X2_40 rfl (froth_refs _ ho).2.2.2.2.1 ?_
    refine rn_iload_n (i := 3) (x := x3) dX2_passSeason_14 rfl (by simp) ?_
    refine rn_aload_n (i := 0) (x := o) dX2_passSeason_15 rfl (by simp) ?_
    refine rn_iload_n (i := 3) (x := x3) dX2_passSeason_16 rfl (by simp) ?_
    refine rn_callVi (as := [.int x3]) (st := [.int x3, .ref (o + 5)]) dX2_passSeason_17 mf_X2_isThere lk_X2_110 im_X2_isThere ho rfl rfl rfl (Nat.le_of_ble_eq_true rfl) (Nat.le_of_ble_eq_true rfl) rfl (RI.mono h (fun r2 M1 h => ?_))
    refine rn_if_eq (tgt := 32) dX2_passSeason_20 (by decide) (ite_go h (fun hc h => ?_) (fun hc h => ?_))
    · refine rn_iconst (v := 0) dX2_passSeason_32 rfl ?_
      obtain ⟨hi, h⟩ := h
      have h := h _ rfl
      refine rn_iastore dX2_passSeason_33 (froth_refs _ ho).2.2.2.2.2 hi ?_
      generalize wi M1 (o + 5) (nx x3) 0 = M3 at h ⊢
      refine rn_iinc (x := x3) (v := x3 + 1) (lv' := [(0, .ref o), (1, .ref g), (2, .int x2), (3, .int (x3 + 1))]) dX2_passSeason_34 (by simp) rfl (by decide) rfl rfl ?_
      refine rn_goto (tgt := 2) dX2_passSeason_37 (by decide) ?_
      exact h
    · refine rn_aload_n (i := 0) (x := o) dX2_passSeason_23 rfl (by simp) ?_
      refine rn_iload_n (i := 3) (x := x3) dX2_passSeason_24 rfl (by simp) ?_
      refine rn_aload_n (i := 1) (x := g) dX2_passSeason_25 rfl (by simp) ?_
      refine rn_callVi (as := [.int x3, .ref g]) (st := [.int x3, .ref (o + 5)]) dX2_passSeason_26 mf_X2_growthOf lk_X2_113 im_X2_growthOf ho rfl rfl rfl (Nat.le_of_ble_eq_true rfl) (Nat.le_of_ble_eq_true rfl) rfl (RI.mono h (fun r5 M4 h => ?_))
      refine rn_goto (tgt := 33) dX2_passSeason_29 (by decide) ?_
      obtain ⟨hi, h⟩ := h
      have h := h _ rfl
      refine rn_iastore dX2_passSeason_33 (froth_refs _ ho).2.2.2.2.2 hi ?_
      generalize wi M4 (o + 5) (nx x3) r5 = M6 at h ⊢
      refine rn_iinc (x := x3) (v := x3 + 1) (lv' := [(0, .ref o), (1, .ref g), (2, .int x2), (3, .int (x3 + 1))]) dX2_passSeason_34 (by simp) rfl (by decide) rfl rfl ?_
      refine rn_goto (tgt := 2) dX2_passSeason_37 (by decide) ?_
      exact h
set_option maxRecDepth 20000 in
theorem sg_X2_passSeason_42 {d : Nat} {o : Nat} {g : Nat} {x2 : Int32} {x3 : Int32} {M : Mem} {K : (Mem → Prop)} (ho : kd o = (0, 2)) (hg : kd g = (0, 1)) (h : (if ri M o 0 ≤ x3 then RV (d + 1) μX2_passSeason 87 [(0, .ref o), (1, .ref g), (2, .int x2), (3, .int 0)] [] M K else (vp_in x3 8 ∧ (vp_in x3 8 ∧ (vp_in x3 8 ∧ ∀ M1, M1 = wi M (o + 1) (nx x3) (if 0 < if (ri M (o + 1) (nx x3)) + (ri M (o + 5) (nx x3)) < 999 then (ri M (o + 1) (nx x3)) + (ri M (o + 5) (nx x3)) else 999 then if (ri M (o + 1) (nx x3)) + (ri M (o + 5) (nx x3)) < 999 then (ri M (o + 1) (nx x3)) + (ri M (o + 5) (nx x3)) else 999 else 0) → RV (d + 1) μX2_passSeason 42 [(0, .ref o), (1, .ref g), (2, .int x2), (3, .int (x3 + 1))] [] M1 K))))) : RV (d + 1) μX2_passSeason 42 [(0, .ref o), (1, .ref g), (2, .int x2), (3, .int x3)] [] M K := by
  show Rn (d + 1) μX2_passSeason 42 [(0, .ref o), (1, .ref g), (2, .int x2), (3, .int x3)] [] M _
  refine rn_iload_n (i := 3) (x := x3) dX2_passSeason_42 rfl (by simp) ?_
  refine rn_aload_n (i := 0) (x := o) dX2_passSeason_43 rfl (by simp) ?_
  refine rn_geti dX2_passSeason_44 ho gf_X2_9 (by decide) ?_
  refine rn_icmp_ge (tgt := 85) dX2_passSeason_47 (by decide) (ite_go h (fun hc h => ?_) (fun hc h => ?_))
  · refine rn_iconst (v := 0) dX2_passSeason_85 rfl ?_
    refine rn_istore_n (lv' := [(0, .ref o), (1, .ref g), (2, .int x2), (3, .int 0)]) (hd := dX2_passSeason_86) (i := 3) (hi := rfl) (hn := by decide) (hf := rfl) (hl := rfl) ?_
    exact h
  · refine rn_aload_n (i := 0) (x := o) dX2_passSeason_50 rfl (by simp) ?_
    refine rn_getr (t := o + 1) dX2_passSeason_51 ho gf_X2_27 rfl (froth_refs _ ho).1.1 ?_
    refine rn_iload_n (i := 3) (x := x3) dX2_passSeason_54 rfl (by simp) ?_
    refine rn_iconst (v := 0) dX2_passSeason_55 rfl ?_
    refine rn_sipush (v := 999) dX2_passSeason_56 rfl ?_
    refine rn_aload_n (i := 0) (x := o) dX2_passSeason_59 rfl (by simp) ?_
    refine rn_getr (t := o + 1) dX2_passSeason_60 ho gf_X2_27 rfl (froth_refs _ ho).1.1 ?_
    refine rn_iload_n (i := 3) (x := x3) dX2_passSeason_63 rfl (by simp) ?_
    obtain ⟨hi, h⟩ := h
    refine rn_iaload dX2_passSeason_64 (froth_refs _ ho).1.2 hi ?_
    refine rn_aload_n (i := 0) (x := o) dX2_passSeason_65 rfl (by simp) ?_
    refine rn_getr (t := o + 5) dX2_passSeason_66 ho gf_X2_40 rfl (froth_refs _ ho).2.2.2.2.1 ?_
    refine rn_iload_n (i := 3) (x := x3) dX2_passSeason_69 rfl (by simp) ?_
    obtain ⟨hi, h⟩ := h
    refine rn_iaload dX2_passSeason_70 (froth_refs _ ho).2.2.2.2.2 hi ?_
    refine rn_iadd dX2_passSeason_71 ?_
    refine rn_mmin dX2_passSeason_72 mi_X2_89 (Nat.le_of_ble_eq_true rfl) ?_
    refine rn_mmax dX2_passSeason_75 mi_X2_117 (Nat.le_of_ble_eq_true rfl) ?_
    obtain ⟨hi, h⟩ := h
    have h := h _ rfl
    refine rn_iastore dX2_passSeason_78 (froth_refs _ ho).1.2 hi ?_
    generalize wi M (o + 1) (nx x3) (if 0 < if (ri M (o + 1) (nx x3)) + (ri M (o + 5) (nx x3)) < 999 then (ri M (o + 1) (nx x3)) + (ri M (o + 5) (nx x3)) else 999 then if (ri M (o + 1) (nx x3)) + (ri M (o + 5) (nx x3)) < 999 then (ri M (o + 1) (nx x3)) + (ri M (o + 5) (nx x3)) else 999 else 0) = M1 at h ⊢
    refine rn_iinc (x := x3) (v := x3 + 1) (lv' := [(0, .ref o), (1, .ref g), (2, .int x2), (3, .int (x3 + 1))]) dX2_passSeason_79 (by simp) rfl (by decide) rfl rfl ?_
    refine rn_goto (tgt := 42) dX2_passSeason_82 (by decide) ?_
    exact h
set_option maxRecDepth 20000 in
theorem sg_X2_passSeason_87 {d : Nat} {o : Nat} {g : Nat} {x2 : Int32} {x3 : Int32} {M : Mem} {K : (Mem → Prop)} (ho : kd o = (0, 2)) (hg : kd g = (0, 1)) (h : (if ri M o 0 ≤ x3 then (∀ M1, M1 = wi M o 3 ((((ri M o 3) * 137) + 71) - (((ri M o 3) * 137) + 71) / 1000 * 1000) → (if x2 ≤ (ri M1 o 3) - (ri M1 o 3) / 100 * 100 then (∀ M2, M2 = wi M1 o 2 ((ri M1 o 2) + 1) → K M2) else (if ri M1 o 4 ≤ 0 then (∀ M3, M3 = wi M1 o 2 ((ri M1 o 2) + 1) → K M3) else (¬ ri M1 o 4 = 0 ∧ (vp_in ((ri M1 o 3) - (ri M1 o 3) / (ri M1 o 4) * (ri M1 o 4)) 12 ∧ (CI d μX8_lowest [.int (ri M1 (o + 2) (nx ((ri M1 o 3) - (ri M1 o 3) / (ri M1 o 4) * (ri M1 o 4))))] M1 (fun r5 M4 => (CI d μX8_lowest [.int ((ri M1 (o + 2) (nx ((ri M1 o 3) - (ri M1 o 3) / (ri M1 o 4) * (ri M1 o 4)))) &&& ((ri M1 (o + 2) (nx ((ri M1 o 3) - (ri M1 o 3) / (ri M1 o 4) * (ri M1 o 4)))) - 1))] M4 (fun r7 M6 => (CI d μX2_turnWall [.ref o, .int r5, .int r7] M6 (fun r9 M8 => (∀ M10, M10 = wi M8 o 2 ((ri M8 o 2) + 1) → K M10)))))))))))) else (CI d μX2_isThere [.ref o, .int x3] M (fun r12 M11 => (if r12 = 0 then RV (d + 1) μX2_passSeason 87 [(0, .ref o), (1, .ref g), (2, .int x2), (3, .int (x3 + 1))] [] M11 K else (vp_in x3 8 ∧ (if ri M11 (o + 1) (nx x3) = 0 then (CV d μX2_wither [.ref o, .int x3] M11 (fun M13 => RV (d + 1) μX2_passSeason 87 [(0, .ref o), (1, .ref g), (2, .int x2), (3, .int (x3 + 1))] [] M13 K)) else RV (d + 1) μX2_passSeason 87 [(0, .ref o), (1, .ref g), (2, .int x2), (3, .int (x3 + 1))] [] M11 K))))))) : RV (d + 1) μX2_passSeason 87 [(0, .ref o), (1, .ref g), (2, .int x2), (3, .int x3)] [] M K := by
  show Rn (d + 1) μX2_passSeason 87 [(0, .ref o), (1, .ref g), (2, .int x2), (3, .int x3)] [] M _
  refine rn_iload_n (i := 3) (x := x3) dX2_passSeason_87 rfl (by simp) ?_
  refine rn_aload_n (i := 0) (x := o) dX2_passSeason_88 rfl (by simp) ?_
  refine rn_geti dX2_passSeason_89 ho gf_X2_9 (by decide) ?_
  refine rn_icmp_ge (tgt := 123) dX2_passSeason_92 (by decide) (ite_go h (fun hc h => ?_) (fun hc h => ?_))
  · refine rn_aload_n (i := 0) (x := o) dX2_passSeason_123 rfl (by simp) ?_
    refine rn_aload_n (i := 0) (x := o) dX2_passSeason_124 rfl (by simp) ?_
    refine rn_geti dX2_passSeason_125 ho gf_X2_21 (by decide) ?_
    refine rn_sipush (v := 137) dX2_passSeason_128 rfl ?_
    refine rn_imul dX2_passSeason_131 ?_
    refine rn_bipush (v := 71) dX2_passSeason_132 rfl ?_
    refine rn_iadd dX2_passSeason_134 ?_
    refine rn_sipush (v := 1000) dX2_passSeason_135 rfl ?_
    refine rn_irem dX2_passSeason_138 (by decide) ?_
    have h := h _ rfl
    refine rn_puti dX2_passSeason_139 ho pf_X2_21 (by decide) rfl rfl ?_
    generalize wi M o 3 ((((ri M o 3) * 137) + 71) - (((ri M o 3) * 137) + 71) / 1000 * 1000) = M1 at h ⊢
    refine rn_aload_n (i := 0) (x := o) dX2_passSeason_142 rfl (by simp) ?_
    refine rn_geti dX2_passSeason_143 ho gf_X2_21 (by decide) ?_
    refine rn_bipush (v := 100) dX2_passSeason_146 rfl ?_
    refine rn_irem dX2_passSeason_148 (by decide) ?_
    refine rn_iload_n (i := 2) (x := x2) dX2_passSeason_149 rfl (by simp) ?_
    refine rn_icmp_ge (tgt := 192) dX2_passSeason_150 (by decide) (ite_go h (fun hc h => ?_) (fun hc h => ?_))
    · refine rn_aload_n (i := 0) (x := o) dX2_passSeason_192 rfl (by simp) ?_
      refine rn_dup dX2_passSeason_193 rfl ?_
      refine rn_geti dX2_passSeason_194 ho gf_X2_18 (by decide) ?_
      refine rn_iconst (v := 1) dX2_passSeason_197 rfl ?_
      refine rn_iadd dX2_passSeason_198 ?_
      have h := h _ rfl
      refine rn_puti dX2_passSeason_199 ho pf_X2_18 (by decide) rfl rfl ?_
      generalize wi M1 o 2 ((ri M1 o 2) + 1) = M2 at h ⊢
      exact rn_ret dX2_passSeason_202 rfl ⟨rfl, h⟩
    · refine rn_aload_n (i := 0) (x := o) dX2_passSeason_153 rfl (by simp) ?_
      refine rn_geti dX2_passSeason_154 ho gf_X2_24 (by decide) ?_
      refine rn_if_le (tgt := 192) dX2_passSeason_157 (by decide) (ite_go h (fun hc h => ?_) (fun hc h => ?_))
      · refine rn_aload_n (i := 0) (x := o) dX2_passSeason_192 rfl (by simp) ?_
        refine rn_dup dX2_passSeason_193 rfl ?_
        refine rn_geti dX2_passSeason_194 ho gf_X2_18 (by decide) ?_
        refine rn_iconst (v := 1) dX2_passSeason_197 rfl ?_
        refine rn_iadd dX2_passSeason_198 ?_
        have h := h _ rfl
        refine rn_puti dX2_passSeason_199 ho pf_X2_18 (by decide) rfl rfl ?_
        generalize wi M1 o 2 ((ri M1 o 2) + 1) = M3 at h ⊢
        exact rn_ret dX2_passSeason_202 rfl ⟨rfl, h⟩
      · refine rn_aload_n (i := 0) (x := o) dX2_passSeason_160 rfl (by simp) ?_
        refine rn_getr (t := o + 2) dX2_passSeason_161 ho gf_X2_31 rfl (froth_refs _ ho).2.1.1 ?_
        refine rn_aload_n (i := 0) (x := o) dX2_passSeason_164 rfl (by simp) ?_
        refine rn_geti dX2_passSeason_165 ho gf_X2_21 (by decide) ?_
        refine rn_aload_n (i := 0) (x := o) dX2_passSeason_168 rfl (by simp) ?_
        refine rn_geti dX2_passSeason_169 ho gf_X2_24 (by decide) ?_
        obtain ⟨hne, h⟩ := h
        refine rn_irem dX2_passSeason_172 hne ?_
        obtain ⟨hi, h⟩ := h
        refine rn_iaload dX2_passSeason_173 (froth_refs _ ho).2.1.2 hi ?_
        refine rn_istore_n (lv' := [(0, .ref o), (1, .ref g), (2, .int x2), (3, .int (ri M1 (o + 2) (nx ((ri M1 o 3) - (ri M1 o 3) / (ri M1 o 4) * (ri M1 o 4)))))]) (hd := dX2_passSeason_174) (i := 3) (hi := rfl) (hn := by decide) (hf := rfl) (hl := rfl) ?_
        refine rn_aload_n (i := 0) (x := o) dX2_passSeason_175 rfl (by simp) ?_
        refine rn_iload_n (i := 3) (x := ri M1 (o + 2) (nx ((ri M1 o 3) - (ri M1 o 3) / (ri M1 o 4) * (ri M1 o 4)))) dX2_passSeason_176 rfl (by simp) ?_
        refine rn_callSNi (as := [.int (ri M1 (o + 2) (nx ((ri M1 o 3) - (ri M1 o 3) / (ri M1 o 4) * (ri M1 o 4))))]) (st := [.ref o]) dX2_passSeason_177 mf_X8_lowest nk_X2_72 sm_X8_lowest rfl (Nat.le_of_ble_eq_true rfl) (Nat.le_of_ble_eq_true rfl) rfl (RI.mono h (fun r5 M4 h => ?_))
        refine rn_iload_n (i := 3) (x := ri M1 (o + 2) (nx ((ri M1 o 3) - (ri M1 o 3) / (ri M1 o 4) * (ri M1 o 4)))) dX2_passSeason_180 rfl (by simp) ?_
        refine rn_iload_n (i := 3) (x := ri M1 (o + 2) (nx ((ri M1 o 3) - (ri M1 o 3) / (ri M1 o 4) * (ri M1 o 4)))) dX2_passSeason_181 rfl (by simp) ?_
        refine rn_iconst (v := 1) dX2_passSeason_182 rfl ?_
        refine rn_isub dX2_passSeason_183 ?_
        refine rn_iand dX2_passSeason_184 ?_
        refine rn_callSNi (as := [.int ((ri M1 (o + 2) (nx ((ri M1 o 3) - (ri M1 o 3) / (ri M1 o 4) * (ri M1 o 4)))) &&& ((ri M1 (o + 2) (nx ((ri M1 o 3) - (ri M1 o 3) / (ri M1 o 4) * (ri M1 o 4)))) - 1))]) (st := [.int r5, .ref o]) dX2_passSeason_185 mf_X8_lowest nk_X2_72 sm_X8_lowest rfl (Nat.le_of_ble_eq_true rfl) (Nat.le_of_ble_eq_true rfl) rfl (RI.mono h (fun r7 M6 h => ?_))
        refine rn_callVi (as := [.int r5, .int r7]) (st := []) dX2_passSeason_188 mf_X2_turnWall lk_X2_123 im_X2_turnWall ho rfl rfl rfl (Nat.le_of_ble_eq_true rfl) (Nat.le_of_ble_eq_true rfl) rfl (RI.mono h (fun r9 M8 h => ?_))
        refine rn_pop dX2_passSeason_191 rfl ?_
        refine rn_aload_n (i := 0) (x := o) dX2_passSeason_192 rfl (by simp) ?_
        refine rn_dup dX2_passSeason_193 rfl ?_
        refine rn_geti dX2_passSeason_194 ho gf_X2_18 (by decide) ?_
        refine rn_iconst (v := 1) dX2_passSeason_197 rfl ?_
        refine rn_iadd dX2_passSeason_198 ?_
        have h := h _ rfl
        refine rn_puti dX2_passSeason_199 ho pf_X2_18 (by decide) rfl rfl ?_
        generalize wi M8 o 2 ((ri M8 o 2) + 1) = M10 at h ⊢
        exact rn_ret dX2_passSeason_202 rfl ⟨rfl, h⟩
  · refine rn_aload_n (i := 0) (x := o) dX2_passSeason_95 rfl (by simp) ?_
    refine rn_iload_n (i := 3) (x := x3) dX2_passSeason_96 rfl (by simp) ?_
    refine rn_callVi (as := [.int x3]) (st := []) dX2_passSeason_97 mf_X2_isThere lk_X2_110 im_X2_isThere ho rfl rfl rfl (Nat.le_of_ble_eq_true rfl) (Nat.le_of_ble_eq_true rfl) rfl (RI.mono h (fun r12 M11 h => ?_))
    refine rn_if_eq (tgt := 117) dX2_passSeason_100 (by decide) (ite_go h (fun hc h => ?_) (fun hc h => ?_))
    · refine rn_iinc (x := x3) (v := x3 + 1) (lv' := [(0, .ref o), (1, .ref g), (2, .int x2), (3, .int (x3 + 1))]) dX2_passSeason_117 (by simp) rfl (by decide) rfl rfl ?_
      refine rn_goto (tgt := 87) dX2_passSeason_120 (by decide) ?_
      exact h
    · refine rn_aload_n (i := 0) (x := o) dX2_passSeason_103 rfl (by simp) ?_
      refine rn_getr (t := o + 1) dX2_passSeason_104 ho gf_X2_27 rfl (froth_refs _ ho).1.1 ?_
      refine rn_iload_n (i := 3) (x := x3) dX2_passSeason_107 rfl (by simp) ?_
      obtain ⟨hi, h⟩ := h
      refine rn_iaload dX2_passSeason_108 (froth_refs _ ho).1.2 hi ?_
      refine rn_if_ne (tgt := 117) dX2_passSeason_109 (by decide) (ite_go h (fun hc h => ?_) (fun hc h => ?_))
      · refine rn_aload_n (i := 0) (x := o) dX2_passSeason_112 rfl (by simp) ?_
        refine rn_iload_n (i := 3) (x := x3) dX2_passSeason_113 rfl (by simp) ?_
        refine rn_callVv (as := [.int x3]) (st := []) dX2_passSeason_114 mf_X2_wither lk_X2_120 im_X2_wither ho rfl rfl rfl (Nat.le_of_ble_eq_true rfl) (Nat.le_of_ble_eq_true rfl) rfl (RV.mono h (fun M13 h => ?_))
        refine rn_iinc (x := x3) (v := x3 + 1) (lv' := [(0, .ref o), (1, .ref g), (2, .int x2), (3, .int (x3 + 1))]) dX2_passSeason_117 (by simp) rfl (by decide) rfl rfl ?_
        refine rn_goto (tgt := 87) dX2_passSeason_120 (by decide) ?_
        exact h
      · refine rn_iinc (x := x3) (v := x3 + 1) (lv' := [(0, .ref o), (1, .ref g), (2, .int x2), (3, .int (x3 + 1))]) dX2_passSeason_117 (by simp) rfl (by decide) rfl rfl ?_
        refine rn_goto (tgt := 87) dX2_passSeason_120 (by decide) ?_
        exact h
theorem dX2_wither_0 : decode μX2_wither.2.1 0 = .ok (.aload_n 0, 1) := by decide +kernel
theorem dX2_wither_1 : decode μX2_wither.2.1 1 = .ok (.getfield 37, 3) := by decide +kernel
theorem dX2_wither_4 : decode μX2_wither.2.1 4 = .ok (.iload_n 1, 1) := by decide +kernel
theorem dX2_wither_5 : decode μX2_wither.2.1 5 = .ok (.iaload, 1) := by decide +kernel
theorem dX2_wither_6 : decode μX2_wither.2.1 6 = .ok (.iconst 3, 1) := by decide +kernel
theorem dX2_wither_7 : decode μX2_wither.2.1 7 = .ok (.if_icmp .ne 38, 3) := by decide +kernel
theorem dX2_wither_10 : decode μX2_wither.2.1 10 = .ok (.aload_n 0, 1) := by decide +kernel
theorem dX2_wither_11 : decode μX2_wither.2.1 11 = .ok (.invokevirtual 82, 3) := by decide +kernel
theorem dX2_wither_14 : decode μX2_wither.2.1 14 = .ok (.iconst 3, 1) := by decide +kernel
theorem dX2_wither_15 : decode μX2_wither.2.1 15 = .ok (.if_icmp .le 30, 3) := by decide +kernel
theorem dX2_wither_18 : decode μX2_wither.2.1 18 = .ok (.aload_n 0, 1) := by decide +kernel
theorem dX2_wither_19 : decode μX2_wither.2.1 19 = .ok (.iconst 1, 1) := by decide +kernel
theorem dX2_wither_20 : decode μX2_wither.2.1 20 = .ok (.iload_n 1, 1) := by decide +kernel
theorem dX2_wither_21 : decode μX2_wither.2.1 21 = .ok (.ishl, 1) := by decide +kernel
theorem dX2_wither_22 : decode μX2_wither.2.1 22 = .ok (.invokevirtual 79, 3) := by decide +kernel
theorem dX2_wither_25 : decode μX2_wither.2.1 25 = .ok (.aload_n 0, 1) := by decide +kernel
theorem dX2_wither_26 : decode μX2_wither.2.1 26 = .ok (.aload_n 0, 1) := by decide +kernel
theorem dX2_wither_27 : decode μX2_wither.2.1 27 = .ok (.getfield 34, 3) := by decide +kernel
theorem dX2_wither_30 : decode μX2_wither.2.1 30 = .ok (.iload_n 1, 1) := by decide +kernel
theorem dX2_wither_31 : decode μX2_wither.2.1 31 = .ok (.iaload, 1) := by decide +kernel
theorem dX2_wither_32 : decode μX2_wither.2.1 32 = .ok (.invokevirtual 58, 3) := by decide +kernel
theorem dX2_wither_35 : decode μX2_wither.2.1 35 = .ok (.aload_n 0, 1) := by decide +kernel
theorem dX2_wither_36 : decode μX2_wither.2.1 36 = .ok (.iload_n 1, 1) := by decide +kernel
theorem dX2_wither_37 : decode μX2_wither.2.1 37 = .ok (.invokevirtual 94, 3) := by decide +kernel
theorem dX2_wither_40 : decode μX2_wither.2.1 40 = .ok (.aload_n 0, 1) := by decide +kernel
theorem dX2_wither_41 : decode μX2_wither.2.1 41 = .ok (.invokevirtual 43, 3) := by decide +kernel
theorem dX2_wither_44 : decode μX2_wither.2.1 44 = .ok (.return_, 1) := by decide +kernel
theorem dX2_wither_45 : decode μX2_wither.2.1 45 = .ok (.iconst 0, 1) := by decide +kernel
theorem dX2_wither_46 : decode μX2_wither.2.1 46 = .ok (.istore_n 2, 1) := by decide +kernel
theorem dX2_wither_47 : decode μX2_wither.2.1 47 = .ok (.iload_n 2, 1) := by decide +kernel
theorem dX2_wither_48 : decode μX2_wither.2.1 48 = .ok (.aload_n 0, 1) := by decide +kernel
theorem dX2_wither_49 : decode μX2_wither.2.1 49 = .ok (.getfield 9, 3) := by decide +kernel
theorem dX2_wither_52 : decode μX2_wither.2.1 52 = .ok (.if_icmp .ge 19, 3) := by decide +kernel
theorem dX2_wither_55 : decode μX2_wither.2.1 55 = .ok (.aload_n 0, 1) := by decide +kernel
theorem dX2_wither_56 : decode μX2_wither.2.1 56 = .ok (.iload_n 1, 1) := by decide +kernel
theorem dX2_wither_57 : decode μX2_wither.2.1 57 = .ok (.iload_n 2, 1) := by decide +kernel
theorem dX2_wither_58 : decode μX2_wither.2.1 58 = .ok (.invokevirtual 123, 3) := by decide +kernel
theorem dX2_wither_61 : decode μX2_wither.2.1 61 = .ok (.ifCond .eq 4, 3) := by decide +kernel
theorem dX2_wither_64 : decode μX2_wither.2.1 64 = .ok (.return_, 1) := by decide +kernel
theorem dX2_wither_65 : decode μX2_wither.2.1 65 = .ok (.iinc 2 1, 3) := by decide +kernel
theorem dX2_wither_68 : decode μX2_wither.2.1 68 = .ok (.goto (-21), 3) := by decide +kernel
theorem dX2_wither_71 : decode μX2_wither.2.1 71 = .ok (.return_, 1) := by decide +kernel
set_option maxRecDepth 20000 in
theorem sg_X2_wither_0 {d : Nat} {o : Nat} {x1 : Int32} {M : Mem} {K : (Mem → Prop)} (ho : kd o = (0, 2)) (h : (vp_in x1 8 ∧ (if ri M (o + 4) (nx x1) = 3 then (CI d μX2_howManyThere [.ref o] M (fun r2 M1 => (if r2 ≤ 3 then RV (d + 1) μX2_wither 47 [(0, .ref o), (1, .int x1), (2, .int 0)] [] M1 K else (CV d μX2_dropCornersOf [.ref o, .int ((1 : Int32) <<< (x1 &&& 31))] M1 (fun M3 => (vp_in x1 8 ∧ (CV d μX2_addCorner [.ref o, .int (ri M3 (o + 3) (nx x1))] M3 (fun M4 => (CV d μX2_leave [.ref o, .int x1] M4 (fun M5 => (CV d μX2_settle [.ref o] M5 (fun M6 => K M6)))))))))))) else RV (d + 1) μX2_wither 47 [(0, .ref o), (1, .int x1), (2, .int 0)] [] M K))) : CV (d + 1) μX2_wither [.ref o, .int x1] M K := by
  show Rn (d + 1) μX2_wither 0 [(0, .ref o), (1, .int x1)] [] M _
  refine rn_aload_n (i := 0) (x := o) dX2_wither_0 rfl (by simp) ?_
  refine rn_getr (t := o + 4) dX2_wither_1 ho gf_X2_37 rfl (froth_refs _ ho).2.2.2.1.1 ?_
  refine rn_iload_n (i := 1) (x := x1) dX2_wither_4 rfl (by simp) ?_
  obtain ⟨hi, h⟩ := h
  refine rn_iaload dX2_wither_5 (froth_refs _ ho).2.2.2.1.2 hi ?_
  refine rn_iconst (v := 3) dX2_wither_6 rfl ?_
  refine rn_icmp_ne (tgt := 45) dX2_wither_7 (by decide) (ite_go h (fun hc h => ?_) (fun hc h => ?_))
  · refine rn_aload_n (i := 0) (x := o) dX2_wither_10 rfl (by simp) ?_
    refine rn_callVi (as := []) (st := []) dX2_wither_11 mf_X2_howManyThere lk_X2_82 im_X2_howManyThere ho rfl rfl rfl (Nat.le_of_ble_eq_true rfl) (Nat.le_of_ble_eq_true rfl) rfl (RI.mono h (fun r2 M1 h => ?_))
    refine rn_iconst (v := 3) dX2_wither_14 rfl ?_
    refine rn_icmp_le (tgt := 45) dX2_wither_15 (by decide) (ite_go h (fun hc h => ?_) (fun hc h => ?_))
    · refine rn_iconst (v := 0) dX2_wither_45 rfl ?_
      refine rn_istore_n (lv' := [(0, .ref o), (1, .int x1), (2, .int 0)]) (hd := dX2_wither_46) (i := 2) (hi := rfl) (hn := by decide) (hf := rfl) (hl := rfl) ?_
      exact h
    · refine rn_aload_n (i := 0) (x := o) dX2_wither_18 rfl (by simp) ?_
      refine rn_iconst (v := 1) dX2_wither_19 rfl ?_
      refine rn_iload_n (i := 1) (x := x1) dX2_wither_20 rfl (by simp) ?_
      refine rn_ishl dX2_wither_21 ?_
      refine rn_callVv (as := [.int ((1 : Int32) <<< (x1 &&& 31))]) (st := []) dX2_wither_22 mf_X2_dropCornersOf lk_X2_79 im_X2_dropCornersOf ho rfl rfl rfl (Nat.le_of_ble_eq_true rfl) (Nat.le_of_ble_eq_true rfl) rfl (RV.mono h (fun M3 h => ?_))
      refine rn_aload_n (i := 0) (x := o) dX2_wither_25 rfl (by simp) ?_
      refine rn_aload_n (i := 0) (x := o) dX2_wither_26 rfl (by simp) ?_
      refine rn_getr (t := o + 3) dX2_wither_27 ho gf_X2_34 rfl (froth_refs _ ho).2.2.1.1 ?_
      refine rn_iload_n (i := 1) (x := x1) dX2_wither_30 rfl (by simp) ?_
      obtain ⟨hi, h⟩ := h
      refine rn_iaload dX2_wither_31 (froth_refs _ ho).2.2.1.2 hi ?_
      refine rn_callVv (as := [.int (ri M3 (o + 3) (nx x1))]) (st := []) dX2_wither_32 mf_X2_addCorner lk_X2_58 im_X2_addCorner ho rfl rfl rfl (Nat.le_of_ble_eq_true rfl) (Nat.le_of_ble_eq_true rfl) rfl (RV.mono h (fun M4 h => ?_))
      refine rn_aload_n (i := 0) (x := o) dX2_wither_35 rfl (by simp) ?_
      refine rn_iload_n (i := 1) (x := x1) dX2_wither_36 rfl (by simp) ?_
      refine rn_callVv (as := [.int x1]) (st := []) dX2_wither_37 mf_X2_leave lk_X2_94 im_X2_leave ho rfl rfl rfl (Nat.le_of_ble_eq_true rfl) (Nat.le_of_ble_eq_true rfl) rfl (RV.mono h (fun M5 h => ?_))
      refine rn_aload_n (i := 0) (x := o) dX2_wither_40 rfl (by simp) ?_
      refine rn_callVv (as := []) (st := []) dX2_wither_41 mf_X2_settle lk_X2_43 im_X2_settle ho rfl rfl rfl (Nat.le_of_ble_eq_true rfl) (Nat.le_of_ble_eq_true rfl) rfl (RV.mono h (fun M6 h => ?_))
      exact rn_ret dX2_wither_44 rfl ⟨rfl, h⟩
  · refine rn_iconst (v := 0) dX2_wither_45 rfl ?_
    refine rn_istore_n (lv' := [(0, .ref o), (1, .int x1), (2, .int 0)]) (hd := dX2_wither_46) (i := 2) (hi := rfl) (hn := by decide) (hf := rfl) (hl := rfl) ?_
    exact h
set_option maxRecDepth 20000 in
theorem sg_X2_wither_47 {d : Nat} {o : Nat} {x1 : Int32} {x2 : Int32} {M : Mem} {K : (Mem → Prop)} (ho : kd o = (0, 2)) (h : (if ri M o 0 ≤ x2 then K M else (CI d μX2_turnWall [.ref o, .int x1, .int x2] M (fun r2 M1 => (if r2 = 0 then RV (d + 1) μX2_wither 47 [(0, .ref o), (1, .int x1), (2, .int (x2 + 1))] [] M1 K else K M1))))) : RV (d + 1) μX2_wither 47 [(0, .ref o), (1, .int x1), (2, .int x2)] [] M K := by
  show Rn (d + 1) μX2_wither 47 [(0, .ref o), (1, .int x1), (2, .int x2)] [] M _
  refine rn_iload_n (i := 2) (x := x2) dX2_wither_47 rfl (by simp) ?_
  refine rn_aload_n (i := 0) (x := o) dX2_wither_48 rfl (by simp) ?_
  refine rn_geti dX2_wither_49 ho gf_X2_9 (by decide) ?_
  refine rn_icmp_ge (tgt := 71) dX2_wither_52 (by decide) (ite_go h (fun hc h => ?_) (fun hc h => ?_))
  · exact rn_ret dX2_wither_71 rfl ⟨rfl, h⟩
  · refine rn_aload_n (i := 0) (x := o) dX2_wither_55 rfl (by simp) ?_
    refine rn_iload_n (i := 1) (x := x1) dX2_wither_56 rfl (by simp) ?_
    refine rn_iload_n (i := 2) (x := x2) dX2_wither_57 rfl (by simp) ?_
    refine rn_callVi (as := [.int x1, .int x2]) (st := []) dX2_wither_58 mf_X2_turnWall lk_X2_123 im_X2_turnWall ho rfl rfl rfl (Nat.le_of_ble_eq_true rfl) (Nat.le_of_ble_eq_true rfl) rfl (RI.mono h (fun r2 M1 h => ?_))
    refine rn_if_eq (tgt := 65) dX2_wither_61 (by decide) (ite_go h (fun hc h => ?_) (fun hc h => ?_))
    · refine rn_iinc (x := x2) (v := x2 + 1) (lv' := [(0, .ref o), (1, .int x1), (2, .int (x2 + 1))]) dX2_wither_65 (by simp) rfl (by decide) rfl rfl ?_
      refine rn_goto (tgt := 47) dX2_wither_68 (by decide) ?_
      exact h
    · exact rn_ret dX2_wither_64 rfl ⟨rfl, h⟩
theorem dJ6_bitCount_0f7a4_0 : decode μJ6_bitCount_0f7a4.2.1 0 = .ok (.iload_n 0, 1) := by decide +kernel
theorem dJ6_bitCount_0f7a4_1 : decode μJ6_bitCount_0f7a4.2.1 1 = .ok (.iload_n 0, 1) := by decide +kernel
theorem dJ6_bitCount_0f7a4_2 : decode μJ6_bitCount_0f7a4.2.1 2 = .ok (.iconst 1, 1) := by decide +kernel
theorem dJ6_bitCount_0f7a4_3 : decode μJ6_bitCount_0f7a4.2.1 3 = .ok (.iushr, 1) := by decide +kernel
theorem dJ6_bitCount_0f7a4_4 : decode μJ6_bitCount_0f7a4.2.1 4 = .ok (.ldc_w 265, 3) := by decide +kernel
theorem dJ6_bitCount_0f7a4_7 : decode μJ6_bitCount_0f7a4.2.1 7 = .ok (.iand, 1) := by decide +kernel
theorem dJ6_bitCount_0f7a4_8 : decode μJ6_bitCount_0f7a4.2.1 8 = .ok (.isub, 1) := by decide +kernel
theorem dJ6_bitCount_0f7a4_9 : decode μJ6_bitCount_0f7a4.2.1 9 = .ok (.istore_n 0, 1) := by decide +kernel
theorem dJ6_bitCount_0f7a4_10 : decode μJ6_bitCount_0f7a4.2.1 10 = .ok (.iload_n 0, 1) := by decide +kernel
theorem dJ6_bitCount_0f7a4_11 : decode μJ6_bitCount_0f7a4.2.1 11 = .ok (.ldc_w 266, 3) := by decide +kernel
theorem dJ6_bitCount_0f7a4_14 : decode μJ6_bitCount_0f7a4.2.1 14 = .ok (.iand, 1) := by decide +kernel
theorem dJ6_bitCount_0f7a4_15 : decode μJ6_bitCount_0f7a4.2.1 15 = .ok (.iload_n 0, 1) := by decide +kernel
theorem dJ6_bitCount_0f7a4_16 : decode μJ6_bitCount_0f7a4.2.1 16 = .ok (.iconst 2, 1) := by decide +kernel
theorem dJ6_bitCount_0f7a4_17 : decode μJ6_bitCount_0f7a4.2.1 17 = .ok (.iushr, 1) := by decide +kernel
theorem dJ6_bitCount_0f7a4_18 : decode μJ6_bitCount_0f7a4.2.1 18 = .ok (.ldc_w 266, 3) := by decide +kernel
theorem dJ6_bitCount_0f7a4_21 : decode μJ6_bitCount_0f7a4.2.1 21 = .ok (.iand, 1) := by decide +kernel
theorem dJ6_bitCount_0f7a4_22 : decode μJ6_bitCount_0f7a4.2.1 22 = .ok (.iadd, 1) := by decide +kernel
theorem dJ6_bitCount_0f7a4_23 : decode μJ6_bitCount_0f7a4.2.1 23 = .ok (.istore_n 0, 1) := by decide +kernel
theorem dJ6_bitCount_0f7a4_24 : decode μJ6_bitCount_0f7a4.2.1 24 = .ok (.iload_n 0, 1) := by decide +kernel
theorem dJ6_bitCount_0f7a4_25 : decode μJ6_bitCount_0f7a4.2.1 25 = .ok (.iload_n 0, 1) := by decide +kernel
theorem dJ6_bitCount_0f7a4_26 : decode μJ6_bitCount_0f7a4.2.1 26 = .ok (.iconst 4, 1) := by decide +kernel
theorem dJ6_bitCount_0f7a4_27 : decode μJ6_bitCount_0f7a4.2.1 27 = .ok (.iushr, 1) := by decide +kernel
theorem dJ6_bitCount_0f7a4_28 : decode μJ6_bitCount_0f7a4.2.1 28 = .ok (.iadd, 1) := by decide +kernel
theorem dJ6_bitCount_0f7a4_29 : decode μJ6_bitCount_0f7a4.2.1 29 = .ok (.ldc_w 267, 3) := by decide +kernel
theorem dJ6_bitCount_0f7a4_32 : decode μJ6_bitCount_0f7a4.2.1 32 = .ok (.iand, 1) := by decide +kernel
theorem dJ6_bitCount_0f7a4_33 : decode μJ6_bitCount_0f7a4.2.1 33 = .ok (.istore_n 0, 1) := by decide +kernel
theorem dJ6_bitCount_0f7a4_34 : decode μJ6_bitCount_0f7a4.2.1 34 = .ok (.iload_n 0, 1) := by decide +kernel
theorem dJ6_bitCount_0f7a4_35 : decode μJ6_bitCount_0f7a4.2.1 35 = .ok (.iload_n 0, 1) := by decide +kernel
theorem dJ6_bitCount_0f7a4_36 : decode μJ6_bitCount_0f7a4.2.1 36 = .ok (.bipush 8, 2) := by decide +kernel
theorem dJ6_bitCount_0f7a4_38 : decode μJ6_bitCount_0f7a4.2.1 38 = .ok (.iushr, 1) := by decide +kernel
theorem dJ6_bitCount_0f7a4_39 : decode μJ6_bitCount_0f7a4.2.1 39 = .ok (.iadd, 1) := by decide +kernel
theorem dJ6_bitCount_0f7a4_40 : decode μJ6_bitCount_0f7a4.2.1 40 = .ok (.istore_n 0, 1) := by decide +kernel
theorem dJ6_bitCount_0f7a4_41 : decode μJ6_bitCount_0f7a4.2.1 41 = .ok (.iload_n 0, 1) := by decide +kernel
theorem dJ6_bitCount_0f7a4_42 : decode μJ6_bitCount_0f7a4.2.1 42 = .ok (.iload_n 0, 1) := by decide +kernel
theorem dJ6_bitCount_0f7a4_43 : decode μJ6_bitCount_0f7a4.2.1 43 = .ok (.bipush 16, 2) := by decide +kernel
theorem dJ6_bitCount_0f7a4_45 : decode μJ6_bitCount_0f7a4.2.1 45 = .ok (.iushr, 1) := by decide +kernel
theorem dJ6_bitCount_0f7a4_46 : decode μJ6_bitCount_0f7a4.2.1 46 = .ok (.iadd, 1) := by decide +kernel
theorem dJ6_bitCount_0f7a4_47 : decode μJ6_bitCount_0f7a4.2.1 47 = .ok (.istore_n 0, 1) := by decide +kernel
theorem dJ6_bitCount_0f7a4_48 : decode μJ6_bitCount_0f7a4.2.1 48 = .ok (.iload_n 0, 1) := by decide +kernel
theorem dJ6_bitCount_0f7a4_49 : decode μJ6_bitCount_0f7a4.2.1 49 = .ok (.bipush 63, 2) := by decide +kernel
theorem dJ6_bitCount_0f7a4_51 : decode μJ6_bitCount_0f7a4.2.1 51 = .ok (.iand, 1) := by decide +kernel
theorem dJ6_bitCount_0f7a4_52 : decode μJ6_bitCount_0f7a4.2.1 52 = .ok (.ireturn, 1) := by decide +kernel
set_option maxRecDepth 20000 in
theorem sg_J6_bitCount_0f7a4_0 {d : Nat} {x0 : Int32} {M : Mem} {K : (Int32 → Mem → Prop)}  (h : K ((((((((x0 - (((Int32.toUInt32 x0 >>> (Int32.toUInt32 1 &&& Int32.toUInt32 31)).toInt32) &&& 1431655765)) &&& 858993459) + (((Int32.toUInt32 (x0 - (((Int32.toUInt32 x0 >>> (Int32.toUInt32 1 &&& Int32.toUInt32 31)).toInt32) &&& 1431655765)) >>> (Int32.toUInt32 2 &&& Int32.toUInt32 31)).toInt32) &&& 858993459)) + ((Int32.toUInt32 (((x0 - (((Int32.toUInt32 x0 >>> (Int32.toUInt32 1 &&& Int32.toUInt32 31)).toInt32) &&& 1431655765)) &&& 858993459) + (((Int32.toUInt32 (x0 - (((Int32.toUInt32 x0 >>> (Int32.toUInt32 1 &&& Int32.toUInt32 31)).toInt32) &&& 1431655765)) >>> (Int32.toUInt32 2 &&& Int32.toUInt32 31)).toInt32) &&& 858993459)) >>> (Int32.toUInt32 4 &&& Int32.toUInt32 31)).toInt32)) &&& 252645135) + ((Int32.toUInt32 (((((x0 - (((Int32.toUInt32 x0 >>> (Int32.toUInt32 1 &&& Int32.toUInt32 31)).toInt32) &&& 1431655765)) &&& 858993459) + (((Int32.toUInt32 (x0 - (((Int32.toUInt32 x0 >>> (Int32.toUInt32 1 &&& Int32.toUInt32 31)).toInt32) &&& 1431655765)) >>> (Int32.toUInt32 2 &&& Int32.toUInt32 31)).toInt32) &&& 858993459)) + ((Int32.toUInt32 (((x0 - (((Int32.toUInt32 x0 >>> (Int32.toUInt32 1 &&& Int32.toUInt32 31)).toInt32) &&& 1431655765)) &&& 858993459) + (((Int32.toUInt32 (x0 - (((Int32.toUInt32 x0 >>> (Int32.toUInt32 1 &&& Int32.toUInt32 31)).toInt32) &&& 1431655765)) >>> (Int32.toUInt32 2 &&& Int32.toUInt32 31)).toInt32) &&& 858993459)) >>> (Int32.toUInt32 4 &&& Int32.toUInt32 31)).toInt32)) &&& 252645135) >>> (Int32.toUInt32 8 &&& Int32.toUInt32 31)).toInt32)) + ((Int32.toUInt32 ((((((x0 - (((Int32.toUInt32 x0 >>> (Int32.toUInt32 1 &&& Int32.toUInt32 31)).toInt32) &&& 1431655765)) &&& 858993459) + (((Int32.toUInt32 (x0 - (((Int32.toUInt32 x0 >>> (Int32.toUInt32 1 &&& Int32.toUInt32 31)).toInt32) &&& 1431655765)) >>> (Int32.toUInt32 2 &&& Int32.toUInt32 31)).toInt32) &&& 858993459)) + ((Int32.toUInt32 (((x0 - (((Int32.toUInt32 x0 >>> (Int32.toUInt32 1 &&& Int32.toUInt32 31)).toInt32) &&& 1431655765)) &&& 858993459) + (((Int32.toUInt32 (x0 - (((Int32.toUInt32 x0 >>> (Int32.toUInt32 1 &&& Int32.toUInt32 31)).toInt32) &&& 1431655765)) >>> (Int32.toUInt32 2 &&& Int32.toUInt32 31)).toInt32) &&& 858993459)) >>> (Int32.toUInt32 4 &&& Int32.toUInt32 31)).toInt32)) &&& 252645135) + ((Int32.toUInt32 (((((x0 - (((Int32.toUInt32 x0 >>> (Int32.toUInt32 1 &&& Int32.toUInt32 31)).toInt32) &&& 1431655765)) &&& 858993459) + (((Int32.toUInt32 (x0 - (((Int32.toUInt32 x0 >>> (Int32.toUInt32 1 &&& Int32.toUInt32 31)).toInt32) &&& 1431655765)) >>> (Int32.toUInt32 2 &&& Int32.toUInt32 31)).toInt32) &&& 858993459)) + ((Int32.toUInt32 (((x0 - (((Int32.toUInt32 x0 >>> (Int32.toUInt32 1 &&& Int32.toUInt32 31)).toInt32) &&& 1431655765)) &&& 858993459) + (((Int32.toUInt32 (x0 - (((Int32.toUInt32 x0 >>> (Int32.toUInt32 1 &&& Int32.toUInt32 31)).toInt32) &&& 1431655765)) >>> (Int32.toUInt32 2 &&& Int32.toUInt32 31)).toInt32) &&& 858993459)) >>> (Int32.toUInt32 4 &&& Int32.toUInt32 31)).toInt32)) &&& 252645135) >>> (Int32.toUInt32 8 &&& Int32.toUInt32 31)).toInt32)) >>> (Int32.toUInt32 16 &&& Int32.toUInt32 31)).toInt32)) &&& 63) M) : CI d μJ6_bitCount_0f7a4 [.int x0] M K := by
  show Rn d μJ6_bitCount_0f7a4 0 [(0, .int x0)] [] M _
  refine rn_iload_n (i := 0) (x := x0) dJ6_bitCount_0f7a4_0 rfl (by simp) ?_
  refine rn_iload_n (i := 0) (x := x0) dJ6_bitCount_0f7a4_1 rfl (by simp) ?_
  refine rn_iconst (v := 1) dJ6_bitCount_0f7a4_2 rfl ?_
  refine rn_iushr dJ6_bitCount_0f7a4_3 ?_
  refine rn_ldcw (v := 1431655765) dJ6_bitCount_0f7a4_4 lk_J6_265 ?_
  refine rn_iand dJ6_bitCount_0f7a4_7 ?_
  refine rn_isub dJ6_bitCount_0f7a4_8 ?_
  refine rn_istore_n (lv' := [(0, .int (x0 - (((Int32.toUInt32 x0 >>> (Int32.toUInt32 1 &&& Int32.toUInt32 31)).toInt32) &&& 1431655765)))]) (hd := dJ6_bitCount_0f7a4_9) (i := 0) (hi := rfl) (hn := by decide) (hf := rfl) (hl := rfl) ?_
  refine rn_iload_n (i := 0) (x := x0 - (((Int32.toUInt32 x0 >>> (Int32.toUInt32 1 &&& Int32.toUInt32 31)).toInt32) &&& 1431655765)) dJ6_bitCount_0f7a4_10 rfl (by simp) ?_
  refine rn_ldcw (v := 858993459) dJ6_bitCount_0f7a4_11 lk_J6_266 ?_
  refine rn_iand dJ6_bitCount_0f7a4_14 ?_
  refine rn_iload_n (i := 0) (x := x0 - (((Int32.toUInt32 x0 >>> (Int32.toUInt32 1 &&& Int32.toUInt32 31)).toInt32) &&& 1431655765)) dJ6_bitCount_0f7a4_15 rfl (by simp) ?_
  refine rn_iconst (v := 2) dJ6_bitCount_0f7a4_16 rfl ?_
  refine rn_iushr dJ6_bitCount_0f7a4_17 ?_
  refine rn_ldcw (v := 858993459) dJ6_bitCount_0f7a4_18 lk_J6_266 ?_
  refine rn_iand dJ6_bitCount_0f7a4_21 ?_
  refine rn_iadd dJ6_bitCount_0f7a4_22 ?_
  refine rn_istore_n (lv' := [(0, .int (((x0 - (((Int32.toUInt32 x0 >>> (Int32.toUInt32 1 &&& Int32.toUInt32 31)).toInt32) &&& 1431655765)) &&& 858993459) + (((Int32.toUInt32 (x0 - (((Int32.toUInt32 x0 >>> (Int32.toUInt32 1 &&& Int32.toUInt32 31)).toInt32) &&& 1431655765)) >>> (Int32.toUInt32 2 &&& Int32.toUInt32 31)).toInt32) &&& 858993459)))]) (hd := dJ6_bitCount_0f7a4_23) (i := 0) (hi := rfl) (hn := by decide) (hf := rfl) (hl := rfl) ?_
  refine rn_iload_n (i := 0) (x := ((x0 - (((Int32.toUInt32 x0 >>> (Int32.toUInt32 1 &&& Int32.toUInt32 31)).toInt32) &&& 1431655765)) &&& 858993459) + (((Int32.toUInt32 (x0 - (((Int32.toUInt32 x0 >>> (Int32.toUInt32 1 &&& Int32.toUInt32 31)).toInt32) &&& 1431655765)) >>> (Int32.toUInt32 2 &&& Int32.toUInt32 31)).toInt32) &&& 858993459)) dJ6_bitCount_0f7a4_24 rfl (by simp) ?_
  refine rn_iload_n (i := 0) (x := ((x0 - (((Int32.toUInt32 x0 >>> (Int32.toUInt32 1 &&& Int32.toUInt32 31)).toInt32) &&& 1431655765)) &&& 858993459) + (((Int32.toUInt32 (x0 - (((Int32.toUInt32 x0 >>> (Int32.toUInt32 1 &&& Int32.toUInt32 31)).toInt32) &&& 1431655765)) >>> (Int32.toUInt32 2 &&& Int32.toUInt32 31)).toInt32) &&& 858993459)) dJ6_bitCount_0f7a4_25 rfl (by simp) ?_
  refine rn_iconst (v := 4) dJ6_bitCount_0f7a4_26 rfl ?_
  refine rn_iushr dJ6_bitCount_0f7a4_27 ?_
  refine rn_iadd dJ6_bitCount_0f7a4_28 ?_
  refine rn_ldcw (v := 252645135) dJ6_bitCount_0f7a4_29 lk_J6_267 ?_
  refine rn_iand dJ6_bitCount_0f7a4_32 ?_
  refine rn_istore_n (lv' := [(0, .int (((((x0 - (((Int32.toUInt32 x0 >>> (Int32.toUInt32 1 &&& Int32.toUInt32 31)).toInt32) &&& 1431655765)) &&& 858993459) + (((Int32.toUInt32 (x0 - (((Int32.toUInt32 x0 >>> (Int32.toUInt32 1 &&& Int32.toUInt32 31)).toInt32) &&& 1431655765)) >>> (Int32.toUInt32 2 &&& Int32.toUInt32 31)).toInt32) &&& 858993459)) + ((Int32.toUInt32 (((x0 - (((Int32.toUInt32 x0 >>> (Int32.toUInt32 1 &&& Int32.toUInt32 31)).toInt32) &&& 1431655765)) &&& 858993459) + (((Int32.toUInt32 (x0 - (((Int32.toUInt32 x0 >>> (Int32.toUInt32 1 &&& Int32.toUInt32 31)).toInt32) &&& 1431655765)) >>> (Int32.toUInt32 2 &&& Int32.toUInt32 31)).toInt32) &&& 858993459)) >>> (Int32.toUInt32 4 &&& Int32.toUInt32 31)).toInt32)) &&& 252645135))]) (hd := dJ6_bitCount_0f7a4_33) (i := 0) (hi := rfl) (hn := by decide) (hf := rfl) (hl := rfl) ?_
  refine rn_iload_n (i := 0) (x := ((((x0 - (((Int32.toUInt32 x0 >>> (Int32.toUInt32 1 &&& Int32.toUInt32 31)).toInt32) &&& 1431655765)) &&& 858993459) + (((Int32.toUInt32 (x0 - (((Int32.toUInt32 x0 >>> (Int32.toUInt32 1 &&& Int32.toUInt32 31)).toInt32) &&& 1431655765)) >>> (Int32.toUInt32 2 &&& Int32.toUInt32 31)).toInt32) &&& 858993459)) + ((Int32.toUInt32 (((x0 - (((Int32.toUInt32 x0 >>> (Int32.toUInt32 1 &&& Int32.toUInt32 31)).toInt32) &&& 1431655765)) &&& 858993459) + (((Int32.toUInt32 (x0 - (((Int32.toUInt32 x0 >>> (Int32.toUInt32 1 &&& Int32.toUInt32 31)).toInt32) &&& 1431655765)) >>> (Int32.toUInt32 2 &&& Int32.toUInt32 31)).toInt32) &&& 858993459)) >>> (Int32.toUInt32 4 &&& Int32.toUInt32 31)).toInt32)) &&& 252645135) dJ6_bitCount_0f7a4_34 rfl (by simp) ?_
  refine rn_iload_n (i := 0) (x := ((((x0 - (((Int32.toUInt32 x0 >>> (Int32.toUInt32 1 &&& Int32.toUInt32 31)).toInt32) &&& 1431655765)) &&& 858993459) + (((Int32.toUInt32 (x0 - (((Int32.toUInt32 x0 >>> (Int32.toUInt32 1 &&& Int32.toUInt32 31)).toInt32) &&& 1431655765)) >>> (Int32.toUInt32 2 &&& Int32.toUInt32 31)).toInt32) &&& 858993459)) + ((Int32.toUInt32 (((x0 - (((Int32.toUInt32 x0 >>> (Int32.toUInt32 1 &&& Int32.toUInt32 31)).toInt32) &&& 1431655765)) &&& 858993459) + (((Int32.toUInt32 (x0 - (((Int32.toUInt32 x0 >>> (Int32.toUInt32 1 &&& Int32.toUInt32 31)).toInt32) &&& 1431655765)) >>> (Int32.toUInt32 2 &&& Int32.toUInt32 31)).toInt32) &&& 858993459)) >>> (Int32.toUInt32 4 &&& Int32.toUInt32 31)).toInt32)) &&& 252645135) dJ6_bitCount_0f7a4_35 rfl (by simp) ?_
  refine rn_bipush (v := 8) dJ6_bitCount_0f7a4_36 rfl ?_
  refine rn_iushr dJ6_bitCount_0f7a4_38 ?_
  refine rn_iadd dJ6_bitCount_0f7a4_39 ?_
  refine rn_istore_n (lv' := [(0, .int ((((((x0 - (((Int32.toUInt32 x0 >>> (Int32.toUInt32 1 &&& Int32.toUInt32 31)).toInt32) &&& 1431655765)) &&& 858993459) + (((Int32.toUInt32 (x0 - (((Int32.toUInt32 x0 >>> (Int32.toUInt32 1 &&& Int32.toUInt32 31)).toInt32) &&& 1431655765)) >>> (Int32.toUInt32 2 &&& Int32.toUInt32 31)).toInt32) &&& 858993459)) + ((Int32.toUInt32 (((x0 - (((Int32.toUInt32 x0 >>> (Int32.toUInt32 1 &&& Int32.toUInt32 31)).toInt32) &&& 1431655765)) &&& 858993459) + (((Int32.toUInt32 (x0 - (((Int32.toUInt32 x0 >>> (Int32.toUInt32 1 &&& Int32.toUInt32 31)).toInt32) &&& 1431655765)) >>> (Int32.toUInt32 2 &&& Int32.toUInt32 31)).toInt32) &&& 858993459)) >>> (Int32.toUInt32 4 &&& Int32.toUInt32 31)).toInt32)) &&& 252645135) + ((Int32.toUInt32 (((((x0 - (((Int32.toUInt32 x0 >>> (Int32.toUInt32 1 &&& Int32.toUInt32 31)).toInt32) &&& 1431655765)) &&& 858993459) + (((Int32.toUInt32 (x0 - (((Int32.toUInt32 x0 >>> (Int32.toUInt32 1 &&& Int32.toUInt32 31)).toInt32) &&& 1431655765)) >>> (Int32.toUInt32 2 &&& Int32.toUInt32 31)).toInt32) &&& 858993459)) + ((Int32.toUInt32 (((x0 - (((Int32.toUInt32 x0 >>> (Int32.toUInt32 1 &&& Int32.toUInt32 31)).toInt32) &&& 1431655765)) &&& 858993459) + (((Int32.toUInt32 (x0 - (((Int32.toUInt32 x0 >>> (Int32.toUInt32 1 &&& Int32.toUInt32 31)).toInt32) &&& 1431655765)) >>> (Int32.toUInt32 2 &&& Int32.toUInt32 31)).toInt32) &&& 858993459)) >>> (Int32.toUInt32 4 &&& Int32.toUInt32 31)).toInt32)) &&& 252645135) >>> (Int32.toUInt32 8 &&& Int32.toUInt32 31)).toInt32)))]) (hd := dJ6_bitCount_0f7a4_40) (i := 0) (hi := rfl) (hn := by decide) (hf := rfl) (hl := rfl) ?_
  refine rn_iload_n (i := 0) (x := (((((x0 - (((Int32.toUInt32 x0 >>> (Int32.toUInt32 1 &&& Int32.toUInt32 31)).toInt32) &&& 1431655765)) &&& 858993459) + (((Int32.toUInt32 (x0 - (((Int32.toUInt32 x0 >>> (Int32.toUInt32 1 &&& Int32.toUInt32 31)).toInt32) &&& 1431655765)) >>> (Int32.toUInt32 2 &&& Int32.toUInt32 31)).toInt32) &&& 858993459)) + ((Int32.toUInt32 (((x0 - (((Int32.toUInt32 x0 >>> (Int32.toUInt32 1 &&& Int32.toUInt32 31)).toInt32) &&& 1431655765)) &&& 858993459) + (((Int32.toUInt32 (x0 - (((Int32.toUInt32 x0 >>> (Int32.toUInt32 1 &&& Int32.toUInt32 31)).toInt32) &&& 1431655765)) >>> (Int32.toUInt32 2 &&& Int32.toUInt32 31)).toInt32) &&& 858993459)) >>> (Int32.toUInt32 4 &&& Int32.toUInt32 31)).toInt32)) &&& 252645135) + ((Int32.toUInt32 (((((x0 - (((Int32.toUInt32 x0 >>> (Int32.toUInt32 1 &&& Int32.toUInt32 31)).toInt32) &&& 1431655765)) &&& 858993459) + (((Int32.toUInt32 (x0 - (((Int32.toUInt32 x0 >>> (Int32.toUInt32 1 &&& Int32.toUInt32 31)).toInt32) &&& 1431655765)) >>> (Int32.toUInt32 2 &&& Int32.toUInt32 31)).toInt32) &&& 858993459)) + ((Int32.toUInt32 (((x0 - (((Int32.toUInt32 x0 >>> (Int32.toUInt32 1 &&& Int32.toUInt32 31)).toInt32) &&& 1431655765)) &&& 858993459) + (((Int32.toUInt32 (x0 - (((Int32.toUInt32 x0 >>> (Int32.toUInt32 1 &&& Int32.toUInt32 31)).toInt32) &&& 1431655765)) >>> (Int32.toUInt32 2 &&& Int32.toUInt32 31)).toInt32) &&& 858993459)) >>> (Int32.toUInt32 4 &&& Int32.toUInt32 31)).toInt32)) &&& 252645135) >>> (Int32.toUInt32 8 &&& Int32.toUInt32 31)).toInt32)) dJ6_bitCount_0f7a4_41 rfl (by simp) ?_
  refine rn_iload_n (i := 0) (x := (((((x0 - (((Int32.toUInt32 x0 >>> (Int32.toUInt32 1 &&& Int32.toUInt32 31)).toInt32) &&& 1431655765)) &&& 858993459) + (((Int32.toUInt32 (x0 - (((Int32.toUInt32 x0 >>> (Int32.toUInt32 1 &&& Int32.toUInt32 31)).toInt32) &&& 1431655765)) >>> (Int32.toUInt32 2 &&& Int32.toUInt32 31)).toInt32) &&& 858993459)) + ((Int32.toUInt32 (((x0 - (((Int32.toUInt32 x0 >>> (Int32.toUInt32 1 &&& Int32.toUInt32 31)).toInt32) &&& 1431655765)) &&& 858993459) + (((Int32.toUInt32 (x0 - (((Int32.toUInt32 x0 >>> (Int32.toUInt32 1 &&& Int32.toUInt32 31)).toInt32) &&& 1431655765)) >>> (Int32.toUInt32 2 &&& Int32.toUInt32 31)).toInt32) &&& 858993459)) >>> (Int32.toUInt32 4 &&& Int32.toUInt32 31)).toInt32)) &&& 252645135) + ((Int32.toUInt32 (((((x0 - (((Int32.toUInt32 x0 >>> (Int32.toUInt32 1 &&& Int32.toUInt32 31)).toInt32) &&& 1431655765)) &&& 858993459) + (((Int32.toUInt32 (x0 - (((Int32.toUInt32 x0 >>> (Int32.toUInt32 1 &&& Int32.toUInt32 31)).toInt32) &&& 1431655765)) >>> (Int32.toUInt32 2 &&& Int32.toUInt32 31)).toInt32) &&& 858993459)) + ((Int32.toUInt32 (((x0 - (((Int32.toUInt32 x0 >>> (Int32.toUInt32 1 &&& Int32.toUInt32 31)).toInt32) &&& 1431655765)) &&& 858993459) + (((Int32.toUInt32 (x0 - (((Int32.toUInt32 x0 >>> (Int32.toUInt32 1 &&& Int32.toUInt32 31)).toInt32) &&& 1431655765)) >>> (Int32.toUInt32 2 &&& Int32.toUInt32 31)).toInt32) &&& 858993459)) >>> (Int32.toUInt32 4 &&& Int32.toUInt32 31)).toInt32)) &&& 252645135) >>> (Int32.toUInt32 8 &&& Int32.toUInt32 31)).toInt32)) dJ6_bitCount_0f7a4_42 rfl (by simp) ?_
  refine rn_bipush (v := 16) dJ6_bitCount_0f7a4_43 rfl ?_
  refine rn_iushr dJ6_bitCount_0f7a4_45 ?_
  refine rn_iadd dJ6_bitCount_0f7a4_46 ?_
  refine rn_istore_n (lv' := [(0, .int (((((((x0 - (((Int32.toUInt32 x0 >>> (Int32.toUInt32 1 &&& Int32.toUInt32 31)).toInt32) &&& 1431655765)) &&& 858993459) + (((Int32.toUInt32 (x0 - (((Int32.toUInt32 x0 >>> (Int32.toUInt32 1 &&& Int32.toUInt32 31)).toInt32) &&& 1431655765)) >>> (Int32.toUInt32 2 &&& Int32.toUInt32 31)).toInt32) &&& 858993459)) + ((Int32.toUInt32 (((x0 - (((Int32.toUInt32 x0 >>> (Int32.toUInt32 1 &&& Int32.toUInt32 31)).toInt32) &&& 1431655765)) &&& 858993459) + (((Int32.toUInt32 (x0 - (((Int32.toUInt32 x0 >>> (Int32.toUInt32 1 &&& Int32.toUInt32 31)).toInt32) &&& 1431655765)) >>> (Int32.toUInt32 2 &&& Int32.toUInt32 31)).toInt32) &&& 858993459)) >>> (Int32.toUInt32 4 &&& Int32.toUInt32 31)).toInt32)) &&& 252645135) + ((Int32.toUInt32 (((((x0 - (((Int32.toUInt32 x0 >>> (Int32.toUInt32 1 &&& Int32.toUInt32 31)).toInt32) &&& 1431655765)) &&& 858993459) + (((Int32.toUInt32 (x0 - (((Int32.toUInt32 x0 >>> (Int32.toUInt32 1 &&& Int32.toUInt32 31)).toInt32) &&& 1431655765)) >>> (Int32.toUInt32 2 &&& Int32.toUInt32 31)).toInt32) &&& 858993459)) + ((Int32.toUInt32 (((x0 - (((Int32.toUInt32 x0 >>> (Int32.toUInt32 1 &&& Int32.toUInt32 31)).toInt32) &&& 1431655765)) &&& 858993459) + (((Int32.toUInt32 (x0 - (((Int32.toUInt32 x0 >>> (Int32.toUInt32 1 &&& Int32.toUInt32 31)).toInt32) &&& 1431655765)) >>> (Int32.toUInt32 2 &&& Int32.toUInt32 31)).toInt32) &&& 858993459)) >>> (Int32.toUInt32 4 &&& Int32.toUInt32 31)).toInt32)) &&& 252645135) >>> (Int32.toUInt32 8 &&& Int32.toUInt32 31)).toInt32)) + ((Int32.toUInt32 ((((((x0 - (((Int32.toUInt32 x0 >>> (Int32.toUInt32 1 &&& Int32.toUInt32 31)).toInt32) &&& 1431655765)) &&& 858993459) + (((Int32.toUInt32 (x0 - (((Int32.toUInt32 x0 >>> (Int32.toUInt32 1 &&& Int32.toUInt32 31)).toInt32) &&& 1431655765)) >>> (Int32.toUInt32 2 &&& Int32.toUInt32 31)).toInt32) &&& 858993459)) + ((Int32.toUInt32 (((x0 - (((Int32.toUInt32 x0 >>> (Int32.toUInt32 1 &&& Int32.toUInt32 31)).toInt32) &&& 1431655765)) &&& 858993459) + (((Int32.toUInt32 (x0 - (((Int32.toUInt32 x0 >>> (Int32.toUInt32 1 &&& Int32.toUInt32 31)).toInt32) &&& 1431655765)) >>> (Int32.toUInt32 2 &&& Int32.toUInt32 31)).toInt32) &&& 858993459)) >>> (Int32.toUInt32 4 &&& Int32.toUInt32 31)).toInt32)) &&& 252645135) + ((Int32.toUInt32 (((((x0 - (((Int32.toUInt32 x0 >>> (Int32.toUInt32 1 &&& Int32.toUInt32 31)).toInt32) &&& 1431655765)) &&& 858993459) + (((Int32.toUInt32 (x0 - (((Int32.toUInt32 x0 >>> (Int32.toUInt32 1 &&& Int32.toUInt32 31)).toInt32) &&& 1431655765)) >>> (Int32.toUInt32 2 &&& Int32.toUInt32 31)).toInt32) &&& 858993459)) + ((Int32.toUInt32 (((x0 - (((Int32.toUInt32 x0 >>> (Int32.toUInt32 1 &&& Int32.toUInt32 31)).toInt32) &&& 1431655765)) &&& 858993459) + (((Int32.toUInt32 (x0 - (((Int32.toUInt32 x0 >>> (Int32.toUInt32 1 &&& Int32.toUInt32 31)).toInt32) &&& 1431655765)) >>> (Int32.toUInt32 2 &&& Int32.toUInt32 31)).toInt32) &&& 858993459)) >>> (Int32.toUInt32 4 &&& Int32.toUInt32 31)).toInt32)) &&& 252645135) >>> (Int32.toUInt32 8 &&& Int32.toUInt32 31)).toInt32)) >>> (Int32.toUInt32 16 &&& Int32.toUInt32 31)).toInt32)))]) (hd := dJ6_bitCount_0f7a4_47) (i := 0) (hi := rfl) (hn := by decide) (hf := rfl) (hl := rfl) ?_
  refine rn_iload_n (i := 0) (x := ((((((x0 - (((Int32.toUInt32 x0 >>> (Int32.toUInt32 1 &&& Int32.toUInt32 31)).toInt32) &&& 1431655765)) &&& 858993459) + (((Int32.toUInt32 (x0 - (((Int32.toUInt32 x0 >>> (Int32.toUInt32 1 &&& Int32.toUInt32 31)).toInt32) &&& 1431655765)) >>> (Int32.toUInt32 2 &&& Int32.toUInt32 31)).toInt32) &&& 858993459)) + ((Int32.toUInt32 (((x0 - (((Int32.toUInt32 x0 >>> (Int32.toUInt32 1 &&& Int32.toUInt32 31)).toInt32) &&& 1431655765)) &&& 858993459) + (((Int32.toUInt32 (x0 - (((Int32.toUInt32 x0 >>> (Int32.toUInt32 1 &&& Int32.toUInt32 31)).toInt32) &&& 1431655765)) >>> (Int32.toUInt32 2 &&& Int32.toUInt32 31)).toInt32) &&& 858993459)) >>> (Int32.toUInt32 4 &&& Int32.toUInt32 31)).toInt32)) &&& 252645135) + ((Int32.toUInt32 (((((x0 - (((Int32.toUInt32 x0 >>> (Int32.toUInt32 1 &&& Int32.toUInt32 31)).toInt32) &&& 1431655765)) &&& 858993459) + (((Int32.toUInt32 (x0 - (((Int32.toUInt32 x0 >>> (Int32.toUInt32 1 &&& Int32.toUInt32 31)).toInt32) &&& 1431655765)) >>> (Int32.toUInt32 2 &&& Int32.toUInt32 31)).toInt32) &&& 858993459)) + ((Int32.toUInt32 (((x0 - (((Int32.toUInt32 x0 >>> (Int32.toUInt32 1 &&& Int32.toUInt32 31)).toInt32) &&& 1431655765)) &&& 858993459) + (((Int32.toUInt32 (x0 - (((Int32.toUInt32 x0 >>> (Int32.toUInt32 1 &&& Int32.toUInt32 31)).toInt32) &&& 1431655765)) >>> (Int32.toUInt32 2 &&& Int32.toUInt32 31)).toInt32) &&& 858993459)) >>> (Int32.toUInt32 4 &&& Int32.toUInt32 31)).toInt32)) &&& 252645135) >>> (Int32.toUInt32 8 &&& Int32.toUInt32 31)).toInt32)) + ((Int32.toUInt32 ((((((x0 - (((Int32.toUInt32 x0 >>> (Int32.toUInt32 1 &&& Int32.toUInt32 31)).toInt32) &&& 1431655765)) &&& 858993459) + (((Int32.toUInt32 (x0 - (((Int32.toUInt32 x0 >>> (Int32.toUInt32 1 &&& Int32.toUInt32 31)).toInt32) &&& 1431655765)) >>> (Int32.toUInt32 2 &&& Int32.toUInt32 31)).toInt32) &&& 858993459)) + ((Int32.toUInt32 (((x0 - (((Int32.toUInt32 x0 >>> (Int32.toUInt32 1 &&& Int32.toUInt32 31)).toInt32) &&& 1431655765)) &&& 858993459) + (((Int32.toUInt32 (x0 - (((Int32.toUInt32 x0 >>> (Int32.toUInt32 1 &&& Int32.toUInt32 31)).toInt32) &&& 1431655765)) >>> (Int32.toUInt32 2 &&& Int32.toUInt32 31)).toInt32) &&& 858993459)) >>> (Int32.toUInt32 4 &&& Int32.toUInt32 31)).toInt32)) &&& 252645135) + ((Int32.toUInt32 (((((x0 - (((Int32.toUInt32 x0 >>> (Int32.toUInt32 1 &&& Int32.toUInt32 31)).toInt32) &&& 1431655765)) &&& 858993459) + (((Int32.toUInt32 (x0 - (((Int32.toUInt32 x0 >>> (Int32.toUInt32 1 &&& Int32.toUInt32 31)).toInt32) &&& 1431655765)) >>> (Int32.toUInt32 2 &&& Int32.toUInt32 31)).toInt32) &&& 858993459)) + ((Int32.toUInt32 (((x0 - (((Int32.toUInt32 x0 >>> (Int32.toUInt32 1 &&& Int32.toUInt32 31)).toInt32) &&& 1431655765)) &&& 858993459) + (((Int32.toUInt32 (x0 - (((Int32.toUInt32 x0 >>> (Int32.toUInt32 1 &&& Int32.toUInt32 31)).toInt32) &&& 1431655765)) >>> (Int32.toUInt32 2 &&& Int32.toUInt32 31)).toInt32) &&& 858993459)) >>> (Int32.toUInt32 4 &&& Int32.toUInt32 31)).toInt32)) &&& 252645135) >>> (Int32.toUInt32 8 &&& Int32.toUInt32 31)).toInt32)) >>> (Int32.toUInt32 16 &&& Int32.toUInt32 31)).toInt32)) dJ6_bitCount_0f7a4_48 rfl (by simp) ?_
  refine rn_bipush (v := 63) dJ6_bitCount_0f7a4_49 rfl ?_
  refine rn_iand dJ6_bitCount_0f7a4_51 ?_
  exact rn_iret dJ6_bitCount_0f7a4_52 rfl ⟨_, rfl, h⟩
