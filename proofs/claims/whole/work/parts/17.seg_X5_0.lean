theorem dX5_distance_0 : decode μX5_distance.2.1 0 = .ok (.iconst 1, 1) := by decide +kernel
theorem dX5_distance_1 : decode μX5_distance.2.1 1 = .ok (.iload_n 1, 1) := by decide +kernel
theorem dX5_distance_2 : decode μX5_distance.2.1 2 = .ok (.ishl, 1) := by decide +kernel
theorem dX5_distance_3 : decode μX5_distance.2.1 3 = .ok (.istore_n 3, 1) := by decide +kernel
theorem dX5_distance_4 : decode μX5_distance.2.1 4 = .ok (.iconst 0, 1) := by decide +kernel
theorem dX5_distance_5 : decode μX5_distance.2.1 5 = .ok (.istore 4, 2) := by decide +kernel
theorem dX5_distance_7 : decode μX5_distance.2.1 7 = .ok (.iload 4, 2) := by decide +kernel
theorem dX5_distance_9 : decode μX5_distance.2.1 9 = .ok (.bipush 8, 2) := by decide +kernel
theorem dX5_distance_11 : decode μX5_distance.2.1 11 = .ok (.if_icmp .ge 29, 3) := by decide +kernel
theorem dX5_distance_14 : decode μX5_distance.2.1 14 = .ok (.iload_n 3, 1) := by decide +kernel
theorem dX5_distance_15 : decode μX5_distance.2.1 15 = .ok (.iload_n 2, 1) := by decide +kernel
theorem dX5_distance_16 : decode μX5_distance.2.1 16 = .ok (.ishr, 1) := by decide +kernel
theorem dX5_distance_17 : decode μX5_distance.2.1 17 = .ok (.iconst 1, 1) := by decide +kernel
theorem dX5_distance_18 : decode μX5_distance.2.1 18 = .ok (.iand, 1) := by decide +kernel
theorem dX5_distance_19 : decode μX5_distance.2.1 19 = .ok (.iconst 1, 1) := by decide +kernel
theorem dX5_distance_20 : decode μX5_distance.2.1 20 = .ok (.if_icmp .ne 6, 3) := by decide +kernel
theorem dX5_distance_23 : decode μX5_distance.2.1 23 = .ok (.iload 4, 2) := by decide +kernel
theorem dX5_distance_25 : decode μX5_distance.2.1 25 = .ok (.ireturn, 1) := by decide +kernel
theorem dX5_distance_26 : decode μX5_distance.2.1 26 = .ok (.iload_n 3, 1) := by decide +kernel
theorem dX5_distance_27 : decode μX5_distance.2.1 27 = .ok (.aload_n 0, 1) := by decide +kernel
theorem dX5_distance_28 : decode μX5_distance.2.1 28 = .ok (.iload_n 3, 1) := by decide +kernel
theorem dX5_distance_29 : decode μX5_distance.2.1 29 = .ok (.invokestatic 22, 3) := by decide +kernel
theorem dX5_distance_32 : decode μX5_distance.2.1 32 = .ok (.ior, 1) := by decide +kernel
theorem dX5_distance_33 : decode μX5_distance.2.1 33 = .ok (.istore_n 3, 1) := by decide +kernel
theorem dX5_distance_34 : decode μX5_distance.2.1 34 = .ok (.iinc 4 1, 3) := by decide +kernel
theorem dX5_distance_37 : decode μX5_distance.2.1 37 = .ok (.goto (-30), 3) := by decide +kernel
theorem dX5_distance_40 : decode μX5_distance.2.1 40 = .ok (.iconst (-1), 1) := by decide +kernel
theorem dX5_distance_41 : decode μX5_distance.2.1 41 = .ok (.ireturn, 1) := by decide +kernel
set_option maxRecDepth 20000 in
theorem sg_X5_distance_0 {d : Nat} {o : Nat} {x1 : Int32} {x2 : Int32} {M : Mem} {K : (Int32 → Mem → Prop)} (ho : kd o = (0, 2)) (h : RI (d + 1) μX5_distance 7 [(0, .ref o), (1, .int x1), (2, .int x2), (3, .int ((1 : Int32) <<< (x1 &&& 31))), (4, .int 0)] [] M K) : CI (d + 1) μX5_distance [.ref o, .int x1, .int x2] M K := by
  show Rn (d + 1) μX5_distance 0 [(0, .ref o), (1, .int x1), (2, .int x2)] [] M _
  refine rn_iconst (v := 1) dX5_distance_0 rfl ?_
  refine rn_iload_n (i := 1) (x := x1) dX5_distance_1 rfl (by simp) ?_
  refine rn_ishl dX5_distance_2 ?_
  refine rn_istore_n (lv' := [(0, .ref o), (1, .int x1), (2, .int x2), (3, .int ((1 : Int32) <<< (x1 &&& 31)))]) (hd := dX5_distance_3) (i := 3) (hi := rfl) (hn := by decide) (hf := rfl) (hl := rfl) ?_
  refine rn_iconst (v := 0) dX5_distance_4 rfl ?_
  refine rn_istore (lv' := [(0, .ref o), (1, .int x1), (2, .int x2), (3, .int ((1 : Int32) <<< (x1 &&& 31))), (4, .int 0)]) (hd := dX5_distance_5) (hn := by decide) (hf := rfl) (hl := rfl) ?_
  exact h
set_option maxRecDepth 20000 in
theorem sg_X5_distance_7 {d : Nat} {o : Nat} {x1 : Int32} {x2 : Int32} {x3 : Int32} {x4 : Int32} {M : Mem} {K : (Int32 → Mem → Prop)} (ho : kd o = (0, 2)) (h : (if 8 ≤ x4 then K ((-1)) M else (if (x3 >>> (x2 &&& 31)) &&& 1 = 1 then K x4 M else (CI d μX5_neighboursOf [.ref o, .int x3] M (fun r2 M1 => RI (d + 1) μX5_distance 7 [(0, .ref o), (1, .int x1), (2, .int x2), (3, .int (x3 ||| r2)), (4, .int (x4 + 1))] [] M1 K))))) : RI (d + 1) μX5_distance 7 [(0, .ref o), (1, .int x1), (2, .int x2), (3, .int x3), (4, .int x4)] [] M K := by
  show Rn (d + 1) μX5_distance 7 [(0, .ref o), (1, .int x1), (2, .int x2), (3, .int x3), (4, .int x4)] [] M _
  refine rn_iload (x := x4) dX5_distance_7 (by simp) ?_
  refine rn_bipush (v := 8) dX5_distance_9 rfl ?_
  refine rn_icmp_ge (tgt := 40) dX5_distance_11 (by decide) (ite_go h (fun hc h => ?_) (fun hc h => ?_))
  · refine rn_iconst (v := -1) dX5_distance_40 rfl ?_
    exact rn_iret dX5_distance_41 rfl ⟨_, rfl, h⟩
  · refine rn_iload_n (i := 3) (x := x3) dX5_distance_14 rfl (by simp) ?_
    refine rn_iload_n (i := 2) (x := x2) dX5_distance_15 rfl (by simp) ?_
    refine rn_ishr dX5_distance_16 ?_
    refine rn_iconst (v := 1) dX5_distance_17 rfl ?_
    refine rn_iand dX5_distance_18 ?_
    refine rn_iconst (v := 1) dX5_distance_19 rfl ?_
    refine rn_icmp_ne (tgt := 26) dX5_distance_20 (by decide) (ite_go h (fun hc h => ?_) (fun hc h => ?_))
    · refine rn_iload (x := x4) dX5_distance_23 (by simp) ?_
      exact rn_iret dX5_distance_25 rfl ⟨_, rfl, h⟩
    · refine rn_iload_n (i := 3) (x := x3) dX5_distance_26 rfl (by simp) ?_
      refine rn_aload_n (i := 0) (x := o) dX5_distance_27 rfl (by simp) ?_
      refine rn_iload_n (i := 3) (x := x3) dX5_distance_28 rfl (by simp) ?_
      refine rn_callSi (as := [.ref o, .int x3]) (st := [.int x3]) dX5_distance_29 mf_X5_neighboursOf lk_X5_22 sm_X5_neighboursOf rfl (Nat.le_of_ble_eq_true rfl) (Nat.le_of_ble_eq_true rfl) rfl (RI.mono h (fun r2 M1 h => ?_))
      refine rn_ior dX5_distance_32 ?_
      refine rn_istore_n (lv' := [(0, .ref o), (1, .int x1), (2, .int x2), (3, .int (x3 ||| r2)), (4, .int x4)]) (hd := dX5_distance_33) (i := 3) (hi := rfl) (hn := by decide) (hf := rfl) (hl := rfl) ?_
      refine rn_iinc (x := x4) (v := x4 + 1) (lv' := [(0, .ref o), (1, .int x1), (2, .int x2), (3, .int (x3 ||| r2)), (4, .int (x4 + 1))]) dX5_distance_34 (by simp) rfl (by decide) rfl rfl ?_
      refine rn_goto (tgt := 7) dX5_distance_37 (by decide) ?_
      exact h
theorem dX5_neighboursOf_0 : decode μX5_neighboursOf.2.1 0 = .ok (.iconst 0, 1) := by decide +kernel
theorem dX5_neighboursOf_1 : decode μX5_neighboursOf.2.1 1 = .ok (.istore_n 2, 1) := by decide +kernel
theorem dX5_neighboursOf_2 : decode μX5_neighboursOf.2.1 2 = .ok (.iconst 0, 1) := by decide +kernel
theorem dX5_neighboursOf_3 : decode μX5_neighboursOf.2.1 3 = .ok (.istore_n 3, 1) := by decide +kernel
theorem dX5_neighboursOf_4 : decode μX5_neighboursOf.2.1 4 = .ok (.iload_n 3, 1) := by decide +kernel
theorem dX5_neighboursOf_5 : decode μX5_neighboursOf.2.1 5 = .ok (.aload_n 0, 1) := by decide +kernel
theorem dX5_neighboursOf_6 : decode μX5_neighboursOf.2.1 6 = .ok (.getfield 26, 3) := by decide +kernel
theorem dX5_neighboursOf_9 : decode μX5_neighboursOf.2.1 9 = .ok (.if_icmp .ge 27, 3) := by decide +kernel
theorem dX5_neighboursOf_12 : decode μX5_neighboursOf.2.1 12 = .ok (.iload_n 1, 1) := by decide +kernel
theorem dX5_neighboursOf_13 : decode μX5_neighboursOf.2.1 13 = .ok (.iload_n 3, 1) := by decide +kernel
theorem dX5_neighboursOf_14 : decode μX5_neighboursOf.2.1 14 = .ok (.ishr, 1) := by decide +kernel
theorem dX5_neighboursOf_15 : decode μX5_neighboursOf.2.1 15 = .ok (.iconst 1, 1) := by decide +kernel
theorem dX5_neighboursOf_16 : decode μX5_neighboursOf.2.1 16 = .ok (.iand, 1) := by decide +kernel
theorem dX5_neighboursOf_17 : decode μX5_neighboursOf.2.1 17 = .ok (.iconst 1, 1) := by decide +kernel
theorem dX5_neighboursOf_18 : decode μX5_neighboursOf.2.1 18 = .ok (.if_icmp .ne 12, 3) := by decide +kernel
theorem dX5_neighboursOf_21 : decode μX5_neighboursOf.2.1 21 = .ok (.iload_n 2, 1) := by decide +kernel
theorem dX5_neighboursOf_22 : decode μX5_neighboursOf.2.1 22 = .ok (.aload_n 0, 1) := by decide +kernel
theorem dX5_neighboursOf_23 : decode μX5_neighboursOf.2.1 23 = .ok (.getfield 31, 3) := by decide +kernel
theorem dX5_neighboursOf_26 : decode μX5_neighboursOf.2.1 26 = .ok (.iload_n 3, 1) := by decide +kernel
theorem dX5_neighboursOf_27 : decode μX5_neighboursOf.2.1 27 = .ok (.iaload, 1) := by decide +kernel
theorem dX5_neighboursOf_28 : decode μX5_neighboursOf.2.1 28 = .ok (.ior, 1) := by decide +kernel
theorem dX5_neighboursOf_29 : decode μX5_neighboursOf.2.1 29 = .ok (.istore_n 2, 1) := by decide +kernel
theorem dX5_neighboursOf_30 : decode μX5_neighboursOf.2.1 30 = .ok (.iinc 3 1, 3) := by decide +kernel
theorem dX5_neighboursOf_33 : decode μX5_neighboursOf.2.1 33 = .ok (.goto (-29), 3) := by decide +kernel
theorem dX5_neighboursOf_36 : decode μX5_neighboursOf.2.1 36 = .ok (.iload_n 2, 1) := by decide +kernel
theorem dX5_neighboursOf_37 : decode μX5_neighboursOf.2.1 37 = .ok (.ireturn, 1) := by decide +kernel
set_option maxRecDepth 20000 in
theorem sg_X5_neighboursOf_0 {d : Nat} {o : Nat} {x1 : Int32} {M : Mem} {K : (Int32 → Mem → Prop)} (ho : kd o = (0, 2)) (h : RI d μX5_neighboursOf 4 [(0, .ref o), (1, .int x1), (2, .int 0), (3, .int 0)] [] M K) : CI d μX5_neighboursOf [.ref o, .int x1] M K := by
  show Rn d μX5_neighboursOf 0 [(0, .ref o), (1, .int x1)] [] M _
  refine rn_iconst (v := 0) dX5_neighboursOf_0 rfl ?_
  refine rn_istore_n (lv' := [(0, .ref o), (1, .int x1), (2, .int 0)]) (hd := dX5_neighboursOf_1) (i := 2) (hi := rfl) (hn := by decide) (hf := rfl) (hl := rfl) ?_
  refine rn_iconst (v := 0) dX5_neighboursOf_2 rfl ?_
  refine rn_istore_n (lv' := [(0, .ref o), (1, .int x1), (2, .int 0), (3, .int 0)]) (hd := dX5_neighboursOf_3) (i := 3) (hi := rfl) (hn := by decide) (hf := rfl) (hl := rfl) ?_
  exact h
set_option maxRecDepth 20000 in
theorem sg_X5_neighboursOf_4 {d : Nat} {o : Nat} {x1 : Int32} {x2 : Int32} {x3 : Int32} {M : Mem} {K : (Int32 → Mem → Prop)} (ho : kd o = (0, 2)) (h : (if ri M o 0 ≤ x3 then K x2 M else (if (x1 >>> (x3 &&& 31)) &&& 1 = 1 then (vp_in x3 8 ∧ RI d μX5_neighboursOf 4 [(0, .ref o), (1, .int x1), (2, .int (x2 ||| (ri M (o + 3) (nx x3)))), (3, .int (x3 + 1))] [] M K) else RI d μX5_neighboursOf 4 [(0, .ref o), (1, .int x1), (2, .int x2), (3, .int (x3 + 1))] [] M K))) : RI d μX5_neighboursOf 4 [(0, .ref o), (1, .int x1), (2, .int x2), (3, .int x3)] [] M K := by
  show Rn d μX5_neighboursOf 4 [(0, .ref o), (1, .int x1), (2, .int x2), (3, .int x3)] [] M _
  refine rn_iload_n (i := 3) (x := x3) dX5_neighboursOf_4 rfl (by simp) ?_
  refine rn_aload_n (i := 0) (x := o) dX5_neighboursOf_5 rfl (by simp) ?_
  refine rn_geti dX5_neighboursOf_6 ho gf_X5_26 (by decide) ?_
  refine rn_icmp_ge (tgt := 36) dX5_neighboursOf_9 (by decide) (ite_go h (fun hc h => ?_) (fun hc h => ?_))
  · refine rn_iload_n (i := 2) (x := x2) dX5_neighboursOf_36 rfl (by simp) ?_
    exact rn_iret dX5_neighboursOf_37 rfl ⟨_, rfl, h⟩
  · refine rn_iload_n (i := 1) (x := x1) dX5_neighboursOf_12 rfl (by simp) ?_
    refine rn_iload_n (i := 3) (x := x3) dX5_neighboursOf_13 rfl (by simp) ?_
    refine rn_ishr dX5_neighboursOf_14 ?_
    refine rn_iconst (v := 1) dX5_neighboursOf_15 rfl ?_
    refine rn_iand dX5_neighboursOf_16 ?_
    refine rn_iconst (v := 1) dX5_neighboursOf_17 rfl ?_
    refine rn_icmp_ne (tgt := 30) dX5_neighboursOf_18 (by decide) (ite_go h (fun hc h => ?_) (fun hc h => ?_))
    · refine rn_iload_n (i := 2) (x := x2) dX5_neighboursOf_21 rfl (by simp) ?_
      refine rn_aload_n (i := 0) (x := o) dX5_neighboursOf_22 rfl (by simp) ?_
      refine rn_getr (t := o + 3) dX5_neighboursOf_23 ho gf_X5_31 rfl (froth_refs _ ho).2.2.1.1 ?_
      refine rn_iload_n (i := 3) (x := x3) dX5_neighboursOf_26 rfl (by simp) ?_
      obtain ⟨hi, h⟩ := h
      refine rn_iaload dX5_neighboursOf_27 (froth_refs _ ho).2.2.1.2 hi ?_
      refine rn_ior dX5_neighboursOf_28 ?_
      refine rn_istore_n (lv' := [(0, .ref o), (1, .int x1), (2, .int (x2 ||| (ri M (o + 3) (nx x3)))), (3, .int x3)]) (hd := dX5_neighboursOf_29) (i := 2) (hi := rfl) (hn := by decide) (hf := rfl) (hl := rfl) ?_
      refine rn_iinc (x := x3) (v := x3 + 1) (lv' := [(0, .ref o), (1, .int x1), (2, .int (x2 ||| (ri M (o + 3) (nx x3)))), (3, .int (x3 + 1))]) dX5_neighboursOf_30 (by simp) rfl (by decide) rfl rfl ?_
      refine rn_goto (tgt := 4) dX5_neighboursOf_33 (by decide) ?_
      exact h
    · refine rn_iinc (x := x3) (v := x3 + 1) (lv' := [(0, .ref o), (1, .int x1), (2, .int x2), (3, .int (x3 + 1))]) dX5_neighboursOf_30 (by simp) rfl (by decide) rfl rfl ?_
      refine rn_goto (tgt := 4) dX5_neighboursOf_33 (by decide) ?_
      exact h
theorem dX5_mostApart_0 : decode μX5_mostApart.2.1 0 = .ok (.iconst 0, 1) := by decide +kernel
theorem dX5_mostApart_1 : decode μX5_mostApart.2.1 1 = .ok (.istore_n 1, 1) := by decide +kernel
theorem dX5_mostApart_2 : decode μX5_mostApart.2.1 2 = .ok (.iconst 1, 1) := by decide +kernel
theorem dX5_mostApart_3 : decode μX5_mostApart.2.1 3 = .ok (.istore_n 2, 1) := by decide +kernel
theorem dX5_mostApart_4 : decode μX5_mostApart.2.1 4 = .ok (.iload_n 2, 1) := by decide +kernel
theorem dX5_mostApart_5 : decode μX5_mostApart.2.1 5 = .ok (.sipush 256, 3) := by decide +kernel
theorem dX5_mostApart_8 : decode μX5_mostApart.2.1 8 = .ok (.if_icmp .ge 53, 3) := by decide +kernel
theorem dX5_mostApart_11 : decode μX5_mostApart.2.1 11 = .ok (.iload_n 2, 1) := by decide +kernel
theorem dX5_mostApart_12 : decode μX5_mostApart.2.1 12 = .ok (.aload_n 0, 1) := by decide +kernel
theorem dX5_mostApart_13 : decode μX5_mostApart.2.1 13 = .ok (.getfield 34, 3) := by decide +kernel
theorem dX5_mostApart_16 : decode μX5_mostApart.2.1 16 = .ok (.iconst (-1), 1) := by decide +kernel
theorem dX5_mostApart_17 : decode μX5_mostApart.2.1 17 = .ok (.ixor, 1) := by decide +kernel
theorem dX5_mostApart_18 : decode μX5_mostApart.2.1 18 = .ok (.iand, 1) := by decide +kernel
theorem dX5_mostApart_19 : decode μX5_mostApart.2.1 19 = .ok (.ifCond .ne 17, 3) := by decide +kernel
theorem dX5_mostApart_22 : decode μX5_mostApart.2.1 22 = .ok (.aload_n 0, 1) := by decide +kernel
theorem dX5_mostApart_23 : decode μX5_mostApart.2.1 23 = .ok (.iload_n 2, 1) := by decide +kernel
theorem dX5_mostApart_24 : decode μX5_mostApart.2.1 24 = .ok (.invokestatic 22, 3) := by decide +kernel
theorem dX5_mostApart_27 : decode μX5_mostApart.2.1 27 = .ok (.iload_n 2, 1) := by decide +kernel
theorem dX5_mostApart_28 : decode μX5_mostApart.2.1 28 = .ok (.iand, 1) := by decide +kernel
theorem dX5_mostApart_29 : decode μX5_mostApart.2.1 29 = .ok (.ifCond .ne 7, 3) := by decide +kernel
theorem dX5_mostApart_32 : decode μX5_mostApart.2.1 32 = .ok (.iconst 1, 1) := by decide +kernel
theorem dX5_mostApart_33 : decode μX5_mostApart.2.1 33 = .ok (.goto 4, 3) := by decide +kernel
theorem dX5_mostApart_36 : decode μX5_mostApart.2.1 36 = .ok (.iconst 0, 1) := by decide +kernel
theorem dX5_mostApart_37 : decode μX5_mostApart.2.1 37 = .ok (.istore_n 3, 1) := by decide +kernel
theorem dX5_mostApart_38 : decode μX5_mostApart.2.1 38 = .ok (.iload_n 3, 1) := by decide +kernel
theorem dX5_mostApart_39 : decode μX5_mostApart.2.1 39 = .ok (.ifCond .eq 16, 3) := by decide +kernel
theorem dX5_mostApart_42 : decode μX5_mostApart.2.1 42 = .ok (.iload_n 2, 1) := by decide +kernel
theorem dX5_mostApart_43 : decode μX5_mostApart.2.1 43 = .ok (.invokestatic 37, 3) := by decide +kernel
theorem dX5_mostApart_46 : decode μX5_mostApart.2.1 46 = .ok (.iload_n 1, 1) := by decide +kernel
theorem dX5_mostApart_47 : decode μX5_mostApart.2.1 47 = .ok (.invokestatic 37, 3) := by decide +kernel
theorem dX5_mostApart_50 : decode μX5_mostApart.2.1 50 = .ok (.if_icmp .le 5, 3) := by decide +kernel
theorem dX5_mostApart_53 : decode μX5_mostApart.2.1 53 = .ok (.iload_n 2, 1) := by decide +kernel
theorem dX5_mostApart_54 : decode μX5_mostApart.2.1 54 = .ok (.istore_n 1, 1) := by decide +kernel
theorem dX5_mostApart_55 : decode μX5_mostApart.2.1 55 = .ok (.iinc 2 1, 3) := by decide +kernel
theorem dX5_mostApart_58 : decode μX5_mostApart.2.1 58 = .ok (.goto (-54), 3) := by decide +kernel
theorem dX5_mostApart_61 : decode μX5_mostApart.2.1 61 = .ok (.iload_n 1, 1) := by decide +kernel
theorem dX5_mostApart_62 : decode μX5_mostApart.2.1 62 = .ok (.ireturn, 1) := by decide +kernel
set_option maxRecDepth 20000 in
theorem sg_X5_mostApart_0 {d : Nat} {o : Nat} {M : Mem} {K : (Int32 → Mem → Prop)} (ho : kd o = (0, 2)) (h : RI (d + 1) μX5_mostApart 4 [(0, .ref o), (1, .int 0), (2, .int 1)] [] M K) : CI (d + 1) μX5_mostApart [.ref o] M K := by
  show Rn (d + 1) μX5_mostApart 0 [(0, .ref o)] [] M _
  refine rn_iconst (v := 0) dX5_mostApart_0 rfl ?_
  refine rn_istore_n (lv' := [(0, .ref o), (1, .int 0)]) (hd := dX5_mostApart_1) (i := 1) (hi := rfl) (hn := by decide) (hf := rfl) (hl := rfl) ?_
  refine rn_iconst (v := 1) dX5_mostApart_2 rfl ?_
  refine rn_istore_n (lv' := [(0, .ref o), (1, .int 0), (2, .int 1)]) (hd := dX5_mostApart_3) (i := 2) (hi := rfl) (hn := by decide) (hf := rfl) (hl := rfl) ?_
  exact h
set_option maxRecDepth 20000 in
theorem sg_X5_mostApart_4 {d : Nat} {o : Nat} {x1 : Int32} {x2 : Int32} {M : Mem} {K : (Int32 → Mem → Prop)} (ho : kd o = (0, 2)) (h : (if 256 ≤ x2 then K x1 M else (if x2 &&& ((ri M o 1) ^^^ ((-1))) = 0 then (CI d μX5_neighboursOf [.ref o, .int x2] M (fun r2 M1 => (if r2 &&& x2 = 0 then RI (d + 1) μX5_mostApart 37 [(0, .ref o), (1, .int x1), (2, .int x2)] [.int 1] M1 K else RI (d + 1) μX5_mostApart 37 [(0, .ref o), (1, .int x1), (2, .int x2)] [.int 0] M1 K))) else RI (d + 1) μX5_mostApart 37 [(0, .ref o), (1, .int x1), (2, .int x2)] [.int 0] M K))) : RI (d + 1) μX5_mostApart 4 [(0, .ref o), (1, .int x1), (2, .int x2)] [] M K := by
  show Rn (d + 1) μX5_mostApart 4 [(0, .ref o), (1, .int x1), (2, .int x2)] [] M _
  refine rn_iload_n (i := 2) (x := x2) dX5_mostApart_4 rfl (by simp) ?_
  refine rn_sipush (v := 256) dX5_mostApart_5 rfl ?_
  refine rn_icmp_ge (tgt := 61) dX5_mostApart_8 (by decide) (ite_go h (fun hc h => ?_) (fun hc h => ?_))
  · refine rn_iload_n (i := 1) (x := x1) dX5_mostApart_61 rfl (by simp) ?_
    exact rn_iret dX5_mostApart_62 rfl ⟨_, rfl, h⟩
  · refine rn_iload_n (i := 2) (x := x2) dX5_mostApart_11 rfl (by simp) ?_
    refine rn_aload_n (i := 0) (x := o) dX5_mostApart_12 rfl (by simp) ?_
    refine rn_geti dX5_mostApart_13 ho gf_X5_34 (by decide) ?_
    refine rn_iconst (v := -1) dX5_mostApart_16 rfl ?_
    refine rn_ixor dX5_mostApart_17 ?_
    refine rn_iand dX5_mostApart_18 ?_
    refine rn_if_ne (tgt := 36) dX5_mostApart_19 (by decide) (ite_go h (fun hc h => ?_) (fun hc h => ?_))
    · refine rn_aload_n (i := 0) (x := o) dX5_mostApart_22 rfl (by simp) ?_
      refine rn_iload_n (i := 2) (x := x2) dX5_mostApart_23 rfl (by simp) ?_
      refine rn_callSi (as := [.ref o, .int x2]) (st := []) dX5_mostApart_24 mf_X5_neighboursOf lk_X5_22 sm_X5_neighboursOf rfl (Nat.le_of_ble_eq_true rfl) (Nat.le_of_ble_eq_true rfl) rfl (RI.mono h (fun r2 M1 h => ?_))
      refine rn_iload_n (i := 2) (x := x2) dX5_mostApart_27 rfl (by simp) ?_
      refine rn_iand dX5_mostApart_28 ?_
      refine rn_if_ne (tgt := 36) dX5_mostApart_29 (by decide) (ite_go h (fun hc h => ?_) (fun hc h => ?_))
      · refine rn_iconst (v := 1) dX5_mostApart_32 rfl ?_
        refine rn_goto (tgt := 37) dX5_mostApart_33 (by decide) ?_
        exact h
      · refine rn_iconst (v := 0) dX5_mostApart_36 rfl ?_
        exact h
    · refine rn_iconst (v := 0) dX5_mostApart_36 rfl ?_
      exact h
set_option maxRecDepth 20000 in
theorem sg_X5_mostApart_37 {d : Nat} {o : Nat} {x1 : Int32} {x2 : Int32} {y0 : Int32} {M : Mem} {K : (Int32 → Mem → Prop)} (ho : kd o = (0, 2)) (h : (if y0 = 0 then RI (d + 1) μX5_mostApart 4 [(0, .ref o), (1, .int x1), (2, .int (x2 + 1))] [] M K else (CI d μJ6_bitCount_0f7a4 [.int x2] M (fun r2 M1 => (CI d μJ6_bitCount_0f7a4 [.int x1] M1 (fun r4 M3 => (if r2 ≤ r4 then RI (d + 1) μX5_mostApart 4 [(0, .ref o), (1, .int x1), (2, .int (x2 + 1))] [] M3 K else RI (d + 1) μX5_mostApart 4 [(0, .ref o), (1, .int x2), (2, .int (x2 + 1))] [] M3 K))))))) : RI (d + 1) μX5_mostApart 37 [(0, .ref o), (1, .int x1), (2, .int x2)] [.int y0] M K := by
  show Rn (d + 1) μX5_mostApart 37 [(0, .ref o), (1, .int x1), (2, .int x2)] [.int y0] M _
  refine rn_istore_n (lv' := [(0, .ref o), (1, .int x1), (2, .int x2), (3, .int y0)]) (hd := dX5_mostApart_37) (i := 3) (hi := rfl) (hn := by decide) (hf := rfl) (hl := rfl) ?_
  refine rn_iload_n (i := 3) (x := y0) dX5_mostApart_38 rfl (by simp) ?_
  refine rn_if_eq (tgt := 55) dX5_mostApart_39 (by decide) (ite_go h (fun hc h => ?_) (fun hc h => ?_))
  · refine rn_iinc (x := x2) (v := x2 + 1) (lv' := [(0, .ref o), (1, .int x1), (2, .int (x2 + 1)), (3, .int y0)]) dX5_mostApart_55 (by simp) rfl (by decide) rfl rfl ?_
    refine rn_goto (tgt := 4) dX5_mostApart_58 (by decide) ?_
    refine Rn.sub (lv' := [(0, .ref o), (1, .int x1), (2, .int (x2 + 1))]) (by simp) ?_
    exact h
  · refine rn_iload_n (i := 2) (x := x2) dX5_mostApart_42 rfl (by simp) ?_
    refine rn_callSi (as := [.int x2]) (st := []) dX5_mostApart_43 mf_J6_bitCount_0f7a4 lk_X5_37 sm_J6_bitCount_0f7a4 rfl (Nat.le_of_ble_eq_true rfl) (Nat.le_of_ble_eq_true rfl) rfl (RI.mono h (fun r2 M1 h => ?_))
    refine rn_iload_n (i := 1) (x := x1) dX5_mostApart_46 rfl (by simp) ?_
    refine rn_callSi (as := [.int x1]) (st := [.int r2]) dX5_mostApart_47 mf_J6_bitCount_0f7a4 lk_X5_37 sm_J6_bitCount_0f7a4 rfl (Nat.le_of_ble_eq_true rfl) (Nat.le_of_ble_eq_true rfl) rfl (RI.mono h (fun r4 M3 h => ?_))
    refine rn_icmp_le (tgt := 55) dX5_mostApart_50 (by decide) (ite_go h (fun hc h => ?_) (fun hc h => ?_))
    · refine rn_iinc (x := x2) (v := x2 + 1) (lv' := [(0, .ref o), (1, .int x1), (2, .int (x2 + 1)), (3, .int y0)]) dX5_mostApart_55 (by simp) rfl (by decide) rfl rfl ?_
      refine rn_goto (tgt := 4) dX5_mostApart_58 (by decide) ?_
      refine Rn.sub (lv' := [(0, .ref o), (1, .int x1), (2, .int (x2 + 1))]) (by simp) ?_
      exact h
    · refine rn_iload_n (i := 2) (x := x2) dX5_mostApart_53 rfl (by simp) ?_
      refine rn_istore_n (lv' := [(0, .ref o), (1, .int x2), (2, .int x2), (3, .int y0)]) (hd := dX5_mostApart_54) (i := 1) (hi := rfl) (hn := by decide) (hf := rfl) (hl := rfl) ?_
      refine rn_iinc (x := x2) (v := x2 + 1) (lv' := [(0, .ref o), (1, .int x2), (2, .int (x2 + 1)), (3, .int y0)]) dX5_mostApart_55 (by simp) rfl (by decide) rfl rfl ?_
      refine rn_goto (tgt := 4) dX5_mostApart_58 (by decide) ?_
      refine Rn.sub (lv' := [(0, .ref o), (1, .int x2), (2, .int (x2 + 1))]) (by simp) ?_
      exact h
theorem dX5_fewestBetween_0 : decode μX5_fewestBetween.2.1 0 = .ok (.aload_n 0, 1) := by decide +kernel
theorem dX5_fewestBetween_1 : decode μX5_fewestBetween.2.1 1 = .ok (.getfield 34, 3) := by decide +kernel
theorem dX5_fewestBetween_4 : decode μX5_fewestBetween.2.1 4 = .ok (.iconst 1, 1) := by decide +kernel
theorem dX5_fewestBetween_5 : decode μX5_fewestBetween.2.1 5 = .ok (.iload_n 1, 1) := by decide +kernel
theorem dX5_fewestBetween_6 : decode μX5_fewestBetween.2.1 6 = .ok (.ishl, 1) := by decide +kernel
theorem dX5_fewestBetween_7 : decode μX5_fewestBetween.2.1 7 = .ok (.iconst 1, 1) := by decide +kernel
theorem dX5_fewestBetween_8 : decode μX5_fewestBetween.2.1 8 = .ok (.iload_n 2, 1) := by decide +kernel
theorem dX5_fewestBetween_9 : decode μX5_fewestBetween.2.1 9 = .ok (.ishl, 1) := by decide +kernel
theorem dX5_fewestBetween_10 : decode μX5_fewestBetween.2.1 10 = .ok (.ior, 1) := by decide +kernel
theorem dX5_fewestBetween_11 : decode μX5_fewestBetween.2.1 11 = .ok (.iconst (-1), 1) := by decide +kernel
theorem dX5_fewestBetween_12 : decode μX5_fewestBetween.2.1 12 = .ok (.ixor, 1) := by decide +kernel
theorem dX5_fewestBetween_13 : decode μX5_fewestBetween.2.1 13 = .ok (.iand, 1) := by decide +kernel
theorem dX5_fewestBetween_14 : decode μX5_fewestBetween.2.1 14 = .ok (.istore_n 3, 1) := by decide +kernel
theorem dX5_fewestBetween_15 : decode μX5_fewestBetween.2.1 15 = .ok (.iload_n 3, 1) := by decide +kernel
theorem dX5_fewestBetween_16 : decode μX5_fewestBetween.2.1 16 = .ok (.istore 4, 2) := by decide +kernel
theorem dX5_fewestBetween_18 : decode μX5_fewestBetween.2.1 18 = .ok (.iconst 0, 1) := by decide +kernel
theorem dX5_fewestBetween_19 : decode μX5_fewestBetween.2.1 19 = .ok (.istore 5, 2) := by decide +kernel
theorem dX5_fewestBetween_21 : decode μX5_fewestBetween.2.1 21 = .ok (.iload 5, 2) := by decide +kernel
theorem dX5_fewestBetween_23 : decode μX5_fewestBetween.2.1 23 = .ok (.sipush 256, 3) := by decide +kernel
theorem dX5_fewestBetween_26 : decode μX5_fewestBetween.2.1 26 = .ok (.if_icmp .ge 46, 3) := by decide +kernel
theorem dX5_fewestBetween_29 : decode μX5_fewestBetween.2.1 29 = .ok (.iload 5, 2) := by decide +kernel
theorem dX5_fewestBetween_31 : decode μX5_fewestBetween.2.1 31 = .ok (.iload_n 3, 1) := by decide +kernel
theorem dX5_fewestBetween_32 : decode μX5_fewestBetween.2.1 32 = .ok (.iconst (-1), 1) := by decide +kernel
theorem dX5_fewestBetween_33 : decode μX5_fewestBetween.2.1 33 = .ok (.ixor, 1) := by decide +kernel
theorem dX5_fewestBetween_34 : decode μX5_fewestBetween.2.1 34 = .ok (.iand, 1) := by decide +kernel
theorem dX5_fewestBetween_35 : decode μX5_fewestBetween.2.1 35 = .ok (.ifCond .ne 31, 3) := by decide +kernel
theorem dX5_fewestBetween_38 : decode μX5_fewestBetween.2.1 38 = .ok (.iload 5, 2) := by decide +kernel
theorem dX5_fewestBetween_40 : decode μX5_fewestBetween.2.1 40 = .ok (.invokestatic 37, 3) := by decide +kernel
theorem dX5_fewestBetween_43 : decode μX5_fewestBetween.2.1 43 = .ok (.iload 4, 2) := by decide +kernel
theorem dX5_fewestBetween_45 : decode μX5_fewestBetween.2.1 45 = .ok (.invokestatic 37, 3) := by decide +kernel
theorem dX5_fewestBetween_48 : decode μX5_fewestBetween.2.1 48 = .ok (.if_icmp .ge 18, 3) := by decide +kernel
theorem dX5_fewestBetween_51 : decode μX5_fewestBetween.2.1 51 = .ok (.aload_n 0, 1) := by decide +kernel
theorem dX5_fewestBetween_52 : decode μX5_fewestBetween.2.1 52 = .ok (.iload_n 1, 1) := by decide +kernel
theorem dX5_fewestBetween_53 : decode μX5_fewestBetween.2.1 53 = .ok (.iload_n 2, 1) := by decide +kernel
theorem dX5_fewestBetween_54 : decode μX5_fewestBetween.2.1 54 = .ok (.iload 5, 2) := by decide +kernel
theorem dX5_fewestBetween_56 : decode μX5_fewestBetween.2.1 56 = .ok (.invokestatic 43, 3) := by decide +kernel
theorem dX5_fewestBetween_59 : decode μX5_fewestBetween.2.1 59 = .ok (.ifCond .ne 7, 3) := by decide +kernel
theorem dX5_fewestBetween_62 : decode μX5_fewestBetween.2.1 62 = .ok (.iload 5, 2) := by decide +kernel
theorem dX5_fewestBetween_64 : decode μX5_fewestBetween.2.1 64 = .ok (.istore 4, 2) := by decide +kernel
theorem dX5_fewestBetween_66 : decode μX5_fewestBetween.2.1 66 = .ok (.iinc 5 1, 3) := by decide +kernel
theorem dX5_fewestBetween_69 : decode μX5_fewestBetween.2.1 69 = .ok (.goto (-48), 3) := by decide +kernel
theorem dX5_fewestBetween_72 : decode μX5_fewestBetween.2.1 72 = .ok (.iload 4, 2) := by decide +kernel
theorem dX5_fewestBetween_74 : decode μX5_fewestBetween.2.1 74 = .ok (.ireturn, 1) := by decide +kernel
set_option maxRecDepth 20000 in
theorem sg_X5_fewestBetween_0 {d : Nat} {o : Nat} {x1 : Int32} {x2 : Int32} {M : Mem} {K : (Int32 → Mem → Prop)} (ho : kd o = (0, 2)) (h : RI (d + 1) μX5_fewestBetween 21 [(0, .ref o), (1, .int x1), (2, .int x2), (3, .int ((ri M o 1) &&& ((((1 : Int32) <<< (x1 &&& 31)) ||| ((1 : Int32) <<< (x2 &&& 31))) ^^^ ((-1))))), (4, .int ((ri M o 1) &&& ((((1 : Int32) <<< (x1 &&& 31)) ||| ((1 : Int32) <<< (x2 &&& 31))) ^^^ ((-1))))), (5, .int 0)] [] M K) : CI (d + 1) μX5_fewestBetween [.ref o, .int x1, .int x2] M K := by
  show Rn (d + 1) μX5_fewestBetween 0 [(0, .ref o), (1, .int x1), (2, .int x2)] [] M _
  refine rn_aload_n (i := 0) (x := o) dX5_fewestBetween_0 rfl (by simp) ?_
  refine rn_geti dX5_fewestBetween_1 ho gf_X5_34 (by decide) ?_
  refine rn_iconst (v := 1) dX5_fewestBetween_4 rfl ?_
  refine rn_iload_n (i := 1) (x := x1) dX5_fewestBetween_5 rfl (by simp) ?_
  refine rn_ishl dX5_fewestBetween_6 ?_
  refine rn_iconst (v := 1) dX5_fewestBetween_7 rfl ?_
  refine rn_iload_n (i := 2) (x := x2) dX5_fewestBetween_8 rfl (by simp) ?_
  refine rn_ishl dX5_fewestBetween_9 ?_
  refine rn_ior dX5_fewestBetween_10 ?_
  refine rn_iconst (v := -1) dX5_fewestBetween_11 rfl ?_
  refine rn_ixor dX5_fewestBetween_12 ?_
  refine rn_iand dX5_fewestBetween_13 ?_
  refine rn_istore_n (lv' := [(0, .ref o), (1, .int x1), (2, .int x2), (3, .int ((ri M o 1) &&& ((((1 : Int32) <<< (x1 &&& 31)) ||| ((1 : Int32) <<< (x2 &&& 31))) ^^^ ((-1)))))]) (hd := dX5_fewestBetween_14) (i := 3) (hi := rfl) (hn := by decide) (hf := rfl) (hl := rfl) ?_
  refine rn_iload_n (i := 3) (x := (ri M o 1) &&& ((((1 : Int32) <<< (x1 &&& 31)) ||| ((1 : Int32) <<< (x2 &&& 31))) ^^^ ((-1)))) dX5_fewestBetween_15 rfl (by simp) ?_
  refine rn_istore (lv' := [(0, .ref o), (1, .int x1), (2, .int x2), (3, .int ((ri M o 1) &&& ((((1 : Int32) <<< (x1 &&& 31)) ||| ((1 : Int32) <<< (x2 &&& 31))) ^^^ ((-1))))), (4, .int ((ri M o 1) &&& ((((1 : Int32) <<< (x1 &&& 31)) ||| ((1 : Int32) <<< (x2 &&& 31))) ^^^ ((-1)))))]) (hd := dX5_fewestBetween_16) (hn := by decide) (hf := rfl) (hl := rfl) ?_
  refine rn_iconst (v := 0) dX5_fewestBetween_18 rfl ?_
  refine rn_istore (lv' := [(0, .ref o), (1, .int x1), (2, .int x2), (3, .int ((ri M o 1) &&& ((((1 : Int32) <<< (x1 &&& 31)) ||| ((1 : Int32) <<< (x2 &&& 31))) ^^^ ((-1))))), (4, .int ((ri M o 1) &&& ((((1 : Int32) <<< (x1 &&& 31)) ||| ((1 : Int32) <<< (x2 &&& 31))) ^^^ ((-1))))), (5, .int 0)]) (hd := dX5_fewestBetween_19) (hn := by decide) (hf := rfl) (hl := rfl) ?_
  exact h
set_option maxRecDepth 20000 in
theorem sg_X5_fewestBetween_21 {d : Nat} {o : Nat} {x1 : Int32} {x2 : Int32} {x3 : Int32} {x4 : Int32} {x5 : Int32} {M : Mem} {K : (Int32 → Mem → Prop)} (ho : kd o = (0, 2)) (h : (if 256 ≤ x5 then K x4 M else (if x5 &&& (x3 ^^^ ((-1))) = 0 then (CI d μJ6_bitCount_0f7a4 [.int x5] M (fun r2 M1 => (CI d μJ6_bitCount_0f7a4 [.int x4] M1 (fun r4 M3 => (if r4 ≤ r2 then RI (d + 1) μX5_fewestBetween 21 [(0, .ref o), (1, .int x1), (2, .int x2), (3, .int x3), (4, .int x4), (5, .int (x5 + 1))] [] M3 K else (CI d μX5_isReached [.ref o, .int x1, .int x2, .int x5] M3 (fun r6 M5 => (if r6 = 0 then RI (d + 1) μX5_fewestBetween 21 [(0, .ref o), (1, .int x1), (2, .int x2), (3, .int x3), (4, .int x5), (5, .int (x5 + 1))] [] M5 K else RI (d + 1) μX5_fewestBetween 21 [(0, .ref o), (1, .int x1), (2, .int x2), (3, .int x3), (4, .int x4), (5, .int (x5 + 1))] [] M5 K)))))))) else RI (d + 1) μX5_fewestBetween 21 [(0, .ref o), (1, .int x1), (2, .int x2), (3, .int x3), (4, .int x4), (5, .int (x5 + 1))] [] M K))) : RI (d + 1) μX5_fewestBetween 21 [(0, .ref o), (1, .int x1), (2, .int x2), (3, .int x3), (4, .int x4), (5, .int x5)] [] M K := by
  show Rn (d + 1) μX5_fewestBetween 21 [(0, .ref o), (1, .int x1), (2, .int x2), (3, .int x3), (4, .int x4), (5, .int x5)] [] M _
  refine rn_iload (x := x5) dX5_fewestBetween_21 (by simp) ?_
  refine rn_sipush (v := 256) dX5_fewestBetween_23 rfl ?_
  refine rn_icmp_ge (tgt := 72) dX5_fewestBetween_26 (by decide) (ite_go h (fun hc h => ?_) (fun hc h => ?_))
  · refine rn_iload (x := x4) dX5_fewestBetween_72 (by simp) ?_
    exact rn_iret dX5_fewestBetween_74 rfl ⟨_, rfl, h⟩
  · refine rn_iload (x := x5) dX5_fewestBetween_29 (by simp) ?_
    refine rn_iload_n (i := 3) (x := x3) dX5_fewestBetween_31 rfl (by simp) ?_
    refine rn_iconst (v := -1) dX5_fewestBetween_32 rfl ?_
    refine rn_ixor dX5_fewestBetween_33 ?_
    refine rn_iand dX5_fewestBetween_34 ?_
    refine rn_if_ne (tgt := 66) dX5_fewestBetween_35 (by decide) (ite_go h (fun hc h => ?_) (fun hc h => ?_))
    · refine rn_iload (x := x5) dX5_fewestBetween_38 (by simp) ?_
      refine rn_callSi (as := [.int x5]) (st := []) dX5_fewestBetween_40 mf_J6_bitCount_0f7a4 lk_X5_37 sm_J6_bitCount_0f7a4 rfl (Nat.le_of_ble_eq_true rfl) (Nat.le_of_ble_eq_true rfl) rfl (RI.mono h (fun r2 M1 h => ?_))
      refine rn_iload (x := x4) dX5_fewestBetween_43 (by simp) ?_
      refine rn_callSi (as := [.int x4]) (st := [.int r2]) dX5_fewestBetween_45 mf_J6_bitCount_0f7a4 lk_X5_37 sm_J6_bitCount_0f7a4 rfl (Nat.le_of_ble_eq_true rfl) (Nat.le_of_ble_eq_true rfl) rfl (RI.mono h (fun r4 M3 h => ?_))
      refine rn_icmp_ge (tgt := 66) dX5_fewestBetween_48 (by decide) (ite_go h (fun hc h => ?_) (fun hc h => ?_))
      · refine rn_iinc (x := x5) (v := x5 + 1) (lv' := [(0, .ref o), (1, .int x1), (2, .int x2), (3, .int x3), (4, .int x4), (5, .int (x5 + 1))]) dX5_fewestBetween_66 (by simp) rfl (by decide) rfl rfl ?_
        refine rn_goto (tgt := 21) dX5_fewestBetween_69 (by decide) ?_
        exact h
      · refine rn_aload_n (i := 0) (x := o) dX5_fewestBetween_51 rfl (by simp) ?_
        refine rn_iload_n (i := 1) (x := x1) dX5_fewestBetween_52 rfl (by simp) ?_
        refine rn_iload_n (i := 2) (x := x2) dX5_fewestBetween_53 rfl (by simp) ?_
        refine rn_iload (x := x5) dX5_fewestBetween_54 (by simp) ?_
        refine rn_callSi (as := [.ref o, .int x1, .int x2, .int x5]) (st := []) dX5_fewestBetween_56 mf_X5_isReached lk_X5_43 sm_X5_isReached rfl (Nat.le_of_ble_eq_true rfl) (Nat.le_of_ble_eq_true rfl) rfl (RI.mono h (fun r6 M5 h => ?_))
        refine rn_if_ne (tgt := 66) dX5_fewestBetween_59 (by decide) (ite_go h (fun hc h => ?_) (fun hc h => ?_))
        · refine rn_iload (x := x5) dX5_fewestBetween_62 (by simp) ?_
          refine rn_istore (lv' := [(0, .ref o), (1, .int x1), (2, .int x2), (3, .int x3), (4, .int x5), (5, .int x5)]) (hd := dX5_fewestBetween_64) (hn := by decide) (hf := rfl) (hl := rfl) ?_
          refine rn_iinc (x := x5) (v := x5 + 1) (lv' := [(0, .ref o), (1, .int x1), (2, .int x2), (3, .int x3), (4, .int x5), (5, .int (x5 + 1))]) dX5_fewestBetween_66 (by simp) rfl (by decide) rfl rfl ?_
          refine rn_goto (tgt := 21) dX5_fewestBetween_69 (by decide) ?_
          exact h
        · refine rn_iinc (x := x5) (v := x5 + 1) (lv' := [(0, .ref o), (1, .int x1), (2, .int x2), (3, .int x3), (4, .int x4), (5, .int (x5 + 1))]) dX5_fewestBetween_66 (by simp) rfl (by decide) rfl rfl ?_
          refine rn_goto (tgt := 21) dX5_fewestBetween_69 (by decide) ?_
          exact h
    · refine rn_iinc (x := x5) (v := x5 + 1) (lv' := [(0, .ref o), (1, .int x1), (2, .int x2), (3, .int x3), (4, .int x4), (5, .int (x5 + 1))]) dX5_fewestBetween_66 (by simp) rfl (by decide) rfl rfl ?_
      refine rn_goto (tgt := 21) dX5_fewestBetween_69 (by decide) ?_
      exact h
theorem dX5_isReached_0 : decode μX5_isReached.2.1 0 = .ok (.iconst 1, 1) := by decide +kernel
theorem dX5_isReached_1 : decode μX5_isReached.2.1 1 = .ok (.iload_n 1, 1) := by decide +kernel
theorem dX5_isReached_2 : decode μX5_isReached.2.1 2 = .ok (.ishl, 1) := by decide +kernel
theorem dX5_isReached_3 : decode μX5_isReached.2.1 3 = .ok (.istore 4, 2) := by decide +kernel
theorem dX5_isReached_5 : decode μX5_isReached.2.1 5 = .ok (.iconst 0, 1) := by decide +kernel
theorem dX5_isReached_6 : decode μX5_isReached.2.1 6 = .ok (.istore 5, 2) := by decide +kernel
theorem dX5_isReached_8 : decode μX5_isReached.2.1 8 = .ok (.iload 5, 2) := by decide +kernel
theorem dX5_isReached_10 : decode μX5_isReached.2.1 10 = .ok (.bipush 8, 2) := by decide +kernel
theorem dX5_isReached_12 : decode μX5_isReached.2.1 12 = .ok (.if_icmp .ge 24, 3) := by decide +kernel
theorem dX5_isReached_15 : decode μX5_isReached.2.1 15 = .ok (.iload 4, 2) := by decide +kernel
theorem dX5_isReached_17 : decode μX5_isReached.2.1 17 = .ok (.aload_n 0, 1) := by decide +kernel
theorem dX5_isReached_18 : decode μX5_isReached.2.1 18 = .ok (.iload 4, 2) := by decide +kernel
theorem dX5_isReached_20 : decode μX5_isReached.2.1 20 = .ok (.invokestatic 22, 3) := by decide +kernel
theorem dX5_isReached_23 : decode μX5_isReached.2.1 23 = .ok (.iload_n 3, 1) := by decide +kernel
theorem dX5_isReached_24 : decode μX5_isReached.2.1 24 = .ok (.iconst (-1), 1) := by decide +kernel
theorem dX5_isReached_25 : decode μX5_isReached.2.1 25 = .ok (.ixor, 1) := by decide +kernel
theorem dX5_isReached_26 : decode μX5_isReached.2.1 26 = .ok (.iand, 1) := by decide +kernel
theorem dX5_isReached_27 : decode μX5_isReached.2.1 27 = .ok (.ior, 1) := by decide +kernel
theorem dX5_isReached_28 : decode μX5_isReached.2.1 28 = .ok (.istore 4, 2) := by decide +kernel
theorem dX5_isReached_30 : decode μX5_isReached.2.1 30 = .ok (.iinc 5 1, 3) := by decide +kernel
theorem dX5_isReached_33 : decode μX5_isReached.2.1 33 = .ok (.goto (-25), 3) := by decide +kernel
theorem dX5_isReached_36 : decode μX5_isReached.2.1 36 = .ok (.iload 4, 2) := by decide +kernel
theorem dX5_isReached_38 : decode μX5_isReached.2.1 38 = .ok (.iload_n 2, 1) := by decide +kernel
theorem dX5_isReached_39 : decode μX5_isReached.2.1 39 = .ok (.ishr, 1) := by decide +kernel
theorem dX5_isReached_40 : decode μX5_isReached.2.1 40 = .ok (.iconst 1, 1) := by decide +kernel
theorem dX5_isReached_41 : decode μX5_isReached.2.1 41 = .ok (.iand, 1) := by decide +kernel
theorem dX5_isReached_42 : decode μX5_isReached.2.1 42 = .ok (.iconst 1, 1) := by decide +kernel
theorem dX5_isReached_43 : decode μX5_isReached.2.1 43 = .ok (.if_icmp .ne 7, 3) := by decide +kernel
theorem dX5_isReached_46 : decode μX5_isReached.2.1 46 = .ok (.iconst 1, 1) := by decide +kernel
theorem dX5_isReached_47 : decode μX5_isReached.2.1 47 = .ok (.goto 4, 3) := by decide +kernel
theorem dX5_isReached_50 : decode μX5_isReached.2.1 50 = .ok (.iconst 0, 1) := by decide +kernel
theorem dX5_isReached_51 : decode μX5_isReached.2.1 51 = .ok (.ireturn, 1) := by decide +kernel
set_option maxRecDepth 20000 in
theorem sg_X5_isReached_0 {d : Nat} {o : Nat} {x1 : Int32} {x2 : Int32} {x3 : Int32} {M : Mem} {K : (Int32 → Mem → Prop)} (ho : kd o = (0, 2)) (h : RI (d + 1) μX5_isReached 8 [(0, .ref o), (1, .int x1), (2, .int x2), (3, .int x3), (4, .int ((1 : Int32) <<< (x1 &&& 31))), (5, .int 0)] [] M K) : CI (d + 1) μX5_isReached [.ref o, .int x1, .int x2, .int x3] M K := by
  show Rn (d + 1) μX5_isReached 0 [(0, .ref o), (1, .int x1), (2, .int x2), (3, .int x3)] [] M _
  refine rn_iconst (v := 1) dX5_isReached_0 rfl ?_
  refine rn_iload_n (i := 1) (x := x1) dX5_isReached_1 rfl (by simp) ?_
  refine rn_ishl dX5_isReached_2 ?_
  refine rn_istore (lv' := [(0, .ref o), (1, .int x1), (2, .int x2), (3, .int x3), (4, .int ((1 : Int32) <<< (x1 &&& 31)))]) (hd := dX5_isReached_3) (hn := by decide) (hf := rfl) (hl := rfl) ?_
  refine rn_iconst (v := 0) dX5_isReached_5 rfl ?_
  refine rn_istore (lv' := [(0, .ref o), (1, .int x1), (2, .int x2), (3, .int x3), (4, .int ((1 : Int32) <<< (x1 &&& 31))), (5, .int 0)]) (hd := dX5_isReached_6) (hn := by decide) (hf := rfl) (hl := rfl) ?_
  exact h
set_option maxRecDepth 20000 in
theorem sg_X5_isReached_8 {d : Nat} {o : Nat} {x1 : Int32} {x2 : Int32} {x3 : Int32} {x4 : Int32} {x5 : Int32} {M : Mem} {K : (Int32 → Mem → Prop)} (ho : kd o = (0, 2)) (h : (if 8 ≤ x5 then (if (x4 >>> (x2 &&& 31)) &&& 1 = 1 then K 1 M else K 0 M) else (CI d μX5_neighboursOf [.ref o, .int x4] M (fun r2 M1 => RI (d + 1) μX5_isReached 8 [(0, .ref o), (1, .int x1), (2, .int x2), (3, .int x3), (4, .int (x4 ||| (r2 &&& (x3 ^^^ ((-1)))))), (5, .int (x5 + 1))] [] M1 K)))) : RI (d + 1) μX5_isReached 8 [(0, .ref o), (1, .int x1), (2, .int x2), (3, .int x3), (4, .int x4), (5, .int x5)] [] M K := by
  show Rn (d + 1) μX5_isReached 8 [(0, .ref o), (1, .int x1), (2, .int x2), (3, .int x3), (4, .int x4), (5, .int x5)] [] M _
  refine rn_iload (x := x5) dX5_isReached_8 (by simp) ?_
  refine rn_bipush (v := 8) dX5_isReached_10 rfl ?_
  refine rn_icmp_ge (tgt := 36) dX5_isReached_12 (by decide) (ite_go h (fun hc h => ?_) (fun hc h => ?_))
  · refine rn_iload (x := x4) dX5_isReached_36 (by simp) ?_
    refine rn_iload_n (i := 2) (x := x2) dX5_isReached_38 rfl (by simp) ?_
    refine rn_ishr dX5_isReached_39 ?_
    refine rn_iconst (v := 1) dX5_isReached_40 rfl ?_
    refine rn_iand dX5_isReached_41 ?_
    refine rn_iconst (v := 1) dX5_isReached_42 rfl ?_
    refine rn_icmp_ne (tgt := 50) dX5_isReached_43 (by decide) (ite_go h (fun hc h => ?_) (fun hc h => ?_))
    · refine rn_iconst (v := 1) dX5_isReached_46 rfl ?_
      refine rn_goto (tgt := 51) dX5_isReached_47 (by decide) ?_
      exact rn_zret dX5_isReached_51 rfl (by decide) ⟨_, rfl, h⟩
    · refine rn_iconst (v := 0) dX5_isReached_50 rfl ?_
      exact rn_zret dX5_isReached_51 rfl (by decide) ⟨_, rfl, h⟩
  · refine rn_iload (x := x4) dX5_isReached_15 (by simp) ?_
    refine rn_aload_n (i := 0) (x := o) dX5_isReached_17 rfl (by simp) ?_
    refine rn_iload (x := x4) dX5_isReached_18 (by simp) ?_
    refine rn_callSi (as := [.ref o, .int x4]) (st := [.int x4]) dX5_isReached_20 mf_X5_neighboursOf lk_X5_22 sm_X5_neighboursOf rfl (Nat.le_of_ble_eq_true rfl) (Nat.le_of_ble_eq_true rfl) rfl (RI.mono h (fun r2 M1 h => ?_))
    refine rn_iload_n (i := 3) (x := x3) dX5_isReached_23 rfl (by simp) ?_
    refine rn_iconst (v := -1) dX5_isReached_24 rfl ?_
    refine rn_ixor dX5_isReached_25 ?_
    refine rn_iand dX5_isReached_26 ?_
    refine rn_ior dX5_isReached_27 ?_
    refine rn_istore (lv' := [(0, .ref o), (1, .int x1), (2, .int x2), (3, .int x3), (4, .int (x4 ||| (r2 &&& (x3 ^^^ ((-1)))))), (5, .int x5)]) (hd := dX5_isReached_28) (hn := by decide) (hf := rfl) (hl := rfl) ?_
    refine rn_iinc (x := x5) (v := x5 + 1) (lv' := [(0, .ref o), (1, .int x1), (2, .int x2), (3, .int x3), (4, .int (x4 ||| (r2 &&& (x3 ^^^ ((-1)))))), (5, .int (x5 + 1))]) dX5_isReached_30 (by simp) rfl (by decide) rfl rfl ?_
    refine rn_goto (tgt := 8) dX5_isReached_33 (by decide) ?_
    exact h
theorem dX5_fewestColours_0 : decode μX5_fewestColours.2.1 0 = .ok (.iconst 0, 1) := by decide +kernel
theorem dX5_fewestColours_1 : decode μX5_fewestColours.2.1 1 = .ok (.istore_n 2, 1) := by decide +kernel
theorem dX5_fewestColours_2 : decode μX5_fewestColours.2.1 2 = .ok (.iload_n 2, 1) := by decide +kernel
theorem dX5_fewestColours_3 : decode μX5_fewestColours.2.1 3 = .ok (.bipush 8, 2) := by decide +kernel
theorem dX5_fewestColours_5 : decode μX5_fewestColours.2.1 5 = .ok (.if_icmp .ge 16, 3) := by decide +kernel
theorem dX5_fewestColours_8 : decode μX5_fewestColours.2.1 8 = .ok (.aload_n 0, 1) := by decide +kernel
theorem dX5_fewestColours_9 : decode μX5_fewestColours.2.1 9 = .ok (.getfield 9, 3) := by decide +kernel
theorem dX5_fewestColours_12 : decode μX5_fewestColours.2.1 12 = .ok (.iload_n 2, 1) := by decide +kernel
theorem dX5_fewestColours_13 : decode μX5_fewestColours.2.1 13 = .ok (.iconst (-1), 1) := by decide +kernel
theorem dX5_fewestColours_14 : decode μX5_fewestColours.2.1 14 = .ok (.iastore, 1) := by decide +kernel
theorem dX5_fewestColours_15 : decode μX5_fewestColours.2.1 15 = .ok (.iinc 2 1, 3) := by decide +kernel
theorem dX5_fewestColours_18 : decode μX5_fewestColours.2.1 18 = .ok (.goto (-16), 3) := by decide +kernel
theorem dX5_fewestColours_21 : decode μX5_fewestColours.2.1 21 = .ok (.iconst 0, 1) := by decide +kernel
theorem dX5_fewestColours_22 : decode μX5_fewestColours.2.1 22 = .ok (.istore_n 2, 1) := by decide +kernel
theorem dX5_fewestColours_23 : decode μX5_fewestColours.2.1 23 = .ok (.iload_n 2, 1) := by decide +kernel
theorem dX5_fewestColours_24 : decode μX5_fewestColours.2.1 24 = .ok (.bipush 8, 2) := by decide +kernel
theorem dX5_fewestColours_26 : decode μX5_fewestColours.2.1 26 = .ok (.if_icmp .ge 21, 3) := by decide +kernel
theorem dX5_fewestColours_29 : decode μX5_fewestColours.2.1 29 = .ok (.aload_n 0, 1) := by decide +kernel
theorem dX5_fewestColours_30 : decode μX5_fewestColours.2.1 30 = .ok (.aload_n 1, 1) := by decide +kernel
theorem dX5_fewestColours_31 : decode μX5_fewestColours.2.1 31 = .ok (.iconst 0, 1) := by decide +kernel
theorem dX5_fewestColours_32 : decode μX5_fewestColours.2.1 32 = .ok (.iload_n 2, 1) := by decide +kernel
theorem dX5_fewestColours_33 : decode μX5_fewestColours.2.1 33 = .ok (.invokevirtual 47, 3) := by decide +kernel
theorem dX5_fewestColours_36 : decode μX5_fewestColours.2.1 36 = .ok (.ifCond .eq 5, 3) := by decide +kernel
theorem dX5_fewestColours_39 : decode μX5_fewestColours.2.1 39 = .ok (.iload_n 2, 1) := by decide +kernel
theorem dX5_fewestColours_40 : decode μX5_fewestColours.2.1 40 = .ok (.ireturn, 1) := by decide +kernel
theorem dX5_fewestColours_41 : decode μX5_fewestColours.2.1 41 = .ok (.iinc 2 1, 3) := by decide +kernel
theorem dX5_fewestColours_44 : decode μX5_fewestColours.2.1 44 = .ok (.goto (-21), 3) := by decide +kernel
theorem dX5_fewestColours_47 : decode μX5_fewestColours.2.1 47 = .ok (.bipush 8, 2) := by decide +kernel
theorem dX5_fewestColours_49 : decode μX5_fewestColours.2.1 49 = .ok (.ireturn, 1) := by decide +kernel
set_option maxRecDepth 20000 in
theorem sg_X5_fewestColours_0 {d : Nat} {o : Nat} {M : Mem} {K : (Int32 → Mem → Prop)} (ho : kd o = (0, 2)) (h : RI (d + 1) μX5_fewestColours 2 [(0, .ref 42), (1, .ref o), (2, .int 0)] [] M K) : CI (d + 1) μX5_fewestColours [.ref 42, .ref o] M K := by
  show Rn (d + 1) μX5_fewestColours 0 [(0, .ref 42), (1, .ref o)] [] M _
  refine rn_iconst (v := 0) dX5_fewestColours_0 rfl ?_
  refine rn_istore_n (lv' := [(0, .ref 42), (1, .ref o), (2, .int 0)]) (hd := dX5_fewestColours_1) (i := 2) (hi := rfl) (hn := by decide) (hf := rfl) (hl := rfl) ?_
  exact h
set_option maxRecDepth 20000 in
theorem sg_X5_fewestColours_2 {d : Nat} {o : Nat} {x2 : Int32} {M : Mem} {K : (Int32 → Mem → Prop)} (ho : kd o = (0, 2)) (h : (if 8 ≤ x2 then RI (d + 1) μX5_fewestColours 23 [(0, .ref 42), (1, .ref o), (2, .int 0)] [] M K else (vp_in x2 8 ∧ ∀ M1, M1 = wi M 43 (nx x2) ((-1)) → RI (d + 1) μX5_fewestColours 2 [(0, .ref 42), (1, .ref o), (2, .int (x2 + 1))] [] M1 K))) : RI (d + 1) μX5_fewestColours 2 [(0, .ref 42), (1, .ref o), (2, .int x2)] [] M K := by
  show Rn (d + 1) μX5_fewestColours 2 [(0, .ref 42), (1, .ref o), (2, .int x2)] [] M _
  refine rn_iload_n (i := 2) (x := x2) dX5_fewestColours_2 rfl (by simp) ?_
  refine rn_bipush (v := 8) dX5_fewestColours_3 rfl ?_
  refine rn_icmp_ge (tgt := 21) dX5_fewestColours_5 (by decide) (ite_go h (fun hc h => ?_) (fun hc h => ?_))
  · refine rn_iconst (v := 0) dX5_fewestColours_21 rfl ?_
    refine rn_istore_n (lv' := [(0, .ref 42), (1, .ref o), (2, .int 0)]) (hd := dX5_fewestColours_22) (i := 2) (hi := rfl) (hn := by decide) (hf := rfl) (hl := rfl) ?_
    exact h
  · refine rn_aload_n (i := 0) (x := 42) dX5_fewestColours_8 rfl (by simp) ?_
    refine rn_getr (t := 43) dX5_fewestColours_9 rfl gf_X5_9 rfl rfl ?_
    refine rn_iload_n (i := 2) (x := x2) dX5_fewestColours_12 rfl (by simp) ?_
    refine rn_iconst (v := -1) dX5_fewestColours_13 rfl ?_
    obtain ⟨hi, h⟩ := h
    have h := h _ rfl
    refine rn_iastore dX5_fewestColours_14 rfl hi ?_
    generalize wi M 43 (nx x2) ((-1)) = M1 at h ⊢
    refine rn_iinc (x := x2) (v := x2 + 1) (lv' := [(0, .ref 42), (1, .ref o), (2, .int (x2 + 1))]) dX5_fewestColours_15 (by simp) rfl (by decide) rfl rfl ?_
    refine rn_goto (tgt := 2) dX5_fewestColours_18 (by decide) ?_
    exact h
set_option maxRecDepth 20000 in
theorem sg_X5_fewestColours_23 {d : Nat} {o : Nat} {x2 : Int32} {M : Mem} {K : (Int32 → Mem → Prop)} (ho : kd o = (0, 2)) (h : (if 8 ≤ x2 then K 8 M else (CI d μX5_colourFrom [.ref 42, .ref o, .int 0, .int x2] M (fun r2 M1 => (if r2 = 0 then RI (d + 1) μX5_fewestColours 23 [(0, .ref 42), (1, .ref o), (2, .int (x2 + 1))] [] M1 K else K x2 M1))))) : RI (d + 1) μX5_fewestColours 23 [(0, .ref 42), (1, .ref o), (2, .int x2)] [] M K := by
  show Rn (d + 1) μX5_fewestColours 23 [(0, .ref 42), (1, .ref o), (2, .int x2)] [] M _
  refine rn_iload_n (i := 2) (x := x2) dX5_fewestColours_23 rfl (by simp) ?_
  refine rn_bipush (v := 8) dX5_fewestColours_24 rfl ?_
  refine rn_icmp_ge (tgt := 47) dX5_fewestColours_26 (by decide) (ite_go h (fun hc h => ?_) (fun hc h => ?_))
  · refine rn_bipush (v := 8) dX5_fewestColours_47 rfl ?_
    exact rn_iret dX5_fewestColours_49 rfl ⟨_, rfl, h⟩
  · refine rn_aload_n (i := 0) (x := 42) dX5_fewestColours_29 rfl (by simp) ?_
    refine rn_aload_n (i := 1) (x := o) dX5_fewestColours_30 rfl (by simp) ?_
    refine rn_iconst (v := 0) dX5_fewestColours_31 rfl ?_
    refine rn_iload_n (i := 2) (x := x2) dX5_fewestColours_32 rfl (by simp) ?_
    refine rn_callVi (as := [.ref o, .int 0, .int x2]) (st := []) dX5_fewestColours_33 mf_X5_colourFrom lk_X5_47 im_X5_colourFrom rfl rfl rfl rfl (Nat.le_of_ble_eq_true rfl) (Nat.le_of_ble_eq_true rfl) rfl (RI.mono h (fun r2 M1 h => ?_))
    refine rn_if_eq (tgt := 41) dX5_fewestColours_36 (by decide) (ite_go h (fun hc h => ?_) (fun hc h => ?_))
    · refine rn_iinc (x := x2) (v := x2 + 1) (lv' := [(0, .ref 42), (1, .ref o), (2, .int (x2 + 1))]) dX5_fewestColours_41 (by simp) rfl (by decide) rfl rfl ?_
      refine rn_goto (tgt := 23) dX5_fewestColours_44 (by decide) ?_
      exact h
    · refine rn_iload_n (i := 2) (x := x2) dX5_fewestColours_39 rfl (by simp) ?_
      exact rn_iret dX5_fewestColours_40 rfl ⟨_, rfl, h⟩
theorem dX5_colourFrom_0 : decode μX5_colourFrom.2.1 0 = .ok (.iload_n 2, 1) := by decide +kernel
theorem dX5_colourFrom_1 : decode μX5_colourFrom.2.1 1 = .ok (.aload_n 1, 1) := by decide +kernel
theorem dX5_colourFrom_2 : decode μX5_colourFrom.2.1 2 = .ok (.getfield 26, 3) := by decide +kernel
theorem dX5_colourFrom_5 : decode μX5_colourFrom.2.1 5 = .ok (.if_icmp .ge 9, 3) := by decide +kernel
theorem dX5_colourFrom_8 : decode μX5_colourFrom.2.1 8 = .ok (.iload_n 2, 1) := by decide +kernel
theorem dX5_colourFrom_9 : decode μX5_colourFrom.2.1 9 = .ok (.bipush 8, 2) := by decide +kernel
theorem dX5_colourFrom_11 : decode μX5_colourFrom.2.1 11 = .ok (.if_icmp .lt 5, 3) := by decide +kernel
theorem dX5_colourFrom_14 : decode μX5_colourFrom.2.1 14 = .ok (.iconst 1, 1) := by decide +kernel
theorem dX5_colourFrom_15 : decode μX5_colourFrom.2.1 15 = .ok (.ireturn, 1) := by decide +kernel
theorem dX5_colourFrom_16 : decode μX5_colourFrom.2.1 16 = .ok (.aload_n 1, 1) := by decide +kernel
theorem dX5_colourFrom_17 : decode μX5_colourFrom.2.1 17 = .ok (.iload_n 2, 1) := by decide +kernel
theorem dX5_colourFrom_18 : decode μX5_colourFrom.2.1 18 = .ok (.invokevirtual 51, 3) := by decide +kernel
theorem dX5_colourFrom_21 : decode μX5_colourFrom.2.1 21 = .ok (.ifCond .ne 13, 3) := by decide +kernel
theorem dX5_colourFrom_24 : decode μX5_colourFrom.2.1 24 = .ok (.aload_n 0, 1) := by decide +kernel
theorem dX5_colourFrom_25 : decode μX5_colourFrom.2.1 25 = .ok (.aload_n 1, 1) := by decide +kernel
theorem dX5_colourFrom_26 : decode μX5_colourFrom.2.1 26 = .ok (.iload_n 2, 1) := by decide +kernel
theorem dX5_colourFrom_27 : decode μX5_colourFrom.2.1 27 = .ok (.iconst 1, 1) := by decide +kernel
theorem dX5_colourFrom_28 : decode μX5_colourFrom.2.1 28 = .ok (.iadd, 1) := by decide +kernel
theorem dX5_colourFrom_29 : decode μX5_colourFrom.2.1 29 = .ok (.iload_n 3, 1) := by decide +kernel
theorem dX5_colourFrom_30 : decode μX5_colourFrom.2.1 30 = .ok (.invokevirtual 47, 3) := by decide +kernel
theorem dX5_colourFrom_33 : decode μX5_colourFrom.2.1 33 = .ok (.ireturn, 1) := by decide +kernel
theorem dX5_colourFrom_34 : decode μX5_colourFrom.2.1 34 = .ok (.iconst 0, 1) := by decide +kernel
theorem dX5_colourFrom_35 : decode μX5_colourFrom.2.1 35 = .ok (.istore 4, 2) := by decide +kernel
theorem dX5_colourFrom_37 : decode μX5_colourFrom.2.1 37 = .ok (.iload 4, 2) := by decide +kernel
theorem dX5_colourFrom_39 : decode μX5_colourFrom.2.1 39 = .ok (.iload_n 3, 1) := by decide +kernel
theorem dX5_colourFrom_40 : decode μX5_colourFrom.2.1 40 = .ok (.if_icmp .ge 42, 3) := by decide +kernel
theorem dX5_colourFrom_43 : decode μX5_colourFrom.2.1 43 = .ok (.aload_n 0, 1) := by decide +kernel
theorem dX5_colourFrom_44 : decode μX5_colourFrom.2.1 44 = .ok (.aload_n 1, 1) := by decide +kernel
theorem dX5_colourFrom_45 : decode μX5_colourFrom.2.1 45 = .ok (.iload_n 2, 1) := by decide +kernel
theorem dX5_colourFrom_46 : decode μX5_colourFrom.2.1 46 = .ok (.iload 4, 2) := by decide +kernel
theorem dX5_colourFrom_48 : decode μX5_colourFrom.2.1 48 = .ok (.invokevirtual 55, 3) := by decide +kernel
theorem dX5_colourFrom_51 : decode μX5_colourFrom.2.1 51 = .ok (.ifCond .eq 25, 3) := by decide +kernel
theorem dX5_colourFrom_54 : decode μX5_colourFrom.2.1 54 = .ok (.aload_n 0, 1) := by decide +kernel
theorem dX5_colourFrom_55 : decode μX5_colourFrom.2.1 55 = .ok (.getfield 9, 3) := by decide +kernel
theorem dX5_colourFrom_58 : decode μX5_colourFrom.2.1 58 = .ok (.iload_n 2, 1) := by decide +kernel
theorem dX5_colourFrom_59 : decode μX5_colourFrom.2.1 59 = .ok (.iload 4, 2) := by decide +kernel
theorem dX5_colourFrom_61 : decode μX5_colourFrom.2.1 61 = .ok (.iastore, 1) := by decide +kernel
theorem dX5_colourFrom_62 : decode μX5_colourFrom.2.1 62 = .ok (.aload_n 0, 1) := by decide +kernel
theorem dX5_colourFrom_63 : decode μX5_colourFrom.2.1 63 = .ok (.aload_n 1, 1) := by decide +kernel
theorem dX5_colourFrom_64 : decode μX5_colourFrom.2.1 64 = .ok (.iload_n 2, 1) := by decide +kernel
theorem dX5_colourFrom_65 : decode μX5_colourFrom.2.1 65 = .ok (.iconst 1, 1) := by decide +kernel
theorem dX5_colourFrom_66 : decode μX5_colourFrom.2.1 66 = .ok (.iadd, 1) := by decide +kernel
theorem dX5_colourFrom_67 : decode μX5_colourFrom.2.1 67 = .ok (.iload_n 3, 1) := by decide +kernel
theorem dX5_colourFrom_68 : decode μX5_colourFrom.2.1 68 = .ok (.invokevirtual 47, 3) := by decide +kernel
theorem dX5_colourFrom_71 : decode μX5_colourFrom.2.1 71 = .ok (.ifCond .eq 5, 3) := by decide +kernel
theorem dX5_colourFrom_74 : decode μX5_colourFrom.2.1 74 = .ok (.iconst 1, 1) := by decide +kernel
theorem dX5_colourFrom_75 : decode μX5_colourFrom.2.1 75 = .ok (.ireturn, 1) := by decide +kernel
theorem dX5_colourFrom_76 : decode μX5_colourFrom.2.1 76 = .ok (.iinc 4 1, 3) := by decide +kernel
theorem dX5_colourFrom_79 : decode μX5_colourFrom.2.1 79 = .ok (.goto (-42), 3) := by decide +kernel
theorem dX5_colourFrom_82 : decode μX5_colourFrom.2.1 82 = .ok (.aload_n 0, 1) := by decide +kernel
theorem dX5_colourFrom_83 : decode μX5_colourFrom.2.1 83 = .ok (.getfield 9, 3) := by decide +kernel
theorem dX5_colourFrom_86 : decode μX5_colourFrom.2.1 86 = .ok (.iload_n 2, 1) := by decide +kernel
theorem dX5_colourFrom_87 : decode μX5_colourFrom.2.1 87 = .ok (.iconst (-1), 1) := by decide +kernel
theorem dX5_colourFrom_88 : decode μX5_colourFrom.2.1 88 = .ok (.iastore, 1) := by decide +kernel
theorem dX5_colourFrom_89 : decode μX5_colourFrom.2.1 89 = .ok (.iconst 0, 1) := by decide +kernel
theorem dX5_colourFrom_90 : decode μX5_colourFrom.2.1 90 = .ok (.ireturn, 1) := by decide +kernel
set_option maxRecDepth 20000 in
theorem sg_X5_colourFrom_0 {d : Nat} {o : Nat} {x2 : Int32} {x3 : Int32} {M : Mem} {K : (Int32 → Mem → Prop)} (ho : kd o = (0, 2)) (h : (if ri M o 0 ≤ x2 then K 1 M else (if x2 < 8 then (CI d μX2_isThere [.ref o, .int x2] M (fun r2 M1 => (if r2 = 0 then (CI d μX5_colourFrom [.ref 42, .ref o, .int (x2 + 1), .int x3] M1 (fun r4 M3 => ((r4 = 0 ∨ r4 = 1) ∧ K r4 M3))) else RI (d + 1) μX5_colourFrom 37 [(0, .ref 42), (1, .ref o), (2, .int x2), (3, .int x3), (4, .int 0)] [] M1 K))) else K 1 M))) : CI (d + 1) μX5_colourFrom [.ref 42, .ref o, .int x2, .int x3] M K := by
  show Rn (d + 1) μX5_colourFrom 0 [(0, .ref 42), (1, .ref o), (2, .int x2), (3, .int x3)] [] M _
  refine rn_iload_n (i := 2) (x := x2) dX5_colourFrom_0 rfl (by simp) ?_
  refine rn_aload_n (i := 1) (x := o) dX5_colourFrom_1 rfl (by simp) ?_
  refine rn_geti dX5_colourFrom_2 ho gf_X5_26 (by decide) ?_
  refine rn_icmp_ge (tgt := 14) dX5_colourFrom_5 (by decide) (ite_go h (fun hc h => ?_) (fun hc h => ?_))
  · refine rn_iconst (v := 1) dX5_colourFrom_14 rfl ?_
    exact rn_zret dX5_colourFrom_15 rfl (by decide) ⟨_, rfl, h⟩
  · refine rn_iload_n (i := 2) (x := x2) dX5_colourFrom_8 rfl (by simp) ?_
    refine rn_bipush (v := 8) dX5_colourFrom_9 rfl ?_
    refine rn_icmp_lt (tgt := 16) dX5_colourFrom_11 (by decide) (ite_go h (fun hc h => ?_) (fun hc h => ?_))
    · refine rn_aload_n (i := 1) (x := o) dX5_colourFrom_16 rfl (by simp) ?_
      refine rn_iload_n (i := 2) (x := x2) dX5_colourFrom_17 rfl (by simp) ?_
      refine rn_callVi (as := [.int x2]) (st := []) dX5_colourFrom_18 mf_X2_isThere lk_X5_51 im_X2_isThere ho rfl rfl rfl (Nat.le_of_ble_eq_true rfl) (Nat.le_of_ble_eq_true rfl) rfl (RI.mono h (fun r2 M1 h => ?_))
      refine rn_if_ne (tgt := 34) dX5_colourFrom_21 (by decide) (ite_go h (fun hc h => ?_) (fun hc h => ?_))
      · refine rn_aload_n (i := 0) (x := 42) dX5_colourFrom_24 rfl (by simp) ?_
        refine rn_aload_n (i := 1) (x := o) dX5_colourFrom_25 rfl (by simp) ?_
        refine rn_iload_n (i := 2) (x := x2) dX5_colourFrom_26 rfl (by simp) ?_
        refine rn_iconst (v := 1) dX5_colourFrom_27 rfl ?_
        refine rn_iadd dX5_colourFrom_28 ?_
        refine rn_iload_n (i := 3) (x := x3) dX5_colourFrom_29 rfl (by simp) ?_
        refine rn_callVi (as := [.ref o, .int (x2 + 1), .int x3]) (st := []) dX5_colourFrom_30 mf_X5_colourFrom lk_X5_47 im_X5_colourFrom rfl rfl rfl rfl (Nat.le_of_ble_eq_true rfl) (Nat.le_of_ble_eq_true rfl) rfl (RI.mono h (fun r4 M3 h => ?_))
        exact rn_zret dX5_colourFrom_33 rfl h.1 ⟨_, rfl, h.2⟩
      · refine rn_iconst (v := 0) dX5_colourFrom_34 rfl ?_
        refine rn_istore (lv' := [(0, .ref 42), (1, .ref o), (2, .int x2), (3, .int x3), (4, .int 0)]) (hd := dX5_colourFrom_35) (hn := by decide) (hf := rfl) (hl := rfl) ?_
        exact h
    · refine rn_iconst (v := 1) dX5_colourFrom_14 rfl ?_
      exact rn_zret dX5_colourFrom_15 rfl (by decide) ⟨_, rfl, h⟩
set_option maxRecDepth 20000 in
theorem sg_X5_colourFrom_37 {d : Nat} {o : Nat} {x2 : Int32} {x3 : Int32} {x4 : Int32} {M : Mem} {K : (Int32 → Mem → Prop)} (ho : kd o = (0, 2)) (h : (if x3 ≤ x4 then (vp_in x2 8 ∧ ∀ M1, M1 = wi M 43 (nx x2) ((-1)) → K 0 M1) else (CI d μX5_isFree [.ref 42, .ref o, .int x2, .int x4] M (fun r3 M2 => (if r3 = 0 then RI (d + 1) μX5_colourFrom 37 [(0, .ref 42), (1, .ref o), (2, .int x2), (3, .int x3), (4, .int (x4 + 1))] [] M2 K else (vp_in x2 8 ∧ ∀ M4, M4 = wi M2 43 (nx x2) x4 → (CI d μX5_colourFrom [.ref 42, .ref o, .int (x2 + 1), .int x3] M4 (fun r6 M5 => (if r6 = 0 then RI (d + 1) μX5_colourFrom 37 [(0, .ref 42), (1, .ref o), (2, .int x2), (3, .int x3), (4, .int (x4 + 1))] [] M5 K else K 1 M5))))))))) : RI (d + 1) μX5_colourFrom 37 [(0, .ref 42), (1, .ref o), (2, .int x2), (3, .int x3), (4, .int x4)] [] M K := by
  show Rn (d + 1) μX5_colourFrom 37 [(0, .ref 42), (1, .ref o), (2, .int x2), (3, .int x3), (4, .int x4)] [] M _
  refine rn_iload (x := x4) dX5_colourFrom_37 (by simp) ?_
  refine rn_iload_n (i := 3) (x := x3) dX5_colourFrom_39 rfl (by simp) ?_
  refine rn_icmp_ge (tgt := 82) dX5_colourFrom_40 (by decide) (ite_go h (fun hc h => ?_) (fun hc h => ?_))
  · refine rn_aload_n (i := 0) (x := 42) dX5_colourFrom_82 rfl (by simp) ?_
    refine rn_getr (t := 43) dX5_colourFrom_83 rfl gf_X5_9 rfl rfl ?_
    refine rn_iload_n (i := 2) (x := x2) dX5_colourFrom_86 rfl (by simp) ?_
    refine rn_iconst (v := -1) dX5_colourFrom_87 rfl ?_
    obtain ⟨hi, h⟩ := h
    have h := h _ rfl
    refine rn_iastore dX5_colourFrom_88 rfl hi ?_
    generalize wi M 43 (nx x2) ((-1)) = M1 at h ⊢
    refine rn_iconst (v := 0) dX5_colourFrom_89 rfl ?_
    exact rn_zret dX5_colourFrom_90 rfl (by decide) ⟨_, rfl, h⟩
  · refine rn_aload_n (i := 0) (x := 42) dX5_colourFrom_43 rfl (by simp) ?_
    refine rn_aload_n (i := 1) (x := o) dX5_colourFrom_44 rfl (by simp) ?_
    refine rn_iload_n (i := 2) (x := x2) dX5_colourFrom_45 rfl (by simp) ?_
    refine rn_iload (x := x4) dX5_colourFrom_46 (by simp) ?_
    refine rn_callVi (as := [.ref o, .int x2, .int x4]) (st := []) dX5_colourFrom_48 mf_X5_isFree lk_X5_55 im_X5_isFree rfl rfl rfl rfl (Nat.le_of_ble_eq_true rfl) (Nat.le_of_ble_eq_true rfl) rfl (RI.mono h (fun r3 M2 h => ?_))
    refine rn_if_eq (tgt := 76) dX5_colourFrom_51 (by decide) (ite_go h (fun hc h => ?_) (fun hc h => ?_))
    · refine rn_iinc (x := x4) (v := x4 + 1) (lv' := [(0, .ref 42), (1, .ref o), (2, .int x2), (3, .int x3), (4, .int (x4 + 1))]) dX5_colourFrom_76 (by simp) rfl (by decide) rfl rfl ?_
      refine rn_goto (tgt := 37) dX5_colourFrom_79 (by decide) ?_
      exact h
    · refine rn_aload_n (i := 0) (x := 42) dX5_colourFrom_54 rfl (by simp) ?_
      refine rn_getr (t := 43) dX5_colourFrom_55 rfl gf_X5_9 rfl rfl ?_
      refine rn_iload_n (i := 2) (x := x2) dX5_colourFrom_58 rfl (by simp) ?_
      refine rn_iload (x := x4) dX5_colourFrom_59 (by simp) ?_
      obtain ⟨hi, h⟩ := h
      have h := h _ rfl
      refine rn_iastore dX5_colourFrom_61 rfl hi ?_
      generalize wi M2 43 (nx x2) x4 = M4 at h ⊢
      refine rn_aload_n (i := 0) (x := 42) dX5_colourFrom_62 rfl (by simp) ?_
      refine rn_aload_n (i := 1) (x := o) dX5_colourFrom_63 rfl (by simp) ?_
      refine rn_iload_n (i := 2) (x := x2) dX5_colourFrom_64 rfl (by simp) ?_
      refine rn_iconst (v := 1) dX5_colourFrom_65 rfl ?_
      refine rn_iadd dX5_colourFrom_66 ?_
      refine rn_iload_n (i := 3) (x := x3) dX5_colourFrom_67 rfl (by simp) ?_
      refine rn_callVi (as := [.ref o, .int (x2 + 1), .int x3]) (st := []) dX5_colourFrom_68 mf_X5_colourFrom lk_X5_47 im_X5_colourFrom rfl rfl rfl rfl (Nat.le_of_ble_eq_true rfl) (Nat.le_of_ble_eq_true rfl) rfl (RI.mono h (fun r6 M5 h => ?_))
      refine rn_if_eq (tgt := 76) dX5_colourFrom_71 (by decide) (ite_go h (fun hc h => ?_) (fun hc h => ?_))
      · refine rn_iinc (x := x4) (v := x4 + 1) (lv' := [(0, .ref 42), (1, .ref o), (2, .int x2), (3, .int x3), (4, .int (x4 + 1))]) dX5_colourFrom_76 (by simp) rfl (by decide) rfl rfl ?_
        refine rn_goto (tgt := 37) dX5_colourFrom_79 (by decide) ?_
        exact h
      · refine rn_iconst (v := 1) dX5_colourFrom_74 rfl ?_
        exact rn_zret dX5_colourFrom_75 rfl (by decide) ⟨_, rfl, h⟩
theorem dX5_isFree_0 : decode μX5_isFree.2.1 0 = .ok (.iconst 0, 1) := by decide +kernel
theorem dX5_isFree_1 : decode μX5_isFree.2.1 1 = .ok (.istore 4, 2) := by decide +kernel
theorem dX5_isFree_3 : decode μX5_isFree.2.1 3 = .ok (.iload 4, 2) := by decide +kernel
theorem dX5_isFree_5 : decode μX5_isFree.2.1 5 = .ok (.iload_n 2, 1) := by decide +kernel
theorem dX5_isFree_6 : decode μX5_isFree.2.1 6 = .ok (.if_icmp .ge 32, 3) := by decide +kernel
theorem dX5_isFree_9 : decode μX5_isFree.2.1 9 = .ok (.aload_n 1, 1) := by decide +kernel
theorem dX5_isFree_10 : decode μX5_isFree.2.1 10 = .ok (.iload_n 2, 1) := by decide +kernel
theorem dX5_isFree_11 : decode μX5_isFree.2.1 11 = .ok (.iload 4, 2) := by decide +kernel
theorem dX5_isFree_13 : decode μX5_isFree.2.1 13 = .ok (.invokevirtual 58, 3) := by decide +kernel
theorem dX5_isFree_16 : decode μX5_isFree.2.1 16 = .ok (.ifCond .eq 16, 3) := by decide +kernel
theorem dX5_isFree_19 : decode μX5_isFree.2.1 19 = .ok (.aload_n 0, 1) := by decide +kernel
theorem dX5_isFree_20 : decode μX5_isFree.2.1 20 = .ok (.getfield 9, 3) := by decide +kernel
theorem dX5_isFree_23 : decode μX5_isFree.2.1 23 = .ok (.iload 4, 2) := by decide +kernel
theorem dX5_isFree_25 : decode μX5_isFree.2.1 25 = .ok (.iaload, 1) := by decide +kernel
theorem dX5_isFree_26 : decode μX5_isFree.2.1 26 = .ok (.iload_n 3, 1) := by decide +kernel
theorem dX5_isFree_27 : decode μX5_isFree.2.1 27 = .ok (.if_icmp .ne 5, 3) := by decide +kernel
theorem dX5_isFree_30 : decode μX5_isFree.2.1 30 = .ok (.iconst 0, 1) := by decide +kernel
theorem dX5_isFree_31 : decode μX5_isFree.2.1 31 = .ok (.ireturn, 1) := by decide +kernel
theorem dX5_isFree_32 : decode μX5_isFree.2.1 32 = .ok (.iinc 4 1, 3) := by decide +kernel
theorem dX5_isFree_35 : decode μX5_isFree.2.1 35 = .ok (.goto (-32), 3) := by decide +kernel
theorem dX5_isFree_38 : decode μX5_isFree.2.1 38 = .ok (.iconst 1, 1) := by decide +kernel
theorem dX5_isFree_39 : decode μX5_isFree.2.1 39 = .ok (.ireturn, 1) := by decide +kernel
set_option maxRecDepth 20000 in
theorem sg_X5_isFree_0 {d : Nat} {o : Nat} {x2 : Int32} {x3 : Int32} {M : Mem} {K : (Int32 → Mem → Prop)} (ho : kd o = (0, 2)) (h : RI (d + 1) μX5_isFree 3 [(0, .ref 42), (1, .ref o), (2, .int x2), (3, .int x3), (4, .int 0)] [] M K) : CI (d + 1) μX5_isFree [.ref 42, .ref o, .int x2, .int x3] M K := by
  show Rn (d + 1) μX5_isFree 0 [(0, .ref 42), (1, .ref o), (2, .int x2), (3, .int x3)] [] M _
  refine rn_iconst (v := 0) dX5_isFree_0 rfl ?_
  refine rn_istore (lv' := [(0, .ref 42), (1, .ref o), (2, .int x2), (3, .int x3), (4, .int 0)]) (hd := dX5_isFree_1) (hn := by decide) (hf := rfl) (hl := rfl) ?_
  exact h
set_option maxRecDepth 20000 in
theorem sg_X5_isFree_3 {d : Nat} {o : Nat} {x2 : Int32} {x3 : Int32} {x4 : Int32} {M : Mem} {K : (Int32 → Mem → Prop)} (ho : kd o = (0, 2)) (h : (if x2 ≤ x4 then K 1 M else (CI d μX2_meets [.ref o, .int x2, .int x4] M (fun r2 M1 => (if r2 = 0 then RI (d + 1) μX5_isFree 3 [(0, .ref 42), (1, .ref o), (2, .int x2), (3, .int x3), (4, .int (x4 + 1))] [] M1 K else (vp_in x4 8 ∧ (if ri M1 43 (nx x4) = x3 then K 0 M1 else RI (d + 1) μX5_isFree 3 [(0, .ref 42), (1, .ref o), (2, .int x2), (3, .int x3), (4, .int (x4 + 1))] [] M1 K))))))) : RI (d + 1) μX5_isFree 3 [(0, .ref 42), (1, .ref o), (2, .int x2), (3, .int x3), (4, .int x4)] [] M K := by
  show Rn (d + 1) μX5_isFree 3 [(0, .ref 42), (1, .ref o), (2, .int x2), (3, .int x3), (4, .int x4)] [] M _
  refine rn_iload (x := x4) dX5_isFree_3 (by simp) ?_
  refine rn_iload_n (i := 2) (x := x2) dX5_isFree_5 rfl (by simp) ?_
  refine rn_icmp_ge (tgt := 38) dX5_isFree_6 (by decide) (ite_go h (fun hc h => ?_) (fun hc h => ?_))
  · refine rn_iconst (v := 1) dX5_isFree_38 rfl ?_
    exact rn_zret dX5_isFree_39 rfl (by decide) ⟨_, rfl, h⟩
  · refine rn_aload_n (i := 1) (x := o) dX5_isFree_9 rfl (by simp) ?_
    refine rn_iload_n (i := 2) (x := x2) dX5_isFree_10 rfl (by simp) ?_
    refine rn_iload (x := x4) dX5_isFree_11 (by simp) ?_
    refine rn_callVi (as := [.int x2, .int x4]) (st := []) dX5_isFree_13 mf_X2_meets lk_X5_58 im_X2_meets ho rfl rfl rfl (Nat.le_of_ble_eq_true rfl) (Nat.le_of_ble_eq_true rfl) rfl (RI.mono h (fun r2 M1 h => ?_))
    refine rn_if_eq (tgt := 32) dX5_isFree_16 (by decide) (ite_go h (fun hc h => ?_) (fun hc h => ?_))
    · refine rn_iinc (x := x4) (v := x4 + 1) (lv' := [(0, .ref 42), (1, .ref o), (2, .int x2), (3, .int x3), (4, .int (x4 + 1))]) dX5_isFree_32 (by simp) rfl (by decide) rfl rfl ?_
      refine rn_goto (tgt := 3) dX5_isFree_35 (by decide) ?_
      exact h
    · refine rn_aload_n (i := 0) (x := 42) dX5_isFree_19 rfl (by simp) ?_
      refine rn_getr (t := 43) dX5_isFree_20 rfl gf_X5_9 rfl rfl ?_
      refine rn_iload (x := x4) dX5_isFree_23 (by simp) ?_
      obtain ⟨hi, h⟩ := h
      refine rn_iaload dX5_isFree_25 rfl hi ?_
      refine rn_iload_n (i := 3) (x := x3) dX5_isFree_26 rfl (by simp) ?_
      refine rn_icmp_ne (tgt := 32) dX5_isFree_27 (by decide) (ite_go h (fun hc h => ?_) (fun hc h => ?_))
      · refine rn_iconst (v := 0) dX5_isFree_30 rfl ?_
        exact rn_zret dX5_isFree_31 rfl (by decide) ⟨_, rfl, h⟩
      · refine rn_iinc (x := x4) (v := x4 + 1) (lv' := [(0, .ref 42), (1, .ref o), (2, .int x2), (3, .int x3), (4, .int (x4 + 1))]) dX5_isFree_32 (by simp) rfl (by decide) rfl rfl ?_
        refine rn_goto (tgt := 3) dX5_isFree_35 (by decide) ?_
        exact h
theorem dX5_mostPairs_0 : decode μX5_mostPairs.2.1 0 = .ok (.iconst 0, 1) := by decide +kernel
theorem dX5_mostPairs_1 : decode μX5_mostPairs.2.1 1 = .ok (.istore_n 2, 1) := by decide +kernel
theorem dX5_mostPairs_2 : decode μX5_mostPairs.2.1 2 = .ok (.iload_n 2, 1) := by decide +kernel
theorem dX5_mostPairs_3 : decode μX5_mostPairs.2.1 3 = .ok (.bipush 8, 2) := by decide +kernel
theorem dX5_mostPairs_5 : decode μX5_mostPairs.2.1 5 = .ok (.if_icmp .ge 16, 3) := by decide +kernel
theorem dX5_mostPairs_8 : decode μX5_mostPairs.2.1 8 = .ok (.aload_n 0, 1) := by decide +kernel
theorem dX5_mostPairs_9 : decode μX5_mostPairs.2.1 9 = .ok (.getfield 15, 3) := by decide +kernel
theorem dX5_mostPairs_12 : decode μX5_mostPairs.2.1 12 = .ok (.iload_n 2, 1) := by decide +kernel
theorem dX5_mostPairs_13 : decode μX5_mostPairs.2.1 13 = .ok (.iconst (-1), 1) := by decide +kernel
theorem dX5_mostPairs_14 : decode μX5_mostPairs.2.1 14 = .ok (.iastore, 1) := by decide +kernel
theorem dX5_mostPairs_15 : decode μX5_mostPairs.2.1 15 = .ok (.iinc 2 1, 3) := by decide +kernel
theorem dX5_mostPairs_18 : decode μX5_mostPairs.2.1 18 = .ok (.goto (-16), 3) := by decide +kernel
theorem dX5_mostPairs_21 : decode μX5_mostPairs.2.1 21 = .ok (.aload_n 0, 1) := by decide +kernel
theorem dX5_mostPairs_22 : decode μX5_mostPairs.2.1 22 = .ok (.iconst (-1), 1) := by decide +kernel
theorem dX5_mostPairs_23 : decode μX5_mostPairs.2.1 23 = .ok (.putfield 18, 3) := by decide +kernel
theorem dX5_mostPairs_26 : decode μX5_mostPairs.2.1 26 = .ok (.aload_n 0, 1) := by decide +kernel
theorem dX5_mostPairs_27 : decode μX5_mostPairs.2.1 27 = .ok (.aload_n 1, 1) := by decide +kernel
theorem dX5_mostPairs_28 : decode μX5_mostPairs.2.1 28 = .ok (.iconst 0, 1) := by decide +kernel
theorem dX5_mostPairs_29 : decode μX5_mostPairs.2.1 29 = .ok (.iconst 0, 1) := by decide +kernel
theorem dX5_mostPairs_30 : decode μX5_mostPairs.2.1 30 = .ok (.invokevirtual 62, 3) := by decide +kernel
theorem dX5_mostPairs_33 : decode μX5_mostPairs.2.1 33 = .ok (.aload_n 0, 1) := by decide +kernel
theorem dX5_mostPairs_34 : decode μX5_mostPairs.2.1 34 = .ok (.getfield 18, 3) := by decide +kernel
theorem dX5_mostPairs_37 : decode μX5_mostPairs.2.1 37 = .ok (.ireturn, 1) := by decide +kernel
set_option maxRecDepth 20000 in
theorem sg_X5_mostPairs_0 {d : Nat} {o : Nat} {M : Mem} {K : (Int32 → Mem → Prop)} (ho : kd o = (0, 2)) (h : RI (d + 1) μX5_mostPairs 2 [(0, .ref 42), (1, .ref o), (2, .int 0)] [] M K) : CI (d + 1) μX5_mostPairs [.ref 42, .ref o] M K := by
  show Rn (d + 1) μX5_mostPairs 0 [(0, .ref 42), (1, .ref o)] [] M _
  refine rn_iconst (v := 0) dX5_mostPairs_0 rfl ?_
  refine rn_istore_n (lv' := [(0, .ref 42), (1, .ref o), (2, .int 0)]) (hd := dX5_mostPairs_1) (i := 2) (hi := rfl) (hn := by decide) (hf := rfl) (hl := rfl) ?_
  exact h
set_option maxRecDepth 20000 in
theorem sg_X5_mostPairs_2 {d : Nat} {o : Nat} {x2 : Int32} {M : Mem} {K : (Int32 → Mem → Prop)} (ho : kd o = (0, 2)) (h : (if 8 ≤ x2 then (∀ M1, M1 = wi M 42 2 ((-1)) → (CV d μX5_pairFrom [.ref 42, .ref o, .int 0, .int 0] M1 (fun M2 => K (ri M2 42 2) M2))) else (vp_in x2 8 ∧ ∀ M3, M3 = wi M 44 (nx x2) ((-1)) → RI (d + 1) μX5_mostPairs 2 [(0, .ref 42), (1, .ref o), (2, .int (x2 + 1))] [] M3 K))) : RI (d + 1) μX5_mostPairs 2 [(0, .ref 42), (1, .ref o), (2, .int x2)] [] M K := by
  show Rn (d + 1) μX5_mostPairs 2 [(0, .ref 42), (1, .ref o), (2, .int x2)] [] M _
  refine rn_iload_n (i := 2) (x := x2) dX5_mostPairs_2 rfl (by simp) ?_
  refine rn_bipush (v := 8) dX5_mostPairs_3 rfl ?_
  refine rn_icmp_ge (tgt := 21) dX5_mostPairs_5 (by decide) (ite_go h (fun hc h => ?_) (fun hc h => ?_))
  · refine rn_aload_n (i := 0) (x := 42) dX5_mostPairs_21 rfl (by simp) ?_
    refine rn_iconst (v := -1) dX5_mostPairs_22 rfl ?_
    have h := h _ rfl
    refine rn_puti dX5_mostPairs_23 rfl pf_X5_18 (by decide) rfl rfl ?_
    generalize wi M 42 2 ((-1)) = M1 at h ⊢
    refine rn_aload_n (i := 0) (x := 42) dX5_mostPairs_26 rfl (by simp) ?_
    refine rn_aload_n (i := 1) (x := o) dX5_mostPairs_27 rfl (by simp) ?_
    refine rn_iconst (v := 0) dX5_mostPairs_28 rfl ?_
    refine rn_iconst (v := 0) dX5_mostPairs_29 rfl ?_
    refine rn_callVv (as := [.ref o, .int 0, .int 0]) (st := []) dX5_mostPairs_30 mf_X5_pairFrom lk_X5_62 im_X5_pairFrom rfl rfl rfl rfl (Nat.le_of_ble_eq_true rfl) (Nat.le_of_ble_eq_true rfl) rfl (RV.mono h (fun M2 h => ?_))
    refine rn_aload_n (i := 0) (x := 42) dX5_mostPairs_33 rfl (by simp) ?_
    refine rn_geti dX5_mostPairs_34 rfl gf_X5_18 (by decide) ?_
    exact rn_iret dX5_mostPairs_37 rfl ⟨_, rfl, h⟩
  · refine rn_aload_n (i := 0) (x := 42) dX5_mostPairs_8 rfl (by simp) ?_
    refine rn_getr (t := 44) dX5_mostPairs_9 rfl gf_X5_15 rfl rfl ?_
    refine rn_iload_n (i := 2) (x := x2) dX5_mostPairs_12 rfl (by simp) ?_
    refine rn_iconst (v := -1) dX5_mostPairs_13 rfl ?_
    obtain ⟨hi, h⟩ := h
    have h := h _ rfl
    refine rn_iastore dX5_mostPairs_14 rfl hi ?_
    generalize wi M 44 (nx x2) ((-1)) = M3 at h ⊢
    refine rn_iinc (x := x2) (v := x2 + 1) (lv' := [(0, .ref 42), (1, .ref o), (2, .int (x2 + 1))]) dX5_mostPairs_15 (by simp) rfl (by decide) rfl rfl ?_
    refine rn_goto (tgt := 2) dX5_mostPairs_18 (by decide) ?_
    exact h
theorem dX5_pairFrom_0 : decode μX5_pairFrom.2.1 0 = .ok (.iload_n 2, 1) := by decide +kernel
theorem dX5_pairFrom_1 : decode μX5_pairFrom.2.1 1 = .ok (.aload_n 1, 1) := by decide +kernel
theorem dX5_pairFrom_2 : decode μX5_pairFrom.2.1 2 = .ok (.getfield 26, 3) := by decide +kernel
theorem dX5_pairFrom_5 : decode μX5_pairFrom.2.1 5 = .ok (.if_icmp .ge 9, 3) := by decide +kernel
theorem dX5_pairFrom_8 : decode μX5_pairFrom.2.1 8 = .ok (.iload_n 2, 1) := by decide +kernel
theorem dX5_pairFrom_9 : decode μX5_pairFrom.2.1 9 = .ok (.bipush 8, 2) := by decide +kernel
theorem dX5_pairFrom_11 : decode μX5_pairFrom.2.1 11 = .ok (.if_icmp .lt 47, 3) := by decide +kernel
theorem dX5_pairFrom_14 : decode μX5_pairFrom.2.1 14 = .ok (.iload_n 3, 1) := by decide +kernel
theorem dX5_pairFrom_15 : decode μX5_pairFrom.2.1 15 = .ok (.aload_n 0, 1) := by decide +kernel
theorem dX5_pairFrom_16 : decode μX5_pairFrom.2.1 16 = .ok (.getfield 18, 3) := by decide +kernel
theorem dX5_pairFrom_19 : decode μX5_pairFrom.2.1 19 = .ok (.if_icmp .le 38, 3) := by decide +kernel
theorem dX5_pairFrom_22 : decode μX5_pairFrom.2.1 22 = .ok (.aload_n 0, 1) := by decide +kernel
theorem dX5_pairFrom_23 : decode μX5_pairFrom.2.1 23 = .ok (.iload_n 3, 1) := by decide +kernel
theorem dX5_pairFrom_24 : decode μX5_pairFrom.2.1 24 = .ok (.putfield 18, 3) := by decide +kernel
theorem dX5_pairFrom_27 : decode μX5_pairFrom.2.1 27 = .ok (.iconst 0, 1) := by decide +kernel
theorem dX5_pairFrom_28 : decode μX5_pairFrom.2.1 28 = .ok (.istore 4, 2) := by decide +kernel
theorem dX5_pairFrom_30 : decode μX5_pairFrom.2.1 30 = .ok (.iload 4, 2) := by decide +kernel
theorem dX5_pairFrom_32 : decode μX5_pairFrom.2.1 32 = .ok (.bipush 8, 2) := by decide +kernel
theorem dX5_pairFrom_34 : decode μX5_pairFrom.2.1 34 = .ok (.if_icmp .ge 23, 3) := by decide +kernel
theorem dX5_pairFrom_37 : decode μX5_pairFrom.2.1 37 = .ok (.aload_n 0, 1) := by decide +kernel
theorem dX5_pairFrom_38 : decode μX5_pairFrom.2.1 38 = .ok (.getfield 9, 3) := by decide +kernel
theorem dX5_pairFrom_41 : decode μX5_pairFrom.2.1 41 = .ok (.iload 4, 2) := by decide +kernel
theorem dX5_pairFrom_43 : decode μX5_pairFrom.2.1 43 = .ok (.aload_n 0, 1) := by decide +kernel
theorem dX5_pairFrom_44 : decode μX5_pairFrom.2.1 44 = .ok (.getfield 15, 3) := by decide +kernel
theorem dX5_pairFrom_47 : decode μX5_pairFrom.2.1 47 = .ok (.iload 4, 2) := by decide +kernel
theorem dX5_pairFrom_49 : decode μX5_pairFrom.2.1 49 = .ok (.iaload, 1) := by decide +kernel
theorem dX5_pairFrom_50 : decode μX5_pairFrom.2.1 50 = .ok (.iastore, 1) := by decide +kernel
theorem dX5_pairFrom_51 : decode μX5_pairFrom.2.1 51 = .ok (.iinc 4 1, 3) := by decide +kernel
theorem dX5_pairFrom_54 : decode μX5_pairFrom.2.1 54 = .ok (.goto (-24), 3) := by decide +kernel
theorem dX5_pairFrom_57 : decode μX5_pairFrom.2.1 57 = .ok (.return_, 1) := by decide +kernel
theorem dX5_pairFrom_58 : decode μX5_pairFrom.2.1 58 = .ok (.aload_n 0, 1) := by decide +kernel
theorem dX5_pairFrom_59 : decode μX5_pairFrom.2.1 59 = .ok (.getfield 15, 3) := by decide +kernel
theorem dX5_pairFrom_62 : decode μX5_pairFrom.2.1 62 = .ok (.iload_n 2, 1) := by decide +kernel
theorem dX5_pairFrom_63 : decode μX5_pairFrom.2.1 63 = .ok (.iaload, 1) := by decide +kernel
theorem dX5_pairFrom_64 : decode μX5_pairFrom.2.1 64 = .ok (.iconst (-1), 1) := by decide +kernel
theorem dX5_pairFrom_65 : decode μX5_pairFrom.2.1 65 = .ok (.if_icmp .eq 13, 3) := by decide +kernel
theorem dX5_pairFrom_68 : decode μX5_pairFrom.2.1 68 = .ok (.aload_n 0, 1) := by decide +kernel
theorem dX5_pairFrom_69 : decode μX5_pairFrom.2.1 69 = .ok (.aload_n 1, 1) := by decide +kernel
theorem dX5_pairFrom_70 : decode μX5_pairFrom.2.1 70 = .ok (.iload_n 2, 1) := by decide +kernel
theorem dX5_pairFrom_71 : decode μX5_pairFrom.2.1 71 = .ok (.iconst 1, 1) := by decide +kernel
theorem dX5_pairFrom_72 : decode μX5_pairFrom.2.1 72 = .ok (.iadd, 1) := by decide +kernel
theorem dX5_pairFrom_73 : decode μX5_pairFrom.2.1 73 = .ok (.iload_n 3, 1) := by decide +kernel
theorem dX5_pairFrom_74 : decode μX5_pairFrom.2.1 74 = .ok (.invokevirtual 62, 3) := by decide +kernel
theorem dX5_pairFrom_77 : decode μX5_pairFrom.2.1 77 = .ok (.return_, 1) := by decide +kernel
theorem dX5_pairFrom_78 : decode μX5_pairFrom.2.1 78 = .ok (.iload_n 2, 1) := by decide +kernel
theorem dX5_pairFrom_79 : decode μX5_pairFrom.2.1 79 = .ok (.iconst 1, 1) := by decide +kernel
theorem dX5_pairFrom_80 : decode μX5_pairFrom.2.1 80 = .ok (.iadd, 1) := by decide +kernel
theorem dX5_pairFrom_81 : decode μX5_pairFrom.2.1 81 = .ok (.istore 4, 2) := by decide +kernel
theorem dX5_pairFrom_83 : decode μX5_pairFrom.2.1 83 = .ok (.iload 4, 2) := by decide +kernel
theorem dX5_pairFrom_85 : decode μX5_pairFrom.2.1 85 = .ok (.aload_n 1, 1) := by decide +kernel
theorem dX5_pairFrom_86 : decode μX5_pairFrom.2.1 86 = .ok (.getfield 26, 3) := by decide +kernel
theorem dX5_pairFrom_89 : decode μX5_pairFrom.2.1 89 = .ok (.if_icmp .ge 72, 3) := by decide +kernel
theorem dX5_pairFrom_92 : decode μX5_pairFrom.2.1 92 = .ok (.aload_n 0, 1) := by decide +kernel
theorem dX5_pairFrom_93 : decode μX5_pairFrom.2.1 93 = .ok (.getfield 15, 3) := by decide +kernel
theorem dX5_pairFrom_96 : decode μX5_pairFrom.2.1 96 = .ok (.iload 4, 2) := by decide +kernel
theorem dX5_pairFrom_98 : decode μX5_pairFrom.2.1 98 = .ok (.iaload, 1) := by decide +kernel
theorem dX5_pairFrom_99 : decode μX5_pairFrom.2.1 99 = .ok (.iconst (-1), 1) := by decide +kernel
theorem dX5_pairFrom_100 : decode μX5_pairFrom.2.1 100 = .ok (.if_icmp .ne 55, 3) := by decide +kernel
theorem dX5_pairFrom_103 : decode μX5_pairFrom.2.1 103 = .ok (.aload_n 1, 1) := by decide +kernel
theorem dX5_pairFrom_104 : decode μX5_pairFrom.2.1 104 = .ok (.iload_n 2, 1) := by decide +kernel
theorem dX5_pairFrom_105 : decode μX5_pairFrom.2.1 105 = .ok (.iload 4, 2) := by decide +kernel
theorem dX5_pairFrom_107 : decode μX5_pairFrom.2.1 107 = .ok (.invokevirtual 58, 3) := by decide +kernel
theorem dX5_pairFrom_110 : decode μX5_pairFrom.2.1 110 = .ok (.ifCond .eq 45, 3) := by decide +kernel
theorem dX5_pairFrom_113 : decode μX5_pairFrom.2.1 113 = .ok (.aload_n 0, 1) := by decide +kernel
theorem dX5_pairFrom_114 : decode μX5_pairFrom.2.1 114 = .ok (.getfield 15, 3) := by decide +kernel
theorem dX5_pairFrom_117 : decode μX5_pairFrom.2.1 117 = .ok (.iload_n 2, 1) := by decide +kernel
theorem dX5_pairFrom_118 : decode μX5_pairFrom.2.1 118 = .ok (.iload 4, 2) := by decide +kernel
theorem dX5_pairFrom_120 : decode μX5_pairFrom.2.1 120 = .ok (.iastore, 1) := by decide +kernel
theorem dX5_pairFrom_121 : decode μX5_pairFrom.2.1 121 = .ok (.aload_n 0, 1) := by decide +kernel
theorem dX5_pairFrom_122 : decode μX5_pairFrom.2.1 122 = .ok (.getfield 15, 3) := by decide +kernel
theorem dX5_pairFrom_125 : decode μX5_pairFrom.2.1 125 = .ok (.iload 4, 2) := by decide +kernel
theorem dX5_pairFrom_127 : decode μX5_pairFrom.2.1 127 = .ok (.iload_n 2, 1) := by decide +kernel
theorem dX5_pairFrom_128 : decode μX5_pairFrom.2.1 128 = .ok (.iastore, 1) := by decide +kernel
theorem dX5_pairFrom_129 : decode μX5_pairFrom.2.1 129 = .ok (.aload_n 0, 1) := by decide +kernel
theorem dX5_pairFrom_130 : decode μX5_pairFrom.2.1 130 = .ok (.aload_n 1, 1) := by decide +kernel
theorem dX5_pairFrom_131 : decode μX5_pairFrom.2.1 131 = .ok (.iload_n 2, 1) := by decide +kernel
theorem dX5_pairFrom_132 : decode μX5_pairFrom.2.1 132 = .ok (.iconst 1, 1) := by decide +kernel
theorem dX5_pairFrom_133 : decode μX5_pairFrom.2.1 133 = .ok (.iadd, 1) := by decide +kernel
theorem dX5_pairFrom_134 : decode μX5_pairFrom.2.1 134 = .ok (.iload_n 3, 1) := by decide +kernel
theorem dX5_pairFrom_135 : decode μX5_pairFrom.2.1 135 = .ok (.iconst 1, 1) := by decide +kernel
theorem dX5_pairFrom_136 : decode μX5_pairFrom.2.1 136 = .ok (.iadd, 1) := by decide +kernel
theorem dX5_pairFrom_137 : decode μX5_pairFrom.2.1 137 = .ok (.invokevirtual 62, 3) := by decide +kernel
theorem dX5_pairFrom_140 : decode μX5_pairFrom.2.1 140 = .ok (.aload_n 0, 1) := by decide +kernel
theorem dX5_pairFrom_141 : decode μX5_pairFrom.2.1 141 = .ok (.getfield 15, 3) := by decide +kernel
theorem dX5_pairFrom_144 : decode μX5_pairFrom.2.1 144 = .ok (.iload_n 2, 1) := by decide +kernel
theorem dX5_pairFrom_145 : decode μX5_pairFrom.2.1 145 = .ok (.iconst (-1), 1) := by decide +kernel
theorem dX5_pairFrom_146 : decode μX5_pairFrom.2.1 146 = .ok (.iastore, 1) := by decide +kernel
theorem dX5_pairFrom_147 : decode μX5_pairFrom.2.1 147 = .ok (.aload_n 0, 1) := by decide +kernel
theorem dX5_pairFrom_148 : decode μX5_pairFrom.2.1 148 = .ok (.getfield 15, 3) := by decide +kernel
theorem dX5_pairFrom_151 : decode μX5_pairFrom.2.1 151 = .ok (.iload 4, 2) := by decide +kernel
theorem dX5_pairFrom_153 : decode μX5_pairFrom.2.1 153 = .ok (.iconst (-1), 1) := by decide +kernel
theorem dX5_pairFrom_154 : decode μX5_pairFrom.2.1 154 = .ok (.iastore, 1) := by decide +kernel
theorem dX5_pairFrom_155 : decode μX5_pairFrom.2.1 155 = .ok (.iinc 4 1, 3) := by decide +kernel
theorem dX5_pairFrom_158 : decode μX5_pairFrom.2.1 158 = .ok (.goto (-75), 3) := by decide +kernel
theorem dX5_pairFrom_161 : decode μX5_pairFrom.2.1 161 = .ok (.aload_n 0, 1) := by decide +kernel
theorem dX5_pairFrom_162 : decode μX5_pairFrom.2.1 162 = .ok (.aload_n 1, 1) := by decide +kernel
theorem dX5_pairFrom_163 : decode μX5_pairFrom.2.1 163 = .ok (.iload_n 2, 1) := by decide +kernel
theorem dX5_pairFrom_164 : decode μX5_pairFrom.2.1 164 = .ok (.iconst 1, 1) := by decide +kernel
theorem dX5_pairFrom_165 : decode μX5_pairFrom.2.1 165 = .ok (.iadd, 1) := by decide +kernel
theorem dX5_pairFrom_166 : decode μX5_pairFrom.2.1 166 = .ok (.iload_n 3, 1) := by decide +kernel
theorem dX5_pairFrom_167 : decode μX5_pairFrom.2.1 167 = .ok (.invokevirtual 62, 3) := by decide +kernel
theorem dX5_pairFrom_170 : decode μX5_pairFrom.2.1 170 = .ok (.return_, 1) := by decide +kernel
set_option maxRecDepth 20000 in
theorem sg_X5_pairFrom_0 {d : Nat} {o : Nat} {x2 : Int32} {x3 : Int32} {M : Mem} {K : (Mem → Prop)} (ho : kd o = (0, 2)) (h : (if ri M o 0 ≤ x2 then (if x3 ≤ ri M 42 2 then K M else (∀ M1, M1 = wi M 42 2 x3 → RV (d + 1) μX5_pairFrom 30 [(0, .ref 42), (1, .ref o), (2, .int x2), (3, .int x3), (4, .int 0)] [] M1 K)) else (if x2 < 8 then (vp_in x2 8 ∧ (if ri M 44 (nx x2) = (-1) then RV (d + 1) μX5_pairFrom 83 [(0, .ref 42), (1, .ref o), (2, .int x2), (3, .int x3), (4, .int (x2 + 1))] [] M K else (CV d μX5_pairFrom [.ref 42, .ref o, .int (x2 + 1), .int x3] M (fun M2 => K M2)))) else (if x3 ≤ ri M 42 2 then K M else (∀ M3, M3 = wi M 42 2 x3 → RV (d + 1) μX5_pairFrom 30 [(0, .ref 42), (1, .ref o), (2, .int x2), (3, .int x3), (4, .int 0)] [] M3 K))))) : CV (d + 1) μX5_pairFrom [.ref 42, .ref o, .int x2, .int x3] M K := by
  show Rn (d + 1) μX5_pairFrom 0 [(0, .ref 42), (1, .ref o), (2, .int x2), (3, .int x3)] [] M _
  refine rn_iload_n (i := 2) (x := x2) dX5_pairFrom_0 rfl (by simp) ?_
  refine rn_aload_n (i := 1) (x := o) dX5_pairFrom_1 rfl (by simp) ?_
  refine rn_geti dX5_pairFrom_2 ho gf_X5_26 (by decide) ?_
  refine rn_icmp_ge (tgt := 14) dX5_pairFrom_5 (by decide) (ite_go h (fun hc h => ?_) (fun hc h => ?_))
  · refine rn_iload_n (i := 3) (x := x3) dX5_pairFrom_14 rfl (by simp) ?_
    refine rn_aload_n (i := 0) (x := 42) dX5_pairFrom_15 rfl (by simp) ?_
    refine rn_geti dX5_pairFrom_16 rfl gf_X5_18 (by decide) ?_
    refine rn_icmp_le (tgt := 57) dX5_pairFrom_19 (by decide) (ite_go h (fun hc h => ?_) (fun hc h => ?_))
    · exact rn_ret dX5_pairFrom_57 rfl ⟨rfl, h⟩
    · refine rn_aload_n (i := 0) (x := 42) dX5_pairFrom_22 rfl (by simp) ?_
      refine rn_iload_n (i := 3) (x := x3) dX5_pairFrom_23 rfl (by simp) ?_
      have h := h _ rfl
      refine rn_puti dX5_pairFrom_24 rfl pf_X5_18 (by decide) rfl rfl ?_
      generalize wi M 42 2 x3 = M1 at h ⊢
      refine rn_iconst (v := 0) dX5_pairFrom_27 rfl ?_
      refine rn_istore (lv' := [(0, .ref 42), (1, .ref o), (2, .int x2), (3, .int x3), (4, .int 0)]) (hd := dX5_pairFrom_28) (hn := by decide) (hf := rfl) (hl := rfl) ?_
      exact h
  · refine rn_iload_n (i := 2) (x := x2) dX5_pairFrom_8 rfl (by simp) ?_
    refine rn_bipush (v := 8) dX5_pairFrom_9 rfl ?_
    refine rn_icmp_lt (tgt := 58) dX5_pairFrom_11 (by decide) (ite_go h (fun hc h => ?_) (fun hc h => ?_))
    · refine rn_aload_n (i := 0) (x := 42) dX5_pairFrom_58 rfl (by simp) ?_
      refine rn_getr (t := 44) dX5_pairFrom_59 rfl gf_X5_15 rfl rfl ?_
      refine rn_iload_n (i := 2) (x := x2) dX5_pairFrom_62 rfl (by simp) ?_
      obtain ⟨hi, h⟩ := h
      refine rn_iaload dX5_pairFrom_63 rfl hi ?_
      refine rn_iconst (v := -1) dX5_pairFrom_64 rfl ?_
      refine rn_icmp_eq (tgt := 78) dX5_pairFrom_65 (by decide) (ite_go h (fun hc h => ?_) (fun hc h => ?_))
      · refine rn_iload_n (i := 2) (x := x2) dX5_pairFrom_78 rfl (by simp) ?_
        refine rn_iconst (v := 1) dX5_pairFrom_79 rfl ?_
        refine rn_iadd dX5_pairFrom_80 ?_
        refine rn_istore (lv' := [(0, .ref 42), (1, .ref o), (2, .int x2), (3, .int x3), (4, .int (x2 + 1))]) (hd := dX5_pairFrom_81) (hn := by decide) (hf := rfl) (hl := rfl) ?_
        exact h
      · refine rn_aload_n (i := 0) (x := 42) dX5_pairFrom_68 rfl (by simp) ?_
        refine rn_aload_n (i := 1) (x := o) dX5_pairFrom_69 rfl (by simp) ?_
        refine rn_iload_n (i := 2) (x := x2) dX5_pairFrom_70 rfl (by simp) ?_
        refine rn_iconst (v := 1) dX5_pairFrom_71 rfl ?_
        refine rn_iadd dX5_pairFrom_72 ?_
        refine rn_iload_n (i := 3) (x := x3) dX5_pairFrom_73 rfl (by simp) ?_
        refine rn_callVv (as := [.ref o, .int (x2 + 1), .int x3]) (st := []) dX5_pairFrom_74 mf_X5_pairFrom lk_X5_62 im_X5_pairFrom rfl rfl rfl rfl (Nat.le_of_ble_eq_true rfl) (Nat.le_of_ble_eq_true rfl) rfl (RV.mono h (fun M2 h => ?_))
        exact rn_ret dX5_pairFrom_77 rfl ⟨rfl, h⟩
    · refine rn_iload_n (i := 3) (x := x3) dX5_pairFrom_14 rfl (by simp) ?_
      refine rn_aload_n (i := 0) (x := 42) dX5_pairFrom_15 rfl (by simp) ?_
      refine rn_geti dX5_pairFrom_16 rfl gf_X5_18 (by decide) ?_
      refine rn_icmp_le (tgt := 57) dX5_pairFrom_19 (by decide) (ite_go h (fun hc h => ?_) (fun hc h => ?_))
      · exact rn_ret dX5_pairFrom_57 rfl ⟨rfl, h⟩
      · refine rn_aload_n (i := 0) (x := 42) dX5_pairFrom_22 rfl (by simp) ?_
        refine rn_iload_n (i := 3) (x := x3) dX5_pairFrom_23 rfl (by simp) ?_
        have h := h _ rfl
        refine rn_puti dX5_pairFrom_24 rfl pf_X5_18 (by decide) rfl rfl ?_
        generalize wi M 42 2 x3 = M3 at h ⊢
        refine rn_iconst (v := 0) dX5_pairFrom_27 rfl ?_
        refine rn_istore (lv' := [(0, .ref 42), (1, .ref o), (2, .int x2), (3, .int x3), (4, .int 0)]) (hd := dX5_pairFrom_28) (hn := by decide) (hf := rfl) (hl := rfl) ?_
        exact h
set_option maxRecDepth 20000 in
theorem sg_X5_pairFrom_30 {d : Nat} {o : Nat} {x2 : Int32} {x3 : Int32} {x4 : Int32} {M : Mem} {K : (Mem → Prop)} (ho : kd o = (0, 2)) (h : (if 8 ≤ x4 then K M else (vp_in x4 8 ∧ (vp_in x4 8 ∧ ∀ M1, M1 = wi M 43 (nx x4) (ri M 44 (nx x4)) → RV (d + 1) μX5_pairFrom 30 [(0, .ref 42), (1, .ref o), (2, .int x2), (3, .int x3), (4, .int (x4 + 1))] [] M1 K)))) : RV (d + 1) μX5_pairFrom 30 [(0, .ref 42), (1, .ref o), (2, .int x2), (3, .int x3), (4, .int x4)] [] M K := by
  show Rn (d + 1) μX5_pairFrom 30 [(0, .ref 42), (1, .ref o), (2, .int x2), (3, .int x3), (4, .int x4)] [] M _
  refine rn_iload (x := x4) dX5_pairFrom_30 (by simp) ?_
  refine rn_bipush (v := 8) dX5_pairFrom_32 rfl ?_
  refine rn_icmp_ge (tgt := 57) dX5_pairFrom_34 (by decide) (ite_go h (fun hc h => ?_) (fun hc h => ?_))
  · exact rn_ret dX5_pairFrom_57 rfl ⟨rfl, h⟩
  · refine rn_aload_n (i := 0) (x := 42) dX5_pairFrom_37 rfl (by simp) ?_
    refine rn_getr (t := 43) dX5_pairFrom_38 rfl gf_X5_9 rfl rfl ?_
    refine rn_iload (x := x4) dX5_pairFrom_41 (by simp) ?_
    refine rn_aload_n (i := 0) (x := 42) dX5_pairFrom_43 rfl (by simp) ?_
    refine rn_getr (t := 44) dX5_pairFrom_44 rfl gf_X5_15 rfl rfl ?_
    refine rn_iload (x := x4) dX5_pairFrom_47 (by simp) ?_
    obtain ⟨hi, h⟩ := h
    refine rn_iaload dX5_pairFrom_49 rfl hi ?_
    obtain ⟨hi, h⟩ := h
    have h := h _ rfl
    refine rn_iastore dX5_pairFrom_50 rfl hi ?_
    generalize wi M 43 (nx x4) (ri M 44 (nx x4)) = M1 at h ⊢
    refine rn_iinc (x := x4) (v := x4 + 1) (lv' := [(0, .ref 42), (1, .ref o), (2, .int x2), (3, .int x3), (4, .int (x4 + 1))]) dX5_pairFrom_51 (by simp) rfl (by decide) rfl rfl ?_
    refine rn_goto (tgt := 30) dX5_pairFrom_54 (by decide) ?_
    exact h
set_option maxRecDepth 20000 in
theorem sg_X5_pairFrom_83 {d : Nat} {o : Nat} {x2 : Int32} {x3 : Int32} {x4 : Int32} {M : Mem} {K : (Mem → Prop)} (ho : kd o = (0, 2)) (h : (if ri M o 0 ≤ x4 then (CV d μX5_pairFrom [.ref 42, .ref o, .int (x2 + 1), .int x3] M (fun M1 => K M1)) else (vp_in x4 8 ∧ (if ri M 44 (nx x4) = (-1) then (CI d μX2_meets [.ref o, .int x2, .int x4] M (fun r3 M2 => (if r3 = 0 then RV (d + 1) μX5_pairFrom 83 [(0, .ref 42), (1, .ref o), (2, .int x2), (3, .int x3), (4, .int (x4 + 1))] [] M2 K else (vp_in x2 8 ∧ ∀ M4, M4 = wi M2 44 (nx x2) x4 → (vp_in x4 8 ∧ ∀ M5, M5 = wi M4 44 (nx x4) x2 → (CV d μX5_pairFrom [.ref 42, .ref o, .int (x2 + 1), .int (x3 + 1)] M5 (fun M6 => (vp_in x2 8 ∧ ∀ M7, M7 = wi M6 44 (nx x2) ((-1)) → (vp_in x4 8 ∧ ∀ M8, M8 = wi M7 44 (nx x4) ((-1)) → RV (d + 1) μX5_pairFrom 83 [(0, .ref 42), (1, .ref o), (2, .int x2), (3, .int x3), (4, .int (x4 + 1))] [] M8 K))))))))) else RV (d + 1) μX5_pairFrom 83 [(0, .ref 42), (1, .ref o), (2, .int x2), (3, .int x3), (4, .int (x4 + 1))] [] M K)))) : RV (d + 1) μX5_pairFrom 83 [(0, .ref 42), (1, .ref o), (2, .int x2), (3, .int x3), (4, .int x4)] [] M K := by
  show Rn (d + 1) μX5_pairFrom 83 [(0, .ref 42), (1, .ref o), (2, .int x2), (3, .int x3), (4, .int x4)] [] M _
  refine rn_iload (x := x4) dX5_pairFrom_83 (by simp) ?_
  refine rn_aload_n (i := 1) (x := o) dX5_pairFrom_85 rfl (by simp) ?_
  refine rn_geti dX5_pairFrom_86 ho gf_X5_26 (by decide) ?_
  refine rn_icmp_ge (tgt := 161) dX5_pairFrom_89 (by decide) (ite_go h (fun hc h => ?_) (fun hc h => ?_))
  · refine rn_aload_n (i := 0) (x := 42) dX5_pairFrom_161 rfl (by simp) ?_
    refine rn_aload_n (i := 1) (x := o) dX5_pairFrom_162 rfl (by simp) ?_
    refine rn_iload_n (i := 2) (x := x2) dX5_pairFrom_163 rfl (by simp) ?_
    refine rn_iconst (v := 1) dX5_pairFrom_164 rfl ?_
    refine rn_iadd dX5_pairFrom_165 ?_
    refine rn_iload_n (i := 3) (x := x3) dX5_pairFrom_166 rfl (by simp) ?_
    refine rn_callVv (as := [.ref o, .int (x2 + 1), .int x3]) (st := []) dX5_pairFrom_167 mf_X5_pairFrom lk_X5_62 im_X5_pairFrom rfl rfl rfl rfl (Nat.le_of_ble_eq_true rfl) (Nat.le_of_ble_eq_true rfl) rfl (RV.mono h (fun M1 h => ?_))
    exact rn_ret dX5_pairFrom_170 rfl ⟨rfl, h⟩
  · refine rn_aload_n (i := 0) (x := 42) dX5_pairFrom_92 rfl (by simp) ?_
    refine rn_getr (t := 44) dX5_pairFrom_93 rfl gf_X5_15 rfl rfl ?_
    refine rn_iload (x := x4) dX5_pairFrom_96 (by simp) ?_
    obtain ⟨hi, h⟩ := h
    refine rn_iaload dX5_pairFrom_98 rfl hi ?_
    refine rn_iconst (v := -1) dX5_pairFrom_99 rfl ?_
    refine rn_icmp_ne (tgt := 155) dX5_pairFrom_100 (by decide) (ite_go h (fun hc h => ?_) (fun hc h => ?_))
    · refine rn_aload_n (i := 1) (x := o) dX5_pairFrom_103 rfl (by simp) ?_
      refine rn_iload_n (i := 2) (x := x2) dX5_pairFrom_104 rfl (by simp) ?_
      refine rn_iload (x := x4) dX5_pairFrom_105 (by simp) ?_
      refine rn_callVi (as := [.int x2, .int x4]) (st := []) dX5_pairFrom_107 mf_X2_meets lk_X5_58 im_X2_meets ho rfl rfl rfl (Nat.le_of_ble_eq_true rfl) (Nat.le_of_ble_eq_true rfl) rfl (RI.mono h (fun r3 M2 h => ?_))
      refine rn_if_eq (tgt := 155) dX5_pairFrom_110 (by decide) (ite_go h (fun hc h => ?_) (fun hc h => ?_))
      · refine rn_iinc (x := x4) (v := x4 + 1) (lv' := [(0, .ref 42), (1, .ref o), (2, .int x2), (3, .int x3), (4, .int (x4 + 1))]) dX5_pairFrom_155 (by simp) rfl (by decide) rfl rfl ?_
        refine rn_goto (tgt := 83) dX5_pairFrom_158 (by decide) ?_
        exact h
      · refine rn_aload_n (i := 0) (x := 42) dX5_pairFrom_113 rfl (by simp) ?_
        refine rn_getr (t := 44) dX5_pairFrom_114 rfl gf_X5_15 rfl rfl ?_
        refine rn_iload_n (i := 2) (x := x2) dX5_pairFrom_117 rfl (by simp) ?_
        refine rn_iload (x := x4) dX5_pairFrom_118 (by simp) ?_
        obtain ⟨hi, h⟩ := h
        have h := h _ rfl
        refine rn_iastore dX5_pairFrom_120 rfl hi ?_
        generalize wi M2 44 (nx x2) x4 = M4 at h ⊢
        refine rn_aload_n (i := 0) (x := 42) dX5_pairFrom_121 rfl (by simp) ?_
        refine rn_getr (t := 44) dX5_pairFrom_122 rfl gf_X5_15 rfl rfl ?_
        refine rn_iload (x := x4) dX5_pairFrom_125 (by simp) ?_
        refine rn_iload_n (i := 2) (x := x2) dX5_pairFrom_127 rfl (by simp) ?_
        obtain ⟨hi, h⟩ := h
        have h := h _ rfl
        refine rn_iastore dX5_pairFrom_128 rfl hi ?_
        generalize wi M4 44 (nx x4) x2 = M5 at h ⊢
        refine rn_aload_n (i := 0) (x := 42) dX5_pairFrom_129 rfl (by simp) ?_
        refine rn_aload_n (i := 1) (x := o) dX5_pairFrom_130 rfl (by simp) ?_
        refine rn_iload_n (i := 2) (x := x2) dX5_pairFrom_131 rfl (by simp) ?_
        refine rn_iconst (v := 1) dX5_pairFrom_132 rfl ?_
        refine rn_iadd dX5_pairFrom_133 ?_
        refine rn_iload_n (i := 3) (x := x3) dX5_pairFrom_134 rfl (by simp) ?_
        refine rn_iconst (v := 1) dX5_pairFrom_135 rfl ?_
        refine rn_iadd dX5_pairFrom_136 ?_
        refine rn_callVv (as := [.ref o, .int (x2 + 1), .int (x3 + 1)]) (st := []) dX5_pairFrom_137 mf_X5_pairFrom lk_X5_62 im_X5_pairFrom rfl rfl rfl rfl (Nat.le_of_ble_eq_true rfl) (Nat.le_of_ble_eq_true rfl) rfl (RV.mono h (fun M6 h => ?_))
        refine rn_aload_n (i := 0) (x := 42) dX5_pairFrom_140 rfl (by simp) ?_
        refine rn_getr (t := 44) dX5_pairFrom_141 rfl gf_X5_15 rfl rfl ?_
        refine rn_iload_n (i := 2) (x := x2) dX5_pairFrom_144 rfl (by simp) ?_
        refine rn_iconst (v := -1) dX5_pairFrom_145 rfl ?_
        obtain ⟨hi, h⟩ := h
        have h := h _ rfl
        refine rn_iastore dX5_pairFrom_146 rfl hi ?_
        generalize wi M6 44 (nx x2) ((-1)) = M7 at h ⊢
        refine rn_aload_n (i := 0) (x := 42) dX5_pairFrom_147 rfl (by simp) ?_
        refine rn_getr (t := 44) dX5_pairFrom_148 rfl gf_X5_15 rfl rfl ?_
        refine rn_iload (x := x4) dX5_pairFrom_151 (by simp) ?_
        refine rn_iconst (v := -1) dX5_pairFrom_153 rfl ?_
        obtain ⟨hi, h⟩ := h
        have h := h _ rfl
        refine rn_iastore dX5_pairFrom_154 rfl hi ?_
        generalize wi M7 44 (nx x4) ((-1)) = M8 at h ⊢
        refine rn_iinc (x := x4) (v := x4 + 1) (lv' := [(0, .ref 42), (1, .ref o), (2, .int x2), (3, .int x3), (4, .int (x4 + 1))]) dX5_pairFrom_155 (by simp) rfl (by decide) rfl rfl ?_
        refine rn_goto (tgt := 83) dX5_pairFrom_158 (by decide) ?_
        exact h
    · refine rn_iinc (x := x4) (v := x4 + 1) (lv' := [(0, .ref 42), (1, .ref o), (2, .int x2), (3, .int x3), (4, .int (x4 + 1))]) dX5_pairFrom_155 (by simp) rfl (by decide) rfl rfl ?_
      refine rn_goto (tgt := 83) dX5_pairFrom_158 (by decide) ?_
      exact h
theorem dX5_neighboursInOrder_0 : decode μX5_neighboursInOrder.2.1 0 = .ok (.aload_n 1, 1) := by decide +kernel
theorem dX5_neighboursInOrder_1 : decode μX5_neighboursInOrder.2.1 1 = .ok (.getfield 31, 3) := by decide +kernel
theorem dX5_neighboursInOrder_4 : decode μX5_neighboursInOrder.2.1 4 = .ok (.iload_n 2, 1) := by decide +kernel
theorem dX5_neighboursInOrder_5 : decode μX5_neighboursInOrder.2.1 5 = .ok (.iaload, 1) := by decide +kernel
theorem dX5_neighboursInOrder_6 : decode μX5_neighboursInOrder.2.1 6 = .ok (.istore_n 3, 1) := by decide +kernel
theorem dX5_neighboursInOrder_7 : decode μX5_neighboursInOrder.2.1 7 = .ok (.iload_n 3, 1) := by decide +kernel
theorem dX5_neighboursInOrder_8 : decode μX5_neighboursInOrder.2.1 8 = .ok (.invokestatic 66, 3) := by decide +kernel
theorem dX5_neighboursInOrder_11 : decode μX5_neighboursInOrder.2.1 11 = .ok (.istore 4, 2) := by decide +kernel
theorem dX5_neighboursInOrder_13 : decode μX5_neighboursInOrder.2.1 13 = .ok (.iconst 0, 1) := by decide +kernel
theorem dX5_neighboursInOrder_14 : decode μX5_neighboursInOrder.2.1 14 = .ok (.istore 5, 2) := by decide +kernel
theorem dX5_neighboursInOrder_16 : decode μX5_neighboursInOrder.2.1 16 = .ok (.iconst 0, 1) := by decide +kernel
theorem dX5_neighboursInOrder_17 : decode μX5_neighboursInOrder.2.1 17 = .ok (.istore 6, 2) := by decide +kernel
theorem dX5_neighboursInOrder_19 : decode μX5_neighboursInOrder.2.1 19 = .ok (.iload 6, 2) := by decide +kernel
theorem dX5_neighboursInOrder_21 : decode μX5_neighboursInOrder.2.1 21 = .ok (.bipush 8, 2) := by decide +kernel
theorem dX5_neighboursInOrder_23 : decode μX5_neighboursInOrder.2.1 23 = .ok (.if_icmp .ge 55, 3) := by decide +kernel
theorem dX5_neighboursInOrder_26 : decode μX5_neighboursInOrder.2.1 26 = .ok (.iload 4, 2) := by decide +kernel
theorem dX5_neighboursInOrder_28 : decode μX5_neighboursInOrder.2.1 28 = .ok (.iconst (-1), 1) := by decide +kernel
theorem dX5_neighboursInOrder_29 : decode μX5_neighboursInOrder.2.1 29 = .ok (.if_icmp .eq 49, 3) := by decide +kernel
theorem dX5_neighboursInOrder_32 : decode μX5_neighboursInOrder.2.1 32 = .ok (.aload_n 0, 1) := by decide +kernel
theorem dX5_neighboursInOrder_33 : decode μX5_neighboursInOrder.2.1 33 = .ok (.getfield 9, 3) := by decide +kernel
theorem dX5_neighboursInOrder_36 : decode μX5_neighboursInOrder.2.1 36 = .ok (.iload 5, 2) := by decide +kernel
theorem dX5_neighboursInOrder_38 : decode μX5_neighboursInOrder.2.1 38 = .ok (.iload 4, 2) := by decide +kernel
theorem dX5_neighboursInOrder_40 : decode μX5_neighboursInOrder.2.1 40 = .ok (.iastore, 1) := by decide +kernel
theorem dX5_neighboursInOrder_41 : decode μX5_neighboursInOrder.2.1 41 = .ok (.iinc 5 1, 3) := by decide +kernel
theorem dX5_neighboursInOrder_44 : decode μX5_neighboursInOrder.2.1 44 = .ok (.iload_n 3, 1) := by decide +kernel
theorem dX5_neighboursInOrder_45 : decode μX5_neighboursInOrder.2.1 45 = .ok (.iconst 1, 1) := by decide +kernel
theorem dX5_neighboursInOrder_46 : decode μX5_neighboursInOrder.2.1 46 = .ok (.iload 4, 2) := by decide +kernel
theorem dX5_neighboursInOrder_48 : decode μX5_neighboursInOrder.2.1 48 = .ok (.ishl, 1) := by decide +kernel
theorem dX5_neighboursInOrder_49 : decode μX5_neighboursInOrder.2.1 49 = .ok (.iconst (-1), 1) := by decide +kernel
theorem dX5_neighboursInOrder_50 : decode μX5_neighboursInOrder.2.1 50 = .ok (.ixor, 1) := by decide +kernel
theorem dX5_neighboursInOrder_51 : decode μX5_neighboursInOrder.2.1 51 = .ok (.iand, 1) := by decide +kernel
theorem dX5_neighboursInOrder_52 : decode μX5_neighboursInOrder.2.1 52 = .ok (.istore_n 3, 1) := by decide +kernel
theorem dX5_neighboursInOrder_53 : decode μX5_neighboursInOrder.2.1 53 = .ok (.iload_n 3, 1) := by decide +kernel
theorem dX5_neighboursInOrder_54 : decode μX5_neighboursInOrder.2.1 54 = .ok (.aload_n 1, 1) := by decide +kernel
theorem dX5_neighboursInOrder_55 : decode μX5_neighboursInOrder.2.1 55 = .ok (.iconst 1, 1) := by decide +kernel
theorem dX5_neighboursInOrder_56 : decode μX5_neighboursInOrder.2.1 56 = .ok (.iload_n 2, 1) := by decide +kernel
theorem dX5_neighboursInOrder_57 : decode μX5_neighboursInOrder.2.1 57 = .ok (.ishl, 1) := by decide +kernel
theorem dX5_neighboursInOrder_58 : decode μX5_neighboursInOrder.2.1 58 = .ok (.iconst 1, 1) := by decide +kernel
theorem dX5_neighboursInOrder_59 : decode μX5_neighboursInOrder.2.1 59 = .ok (.iload 4, 2) := by decide +kernel
theorem dX5_neighboursInOrder_61 : decode μX5_neighboursInOrder.2.1 61 = .ok (.ishl, 1) := by decide +kernel
theorem dX5_neighboursInOrder_62 : decode μX5_neighboursInOrder.2.1 62 = .ok (.ior, 1) := by decide +kernel
theorem dX5_neighboursInOrder_63 : decode μX5_neighboursInOrder.2.1 63 = .ok (.invokestatic 69, 3) := by decide +kernel
theorem dX5_neighboursInOrder_66 : decode μX5_neighboursInOrder.2.1 66 = .ok (.iand, 1) := by decide +kernel
theorem dX5_neighboursInOrder_67 : decode μX5_neighboursInOrder.2.1 67 = .ok (.invokestatic 66, 3) := by decide +kernel
theorem dX5_neighboursInOrder_70 : decode μX5_neighboursInOrder.2.1 70 = .ok (.istore 4, 2) := by decide +kernel
theorem dX5_neighboursInOrder_72 : decode μX5_neighboursInOrder.2.1 72 = .ok (.iinc 6 1, 3) := by decide +kernel
theorem dX5_neighboursInOrder_75 : decode μX5_neighboursInOrder.2.1 75 = .ok (.goto (-56), 3) := by decide +kernel
theorem dX5_neighboursInOrder_78 : decode μX5_neighboursInOrder.2.1 78 = .ok (.iload 5, 2) := by decide +kernel
theorem dX5_neighboursInOrder_80 : decode μX5_neighboursInOrder.2.1 80 = .ok (.ireturn, 1) := by decide +kernel
set_option maxRecDepth 20000 in
theorem sg_X5_neighboursInOrder_0 {d : Nat} {o : Nat} {x2 : Int32} {M : Mem} {K : (Int32 → Mem → Prop)} (ho : kd o = (0, 2)) (h : (vp_in x2 8 ∧ (CI d μX8_lowest [.int (ri M (o + 3) (nx x2))] M (fun r2 M1 => RI (d + 1) μX5_neighboursInOrder 19 [(0, .ref 42), (1, .ref o), (2, .int x2), (3, .int (ri M (o + 3) (nx x2))), (4, .int r2), (5, .int 0), (6, .int 0)] [] M1 K)))) : CI (d + 1) μX5_neighboursInOrder [.ref 42, .ref o, .int x2] M K := by
  show Rn (d + 1) μX5_neighboursInOrder 0 [(0, .ref 42), (1, .ref o), (2, .int x2)] [] M _
  refine rn_aload_n (i := 1) (x := o) dX5_neighboursInOrder_0 rfl (by simp) ?_
  refine rn_getr (t := o + 3) dX5_neighboursInOrder_1 ho gf_X5_31 rfl (froth_refs _ ho).2.2.1.1 ?_
  refine rn_iload_n (i := 2) (x := x2) dX5_neighboursInOrder_4 rfl (by simp) ?_
  obtain ⟨hi, h⟩ := h
  refine rn_iaload dX5_neighboursInOrder_5 (froth_refs _ ho).2.2.1.2 hi ?_
  refine rn_istore_n (lv' := [(0, .ref 42), (1, .ref o), (2, .int x2), (3, .int (ri M (o + 3) (nx x2)))]) (hd := dX5_neighboursInOrder_6) (i := 3) (hi := rfl) (hn := by decide) (hf := rfl) (hl := rfl) ?_
  refine rn_iload_n (i := 3) (x := ri M (o + 3) (nx x2)) dX5_neighboursInOrder_7 rfl (by simp) ?_
  refine rn_callSNi (as := [.int (ri M (o + 3) (nx x2))]) (st := []) dX5_neighboursInOrder_8 mf_X8_lowest nk_X5_66 sm_X8_lowest rfl (Nat.le_of_ble_eq_true rfl) (Nat.le_of_ble_eq_true rfl) rfl (RI.mono h (fun r2 M1 h => ?_))
  refine rn_istore (lv' := [(0, .ref 42), (1, .ref o), (2, .int x2), (3, .int (ri M (o + 3) (nx x2))), (4, .int r2)]) (hd := dX5_neighboursInOrder_11) (hn := by decide) (hf := rfl) (hl := rfl) ?_
  refine rn_iconst (v := 0) dX5_neighboursInOrder_13 rfl ?_
  refine rn_istore (lv' := [(0, .ref 42), (1, .ref o), (2, .int x2), (3, .int (ri M (o + 3) (nx x2))), (4, .int r2), (5, .int 0)]) (hd := dX5_neighboursInOrder_14) (hn := by decide) (hf := rfl) (hl := rfl) ?_
  refine rn_iconst (v := 0) dX5_neighboursInOrder_16 rfl ?_
  refine rn_istore (lv' := [(0, .ref 42), (1, .ref o), (2, .int x2), (3, .int (ri M (o + 3) (nx x2))), (4, .int r2), (5, .int 0), (6, .int 0)]) (hd := dX5_neighboursInOrder_17) (hn := by decide) (hf := rfl) (hl := rfl) ?_
  exact h
set_option maxRecDepth 20000 in
theorem sg_X5_neighboursInOrder_19 {d : Nat} {o : Nat} {x2 : Int32} {x3 : Int32} {x4 : Int32} {x5 : Int32} {x6 : Int32} {M : Mem} {K : (Int32 → Mem → Prop)} (ho : kd o = (0, 2)) (h : (if 8 ≤ x6 then K x5 M else (if x4 = (-1) then K x5 M else (vp_in x5 8 ∧ ∀ M1, M1 = wi M 43 (nx x5) x4 → (CI d μX5_sharingCorner [.ref o, .int (((1 : Int32) <<< (x2 &&& 31)) ||| ((1 : Int32) <<< (x4 &&& 31)))] M1 (fun r3 M2 => (CI d μX8_lowest [.int ((x3 &&& (((1 : Int32) <<< (x4 &&& 31)) ^^^ ((-1)))) &&& r3)] M2 (fun r5 M4 => RI (d + 1) μX5_neighboursInOrder 19 [(0, .ref 42), (1, .ref o), (2, .int x2), (3, .int (x3 &&& (((1 : Int32) <<< (x4 &&& 31)) ^^^ ((-1))))), (4, .int r5), (5, .int (x5 + 1)), (6, .int (x6 + 1))] [] M4 K)))))))) : RI (d + 1) μX5_neighboursInOrder 19 [(0, .ref 42), (1, .ref o), (2, .int x2), (3, .int x3), (4, .int x4), (5, .int x5), (6, .int x6)] [] M K := by
  show Rn (d + 1) μX5_neighboursInOrder 19 [(0, .ref 42), (1, .ref o), (2, .int x2), (3, .int x3), (4, .int x4), (5, .int x5), (6, .int x6)] [] M _
  refine rn_iload (x := x6) dX5_neighboursInOrder_19 (by simp) ?_
  refine rn_bipush (v := 8) dX5_neighboursInOrder_21 rfl ?_
  refine rn_icmp_ge (tgt := 78) dX5_neighboursInOrder_23 (by decide) (ite_go h (fun hc h => ?_) (fun hc h => ?_))
  · refine rn_iload (x := x5) dX5_neighboursInOrder_78 (by simp) ?_
    exact rn_iret dX5_neighboursInOrder_80 rfl ⟨_, rfl, h⟩
  · refine rn_iload (x := x4) dX5_neighboursInOrder_26 (by simp) ?_
    refine rn_iconst (v := -1) dX5_neighboursInOrder_28 rfl ?_
    refine rn_icmp_eq (tgt := 78) dX5_neighboursInOrder_29 (by decide) (ite_go h (fun hc h => ?_) (fun hc h => ?_))
    · refine rn_iload (x := x5) dX5_neighboursInOrder_78 (by simp) ?_
      exact rn_iret dX5_neighboursInOrder_80 rfl ⟨_, rfl, h⟩
    · refine rn_aload_n (i := 0) (x := 42) dX5_neighboursInOrder_32 rfl (by simp) ?_
      refine rn_getr (t := 43) dX5_neighboursInOrder_33 rfl gf_X5_9 rfl rfl ?_
      refine rn_iload (x := x5) dX5_neighboursInOrder_36 (by simp) ?_
      refine rn_iload (x := x4) dX5_neighboursInOrder_38 (by simp) ?_
      obtain ⟨hi, h⟩ := h
      have h := h _ rfl
      refine rn_iastore dX5_neighboursInOrder_40 rfl hi ?_
      generalize wi M 43 (nx x5) x4 = M1 at h ⊢
      refine rn_iinc (x := x5) (v := x5 + 1) (lv' := [(0, .ref 42), (1, .ref o), (2, .int x2), (3, .int x3), (4, .int x4), (5, .int (x5 + 1)), (6, .int x6)]) dX5_neighboursInOrder_41 (by simp) rfl (by decide) rfl rfl ?_
      refine rn_iload_n (i := 3) (x := x3) dX5_neighboursInOrder_44 rfl (by simp) ?_
      refine rn_iconst (v := 1) dX5_neighboursInOrder_45 rfl ?_
      refine rn_iload (x := x4) dX5_neighboursInOrder_46 (by simp) ?_
      refine rn_ishl dX5_neighboursInOrder_48 ?_
      refine rn_iconst (v := -1) dX5_neighboursInOrder_49 rfl ?_
      refine rn_ixor dX5_neighboursInOrder_50 ?_
      refine rn_iand dX5_neighboursInOrder_51 ?_
      refine rn_istore_n (lv' := [(0, .ref 42), (1, .ref o), (2, .int x2), (3, .int (x3 &&& (((1 : Int32) <<< (x4 &&& 31)) ^^^ ((-1))))), (4, .int x4), (5, .int (x5 + 1)), (6, .int x6)]) (hd := dX5_neighboursInOrder_52) (i := 3) (hi := rfl) (hn := by decide) (hf := rfl) (hl := rfl) ?_
      refine rn_iload_n (i := 3) (x := x3 &&& (((1 : Int32) <<< (x4 &&& 31)) ^^^ ((-1)))) dX5_neighboursInOrder_53 rfl (by simp) ?_
      refine rn_aload_n (i := 1) (x := o) dX5_neighboursInOrder_54 rfl (by simp) ?_
      refine rn_iconst (v := 1) dX5_neighboursInOrder_55 rfl ?_
      refine rn_iload_n (i := 2) (x := x2) dX5_neighboursInOrder_56 rfl (by simp) ?_
      refine rn_ishl dX5_neighboursInOrder_57 ?_
      refine rn_iconst (v := 1) dX5_neighboursInOrder_58 rfl ?_
      refine rn_iload (x := x4) dX5_neighboursInOrder_59 (by simp) ?_
      refine rn_ishl dX5_neighboursInOrder_61 ?_
      refine rn_ior dX5_neighboursInOrder_62 ?_
      refine rn_callSi (as := [.ref o, .int (((1 : Int32) <<< (x2 &&& 31)) ||| ((1 : Int32) <<< (x4 &&& 31)))]) (st := [.int (x3 &&& (((1 : Int32) <<< (x4 &&& 31)) ^^^ ((-1))))]) dX5_neighboursInOrder_63 mf_X5_sharingCorner lk_X5_69 sm_X5_sharingCorner rfl (Nat.le_of_ble_eq_true rfl) (Nat.le_of_ble_eq_true rfl) rfl (RI.mono h (fun r3 M2 h => ?_))
      refine rn_iand dX5_neighboursInOrder_66 ?_
      refine rn_callSNi (as := [.int ((x3 &&& (((1 : Int32) <<< (x4 &&& 31)) ^^^ ((-1)))) &&& r3)]) (st := []) dX5_neighboursInOrder_67 mf_X8_lowest nk_X5_66 sm_X8_lowest rfl (Nat.le_of_ble_eq_true rfl) (Nat.le_of_ble_eq_true rfl) rfl (RI.mono h (fun r5 M4 h => ?_))
      refine rn_istore (lv' := [(0, .ref 42), (1, .ref o), (2, .int x2), (3, .int (x3 &&& (((1 : Int32) <<< (x4 &&& 31)) ^^^ ((-1))))), (4, .int r5), (5, .int (x5 + 1)), (6, .int x6)]) (hd := dX5_neighboursInOrder_70) (hn := by decide) (hf := rfl) (hl := rfl) ?_
      refine rn_iinc (x := x6) (v := x6 + 1) (lv' := [(0, .ref 42), (1, .ref o), (2, .int x2), (3, .int (x3 &&& (((1 : Int32) <<< (x4 &&& 31)) ^^^ ((-1))))), (4, .int r5), (5, .int (x5 + 1)), (6, .int (x6 + 1))]) dX5_neighboursInOrder_72 (by simp) rfl (by decide) rfl rfl ?_
      refine rn_goto (tgt := 19) dX5_neighboursInOrder_75 (by decide) ?_
      exact h
theorem dX5_sharingCorner_0 : decode μX5_sharingCorner.2.1 0 = .ok (.iconst 0, 1) := by decide +kernel
theorem dX5_sharingCorner_1 : decode μX5_sharingCorner.2.1 1 = .ok (.istore_n 2, 1) := by decide +kernel
theorem dX5_sharingCorner_2 : decode μX5_sharingCorner.2.1 2 = .ok (.iconst 0, 1) := by decide +kernel
theorem dX5_sharingCorner_3 : decode μX5_sharingCorner.2.1 3 = .ok (.istore_n 3, 1) := by decide +kernel
theorem dX5_sharingCorner_4 : decode μX5_sharingCorner.2.1 4 = .ok (.iload_n 3, 1) := by decide +kernel
theorem dX5_sharingCorner_5 : decode μX5_sharingCorner.2.1 5 = .ok (.aload_n 0, 1) := by decide +kernel
theorem dX5_sharingCorner_6 : decode μX5_sharingCorner.2.1 6 = .ok (.getfield 72, 3) := by decide +kernel
theorem dX5_sharingCorner_9 : decode μX5_sharingCorner.2.1 9 = .ok (.if_icmp .ge 30, 3) := by decide +kernel
theorem dX5_sharingCorner_12 : decode μX5_sharingCorner.2.1 12 = .ok (.aload_n 0, 1) := by decide +kernel
theorem dX5_sharingCorner_13 : decode μX5_sharingCorner.2.1 13 = .ok (.getfield 75, 3) := by decide +kernel
theorem dX5_sharingCorner_16 : decode μX5_sharingCorner.2.1 16 = .ok (.iload_n 3, 1) := by decide +kernel
theorem dX5_sharingCorner_17 : decode μX5_sharingCorner.2.1 17 = .ok (.iaload, 1) := by decide +kernel
theorem dX5_sharingCorner_18 : decode μX5_sharingCorner.2.1 18 = .ok (.iload_n 1, 1) := by decide +kernel
theorem dX5_sharingCorner_19 : decode μX5_sharingCorner.2.1 19 = .ok (.iand, 1) := by decide +kernel
theorem dX5_sharingCorner_20 : decode μX5_sharingCorner.2.1 20 = .ok (.iload_n 1, 1) := by decide +kernel
theorem dX5_sharingCorner_21 : decode μX5_sharingCorner.2.1 21 = .ok (.if_icmp .ne 12, 3) := by decide +kernel
theorem dX5_sharingCorner_24 : decode μX5_sharingCorner.2.1 24 = .ok (.iload_n 2, 1) := by decide +kernel
theorem dX5_sharingCorner_25 : decode μX5_sharingCorner.2.1 25 = .ok (.aload_n 0, 1) := by decide +kernel
theorem dX5_sharingCorner_26 : decode μX5_sharingCorner.2.1 26 = .ok (.getfield 75, 3) := by decide +kernel
theorem dX5_sharingCorner_29 : decode μX5_sharingCorner.2.1 29 = .ok (.iload_n 3, 1) := by decide +kernel
theorem dX5_sharingCorner_30 : decode μX5_sharingCorner.2.1 30 = .ok (.iaload, 1) := by decide +kernel
theorem dX5_sharingCorner_31 : decode μX5_sharingCorner.2.1 31 = .ok (.ior, 1) := by decide +kernel
theorem dX5_sharingCorner_32 : decode μX5_sharingCorner.2.1 32 = .ok (.istore_n 2, 1) := by decide +kernel
theorem dX5_sharingCorner_33 : decode μX5_sharingCorner.2.1 33 = .ok (.iinc 3 1, 3) := by decide +kernel
theorem dX5_sharingCorner_36 : decode μX5_sharingCorner.2.1 36 = .ok (.goto (-32), 3) := by decide +kernel
theorem dX5_sharingCorner_39 : decode μX5_sharingCorner.2.1 39 = .ok (.iload_n 2, 1) := by decide +kernel
theorem dX5_sharingCorner_40 : decode μX5_sharingCorner.2.1 40 = .ok (.iload_n 1, 1) := by decide +kernel
theorem dX5_sharingCorner_41 : decode μX5_sharingCorner.2.1 41 = .ok (.iconst (-1), 1) := by decide +kernel
theorem dX5_sharingCorner_42 : decode μX5_sharingCorner.2.1 42 = .ok (.ixor, 1) := by decide +kernel
theorem dX5_sharingCorner_43 : decode μX5_sharingCorner.2.1 43 = .ok (.iand, 1) := by decide +kernel
theorem dX5_sharingCorner_44 : decode μX5_sharingCorner.2.1 44 = .ok (.ireturn, 1) := by decide +kernel
set_option maxRecDepth 20000 in
theorem sg_X5_sharingCorner_0 {d : Nat} {o : Nat} {x1 : Int32} {M : Mem} {K : (Int32 → Mem → Prop)} (ho : kd o = (0, 2)) (h : RI d μX5_sharingCorner 4 [(0, .ref o), (1, .int x1), (2, .int 0), (3, .int 0)] [] M K) : CI d μX5_sharingCorner [.ref o, .int x1] M K := by
  show Rn d μX5_sharingCorner 0 [(0, .ref o), (1, .int x1)] [] M _
  refine rn_iconst (v := 0) dX5_sharingCorner_0 rfl ?_
  refine rn_istore_n (lv' := [(0, .ref o), (1, .int x1), (2, .int 0)]) (hd := dX5_sharingCorner_1) (i := 2) (hi := rfl) (hn := by decide) (hf := rfl) (hl := rfl) ?_
  refine rn_iconst (v := 0) dX5_sharingCorner_2 rfl ?_
  refine rn_istore_n (lv' := [(0, .ref o), (1, .int x1), (2, .int 0), (3, .int 0)]) (hd := dX5_sharingCorner_3) (i := 3) (hi := rfl) (hn := by decide) (hf := rfl) (hl := rfl) ?_
  exact h
set_option maxRecDepth 20000 in
theorem sg_X5_sharingCorner_4 {d : Nat} {o : Nat} {x1 : Int32} {x2 : Int32} {x3 : Int32} {M : Mem} {K : (Int32 → Mem → Prop)} (ho : kd o = (0, 2)) (h : (if ri M o 4 ≤ x3 then K (x2 &&& (x1 ^^^ ((-1)))) M else (vp_in x3 12 ∧ (if (ri M (o + 2) (nx x3)) &&& x1 = x1 then (vp_in x3 12 ∧ RI d μX5_sharingCorner 4 [(0, .ref o), (1, .int x1), (2, .int (x2 ||| (ri M (o + 2) (nx x3)))), (3, .int (x3 + 1))] [] M K) else RI d μX5_sharingCorner 4 [(0, .ref o), (1, .int x1), (2, .int x2), (3, .int (x3 + 1))] [] M K)))) : RI d μX5_sharingCorner 4 [(0, .ref o), (1, .int x1), (2, .int x2), (3, .int x3)] [] M K := by
  show Rn d μX5_sharingCorner 4 [(0, .ref o), (1, .int x1), (2, .int x2), (3, .int x3)] [] M _
  refine rn_iload_n (i := 3) (x := x3) dX5_sharingCorner_4 rfl (by simp) ?_
  refine rn_aload_n (i := 0) (x := o) dX5_sharingCorner_5 rfl (by simp) ?_
  refine rn_geti dX5_sharingCorner_6 ho gf_X5_72 (by decide) ?_
  refine rn_icmp_ge (tgt := 39) dX5_sharingCorner_9 (by decide) (ite_go h (fun hc h => ?_) (fun hc h => ?_))
  · refine rn_iload_n (i := 2) (x := x2) dX5_sharingCorner_39 rfl (by simp) ?_
    refine rn_iload_n (i := 1) (x := x1) dX5_sharingCorner_40 rfl (by simp) ?_
    refine rn_iconst (v := -1) dX5_sharingCorner_41 rfl ?_
    refine rn_ixor dX5_sharingCorner_42 ?_
    refine rn_iand dX5_sharingCorner_43 ?_
    exact rn_iret dX5_sharingCorner_44 rfl ⟨_, rfl, h⟩
  · refine rn_aload_n (i := 0) (x := o) dX5_sharingCorner_12 rfl (by simp) ?_
    refine rn_getr (t := o + 2) dX5_sharingCorner_13 ho gf_X5_75 rfl (froth_refs _ ho).2.1.1 ?_
    refine rn_iload_n (i := 3) (x := x3) dX5_sharingCorner_16 rfl (by simp) ?_
    obtain ⟨hi, h⟩ := h
    refine rn_iaload dX5_sharingCorner_17 (froth_refs _ ho).2.1.2 hi ?_
    refine rn_iload_n (i := 1) (x := x1) dX5_sharingCorner_18 rfl (by simp) ?_
    refine rn_iand dX5_sharingCorner_19 ?_
    refine rn_iload_n (i := 1) (x := x1) dX5_sharingCorner_20 rfl (by simp) ?_
    refine rn_icmp_ne (tgt := 33) dX5_sharingCorner_21 (by decide) (ite_go h (fun hc h => ?_) (fun hc h => ?_))
    · refine rn_iload_n (i := 2) (x := x2) dX5_sharingCorner_24 rfl (by simp) ?_
      refine rn_aload_n (i := 0) (x := o) dX5_sharingCorner_25 rfl (by simp) ?_
      refine rn_getr (t := o + 2) dX5_sharingCorner_26 ho gf_X5_75 rfl (froth_refs _ ho).2.1.1 ?_
      refine rn_iload_n (i := 3) (x := x3) dX5_sharingCorner_29 rfl (by simp) ?_
      obtain ⟨hi, h⟩ := h
      refine rn_iaload dX5_sharingCorner_30 (froth_refs _ ho).2.1.2 hi ?_
      refine rn_ior dX5_sharingCorner_31 ?_
      refine rn_istore_n (lv' := [(0, .ref o), (1, .int x1), (2, .int (x2 ||| (ri M (o + 2) (nx x3)))), (3, .int x3)]) (hd := dX5_sharingCorner_32) (i := 2) (hi := rfl) (hn := by decide) (hf := rfl) (hl := rfl) ?_
      refine rn_iinc (x := x3) (v := x3 + 1) (lv' := [(0, .ref o), (1, .int x1), (2, .int (x2 ||| (ri M (o + 2) (nx x3)))), (3, .int (x3 + 1))]) dX5_sharingCorner_33 (by simp) rfl (by decide) rfl rfl ?_
      refine rn_goto (tgt := 4) dX5_sharingCorner_36 (by decide) ?_
      exact h
    · refine rn_iinc (x := x3) (v := x3 + 1) (lv' := [(0, .ref o), (1, .int x1), (2, .int x2), (3, .int (x3 + 1))]) dX5_sharingCorner_33 (by simp) rfl (by decide) rfl rfl ?_
      refine rn_goto (tgt := 4) dX5_sharingCorner_36 (by decide) ?_
      exact h
