theorem dX6_putBytes_0 : decode μX6_putBytes.2.1 0 = .ok (.bipush 24, 2) := by decide +kernel
theorem dX6_putBytes_2 : decode μX6_putBytes.2.1 2 = .ok (.istore_n 2, 1) := by decide +kernel
theorem dX6_putBytes_3 : decode μX6_putBytes.2.1 3 = .ok (.iload_n 2, 1) := by decide +kernel
theorem dX6_putBytes_4 : decode μX6_putBytes.2.1 4 = .ok (.ifCond .lt 44, 3) := by decide +kernel
theorem dX6_putBytes_7 : decode μX6_putBytes.2.1 7 = .ok (.aload_n 0, 1) := by decide +kernel
theorem dX6_putBytes_8 : decode μX6_putBytes.2.1 8 = .ok (.getfield 18, 3) := by decide +kernel
theorem dX6_putBytes_11 : decode μX6_putBytes.2.1 11 = .ok (.aload_n 0, 1) := by decide +kernel
theorem dX6_putBytes_12 : decode μX6_putBytes.2.1 12 = .ok (.getfield 28, 3) := by decide +kernel
theorem dX6_putBytes_15 : decode μX6_putBytes.2.1 15 = .ok (.arraylength, 1) := by decide +kernel
theorem dX6_putBytes_16 : decode μX6_putBytes.2.1 16 = .ok (.if_icmp .ge 26, 3) := by decide +kernel
theorem dX6_putBytes_19 : decode μX6_putBytes.2.1 19 = .ok (.aload_n 0, 1) := by decide +kernel
theorem dX6_putBytes_20 : decode μX6_putBytes.2.1 20 = .ok (.getfield 28, 3) := by decide +kernel
theorem dX6_putBytes_23 : decode μX6_putBytes.2.1 23 = .ok (.aload_n 0, 1) := by decide +kernel
theorem dX6_putBytes_24 : decode μX6_putBytes.2.1 24 = .ok (.getfield 18, 3) := by decide +kernel
theorem dX6_putBytes_27 : decode μX6_putBytes.2.1 27 = .ok (.iload_n 1, 1) := by decide +kernel
theorem dX6_putBytes_28 : decode μX6_putBytes.2.1 28 = .ok (.iload_n 2, 1) := by decide +kernel
theorem dX6_putBytes_29 : decode μX6_putBytes.2.1 29 = .ok (.ishr, 1) := by decide +kernel
theorem dX6_putBytes_30 : decode μX6_putBytes.2.1 30 = .ok (.i2b, 1) := by decide +kernel
theorem dX6_putBytes_31 : decode μX6_putBytes.2.1 31 = .ok (.bastore, 1) := by decide +kernel
theorem dX6_putBytes_32 : decode μX6_putBytes.2.1 32 = .ok (.aload_n 0, 1) := by decide +kernel
theorem dX6_putBytes_33 : decode μX6_putBytes.2.1 33 = .ok (.dup, 1) := by decide +kernel
theorem dX6_putBytes_34 : decode μX6_putBytes.2.1 34 = .ok (.getfield 18, 3) := by decide +kernel
theorem dX6_putBytes_37 : decode μX6_putBytes.2.1 37 = .ok (.iconst 1, 1) := by decide +kernel
theorem dX6_putBytes_38 : decode μX6_putBytes.2.1 38 = .ok (.iadd, 1) := by decide +kernel
theorem dX6_putBytes_39 : decode μX6_putBytes.2.1 39 = .ok (.putfield 18, 3) := by decide +kernel
theorem dX6_putBytes_42 : decode μX6_putBytes.2.1 42 = .ok (.iinc 2 (-8), 3) := by decide +kernel
theorem dX6_putBytes_45 : decode μX6_putBytes.2.1 45 = .ok (.goto (-42), 3) := by decide +kernel
theorem dX6_putBytes_48 : decode μX6_putBytes.2.1 48 = .ok (.return_, 1) := by decide +kernel
set_option maxRecDepth 20000 in
theorem sg_X6_putBytes_0 {d : Nat} {x1 : Int32} {M : Mem} {K : (Mem → Prop)}  (h : RV d μX6_putBytes 3 [(0, .ref 1), (1, .int x1), (2, .int 24)] [] M K) : CV d μX6_putBytes [.ref 1, .int x1] M K := by
  show Rn d μX6_putBytes 0 [(0, .ref 1), (1, .int x1)] [] M _
  refine rn_bipush (v := 24) dX6_putBytes_0 rfl ?_
  refine rn_istore_n (lv' := [(0, .ref 1), (1, .int x1), (2, .int 24)]) (hd := dX6_putBytes_2) (i := 2) (hi := rfl) (hn := by decide) (hf := rfl) (hl := rfl) ?_
  exact h
set_option maxRecDepth 20000 in
theorem sg_X6_putBytes_3 {d : Nat} {x1 : Int32} {x2 : Int32} {M : Mem} {K : (Mem → Prop)}  (h : (if x2 < 0 then K M else (if Int32.ofNat 1600 ≤ ri M 1 2 then RV d μX6_putBytes 3 [(0, .ref 1), (1, .int x1), (2, .int (x2 + (-8)))] [] M K else (vp_in (ri M 1 2) 1600 ∧ ∀ M1, M1 = wi M 14 (nx (ri M 1 2)) (vp_nar .byte ((x1 >>> (x2 &&& 31)).toInt8.toInt32)) → (∀ M2, M2 = wi M1 1 2 ((ri M1 1 2) + 1) → RV d μX6_putBytes 3 [(0, .ref 1), (1, .int x1), (2, .int (x2 + (-8)))] [] M2 K))))) : RV d μX6_putBytes 3 [(0, .ref 1), (1, .int x1), (2, .int x2)] [] M K := by
  show Rn d μX6_putBytes 3 [(0, .ref 1), (1, .int x1), (2, .int x2)] [] M _
  refine rn_iload_n (i := 2) (x := x2) dX6_putBytes_3 rfl (by simp) ?_
  refine rn_if_lt (tgt := 48) dX6_putBytes_4 (by decide) (ite_go h (fun hc h => ?_) (fun hc h => ?_))
  · exact rn_ret dX6_putBytes_48 rfl ⟨rfl, h⟩
  · refine rn_aload_n (i := 0) (x := 1) dX6_putBytes_7 rfl (by simp) ?_
    refine rn_geti dX6_putBytes_8 rfl gf_X6_18 (by decide) ?_
    refine rn_aload_n (i := 0) (x := 1) dX6_putBytes_11 rfl (by simp) ?_
    refine rn_getr (t := 14) dX6_putBytes_12 rfl gf_X6_28 rfl rfl ?_
    refine rn_alen_b (v := Int32.ofNat 1600) dX6_putBytes_15 rfl rfl ?_
    refine rn_icmp_ge (tgt := 42) dX6_putBytes_16 (by decide) (ite_go h (fun hc h => ?_) (fun hc h => ?_))
    · refine rn_iinc (x := x2) (v := x2 + (-8)) (lv' := [(0, .ref 1), (1, .int x1), (2, .int (x2 + (-8)))]) dX6_putBytes_42 (by simp) rfl (by decide) rfl rfl ?_
      refine rn_goto (tgt := 3) dX6_putBytes_45 (by decide) ?_
      exact h
    · refine rn_aload_n (i := 0) (x := 1) dX6_putBytes_19 rfl (by simp) ?_
      refine rn_getr (t := 14) dX6_putBytes_20 rfl gf_X6_28 rfl rfl ?_
      refine rn_aload_n (i := 0) (x := 1) dX6_putBytes_23 rfl (by simp) ?_
      refine rn_geti dX6_putBytes_24 rfl gf_X6_18 (by decide) ?_
      refine rn_iload_n (i := 1) (x := x1) dX6_putBytes_27 rfl (by simp) ?_
      refine rn_iload_n (i := 2) (x := x2) dX6_putBytes_28 rfl (by simp) ?_
      refine rn_ishr dX6_putBytes_29 ?_
      refine rn_i2b dX6_putBytes_30 ?_
      obtain ⟨hi, h⟩ := h
      have h := h _ rfl
      refine rn_bastore dX6_putBytes_31 rfl hi ?_
      generalize wi M 14 (nx (ri M 1 2)) (vp_nar .byte ((x1 >>> (x2 &&& 31)).toInt8.toInt32)) = M1 at h ⊢
      refine rn_aload_n (i := 0) (x := 1) dX6_putBytes_32 rfl (by simp) ?_
      refine rn_dup dX6_putBytes_33 rfl ?_
      refine rn_geti dX6_putBytes_34 rfl gf_X6_18 (by decide) ?_
      refine rn_iconst (v := 1) dX6_putBytes_37 rfl ?_
      refine rn_iadd dX6_putBytes_38 ?_
      have h := h _ rfl
      refine rn_puti dX6_putBytes_39 rfl pf_X6_18 (by decide) rfl rfl ?_
      generalize wi M1 1 2 ((ri M1 1 2) + 1) = M2 at h ⊢
      refine rn_iinc (x := x2) (v := x2 + (-8)) (lv' := [(0, .ref 1), (1, .int x1), (2, .int (x2 + (-8)))]) dX6_putBytes_42 (by simp) rfl (by decide) rfl rfl ?_
      refine rn_goto (tgt := 3) dX6_putBytes_45 (by decide) ?_
      exact h
theorem dX6_read_0 : decode μX6_read.2.1 0 = .ok (.aload_n 0, 1) := by decide +kernel
theorem dX6_read_1 : decode μX6_read.2.1 1 = .ok (.getfield 24, 3) := by decide +kernel
theorem dX6_read_4 : decode μX6_read.2.1 4 = .ok (.invokevirtual 54, 3) := by decide +kernel
theorem dX6_read_7 : decode μX6_read.2.1 7 = .ok (.aload_n 0, 1) := by decide +kernel
theorem dX6_read_8 : decode μX6_read.2.1 8 = .ok (.iconst 0, 1) := by decide +kernel
theorem dX6_read_9 : decode μX6_read.2.1 9 = .ok (.putfield 9, 3) := by decide +kernel
theorem dX6_read_12 : decode μX6_read.2.1 12 = .ok (.aload_n 0, 1) := by decide +kernel
theorem dX6_read_13 : decode μX6_read.2.1 13 = .ok (.iconst (-1), 1) := by decide +kernel
theorem dX6_read_14 : decode μX6_read.2.1 14 = .ok (.putfield 15, 3) := by decide +kernel
theorem dX6_read_17 : decode μX6_read.2.1 17 = .ok (.aload_n 0, 1) := by decide +kernel
theorem dX6_read_18 : decode μX6_read.2.1 18 = .ok (.iconst 0, 1) := by decide +kernel
theorem dX6_read_19 : decode μX6_read.2.1 19 = .ok (.putfield 32, 3) := by decide +kernel
theorem dX6_read_22 : decode μX6_read.2.1 22 = .ok (.aload_n 0, 1) := by decide +kernel
theorem dX6_read_23 : decode μX6_read.2.1 23 = .ok (.invokevirtual 57, 3) := by decide +kernel
theorem dX6_read_26 : decode μX6_read.2.1 26 = .ok (.iconst 0, 1) := by decide +kernel
theorem dX6_read_27 : decode μX6_read.2.1 27 = .ok (.istore_n 1, 1) := by decide +kernel
theorem dX6_read_28 : decode μX6_read.2.1 28 = .ok (.iload_n 1, 1) := by decide +kernel
theorem dX6_read_29 : decode μX6_read.2.1 29 = .ok (.sipush 1600, 3) := by decide +kernel
theorem dX6_read_32 : decode μX6_read.2.1 32 = .ok (.if_icmp .gt 107, 3) := by decide +kernel
theorem dX6_read_35 : decode μX6_read.2.1 35 = .ok (.aload_n 0, 1) := by decide +kernel
theorem dX6_read_36 : decode μX6_read.2.1 36 = .ok (.getfield 9, 3) := by decide +kernel
theorem dX6_read_39 : decode μX6_read.2.1 39 = .ok (.ifCond .ne 100, 3) := by decide +kernel
theorem dX6_read_42 : decode μX6_read.2.1 42 = .ok (.aload_n 0, 1) := by decide +kernel
theorem dX6_read_43 : decode μX6_read.2.1 43 = .ok (.getfield 38, 3) := by decide +kernel
theorem dX6_read_46 : decode μX6_read.2.1 46 = .ok (.aload_n 0, 1) := by decide +kernel
theorem dX6_read_47 : decode μX6_read.2.1 47 = .ok (.getfield 18, 3) := by decide +kernel
theorem dX6_read_50 : decode μX6_read.2.1 50 = .ok (.if_icmp .ge 89, 3) := by decide +kernel
theorem dX6_read_53 : decode μX6_read.2.1 53 = .ok (.aload_n 0, 1) := by decide +kernel
theorem dX6_read_54 : decode μX6_read.2.1 54 = .ok (.iconst 0, 1) := by decide +kernel
theorem dX6_read_55 : decode μX6_read.2.1 55 = .ok (.invokevirtual 60, 3) := by decide +kernel
theorem dX6_read_58 : decode μX6_read.2.1 58 = .ok (.ifCond .eq 10, 3) := by decide +kernel
theorem dX6_read_61 : decode μX6_read.2.1 61 = .ok (.aload_n 0, 1) := by decide +kernel
theorem dX6_read_62 : decode μX6_read.2.1 62 = .ok (.invokevirtual 64, 3) := by decide +kernel
theorem dX6_read_65 : decode μX6_read.2.1 65 = .ok (.goto 68, 3) := by decide +kernel
theorem dX6_read_68 : decode μX6_read.2.1 68 = .ok (.aload_n 0, 1) := by decide +kernel
theorem dX6_read_69 : decode μX6_read.2.1 69 = .ok (.iconst 1, 1) := by decide +kernel
theorem dX6_read_70 : decode μX6_read.2.1 70 = .ok (.invokevirtual 60, 3) := by decide +kernel
theorem dX6_read_73 : decode μX6_read.2.1 73 = .ok (.ifCond .eq 10, 3) := by decide +kernel
theorem dX6_read_76 : decode μX6_read.2.1 76 = .ok (.aload_n 0, 1) := by decide +kernel
theorem dX6_read_77 : decode μX6_read.2.1 77 = .ok (.invokevirtual 67, 3) := by decide +kernel
theorem dX6_read_80 : decode μX6_read.2.1 80 = .ok (.goto 53, 3) := by decide +kernel
theorem dX6_read_83 : decode μX6_read.2.1 83 = .ok (.aload_n 0, 1) := by decide +kernel
theorem dX6_read_84 : decode μX6_read.2.1 84 = .ok (.iconst 2, 1) := by decide +kernel
theorem dX6_read_85 : decode μX6_read.2.1 85 = .ok (.invokevirtual 60, 3) := by decide +kernel
theorem dX6_read_88 : decode μX6_read.2.1 88 = .ok (.ifCond .eq 10, 3) := by decide +kernel
theorem dX6_read_91 : decode μX6_read.2.1 91 = .ok (.aload_n 0, 1) := by decide +kernel
theorem dX6_read_92 : decode μX6_read.2.1 92 = .ok (.invokevirtual 70, 3) := by decide +kernel
theorem dX6_read_95 : decode μX6_read.2.1 95 = .ok (.goto 38, 3) := by decide +kernel
theorem dX6_read_98 : decode μX6_read.2.1 98 = .ok (.aload_n 0, 1) := by decide +kernel
theorem dX6_read_99 : decode μX6_read.2.1 99 = .ok (.iconst 3, 1) := by decide +kernel
theorem dX6_read_100 : decode μX6_read.2.1 100 = .ok (.invokevirtual 60, 3) := by decide +kernel
theorem dX6_read_103 : decode μX6_read.2.1 103 = .ok (.ifCond .eq 10, 3) := by decide +kernel
theorem dX6_read_106 : decode μX6_read.2.1 106 = .ok (.aload_n 0, 1) := by decide +kernel
theorem dX6_read_107 : decode μX6_read.2.1 107 = .ok (.invokevirtual 73, 3) := by decide +kernel
theorem dX6_read_110 : decode μX6_read.2.1 110 = .ok (.goto 23, 3) := by decide +kernel
theorem dX6_read_113 : decode μX6_read.2.1 113 = .ok (.aload_n 0, 1) := by decide +kernel
theorem dX6_read_114 : decode μX6_read.2.1 114 = .ok (.iconst 4, 1) := by decide +kernel
theorem dX6_read_115 : decode μX6_read.2.1 115 = .ok (.invokevirtual 60, 3) := by decide +kernel
theorem dX6_read_118 : decode μX6_read.2.1 118 = .ok (.ifCond .eq 10, 3) := by decide +kernel
theorem dX6_read_121 : decode μX6_read.2.1 121 = .ok (.aload_n 0, 1) := by decide +kernel
theorem dX6_read_122 : decode μX6_read.2.1 122 = .ok (.invokevirtual 76, 3) := by decide +kernel
theorem dX6_read_125 : decode μX6_read.2.1 125 = .ok (.goto 8, 3) := by decide +kernel
theorem dX6_read_128 : decode μX6_read.2.1 128 = .ok (.aload_n 0, 1) := by decide +kernel
theorem dX6_read_129 : decode μX6_read.2.1 129 = .ok (.iconst 2, 1) := by decide +kernel
theorem dX6_read_130 : decode μX6_read.2.1 130 = .ok (.invokevirtual 79, 3) := by decide +kernel
theorem dX6_read_133 : decode μX6_read.2.1 133 = .ok (.iinc 1 1, 3) := by decide +kernel
theorem dX6_read_136 : decode μX6_read.2.1 136 = .ok (.goto (-108), 3) := by decide +kernel
theorem dX6_read_139 : decode μX6_read.2.1 139 = .ok (.return_, 1) := by decide +kernel
set_option maxRecDepth 20000 in
theorem sg_X6_read_0 {d : Nat}  {M : Mem} {K : (Mem → Prop)}  (h : (∃ t1, nx (ri M 1 3) = t1 ∧ kd t1 = (0, 7) ∧ (CV d μX7_empty [.ref t1] M (fun M2 => (∀ M3, M3 = wi M2 1 0 0 → (∀ M4, M4 = wi M3 1 1 ((-1)) → (∀ M5, M5 = wi M4 1 5 0 → (CV d μX6_advance [.ref 1] M5 (fun M6 => RV (d + 1) μX6_read 28 [(0, .ref 1), (1, .int 0)] [] M6 K))))))))) : CV (d + 1) μX6_read [.ref 1] M K := by
  show Rn (d + 1) μX6_read 0 [(0, .ref 1)] [] M _
  refine rn_aload_n (i := 0) (x := 1) dX6_read_0 rfl (by simp) ?_
  obtain ⟨t1, ht1e, ht1, h⟩ := h
  refine rn_getd dX6_read_1 rfl gf_X6_24 rfl ht1e ?_
  refine rn_callVv (as := []) (st := []) dX6_read_4 mf_X7_empty lk_X6_54 im_X7_empty ht1 rfl rfl rfl (Nat.le_of_ble_eq_true rfl) (Nat.le_of_ble_eq_true rfl) rfl (RV.mono h (fun M2 h => ?_))
  refine rn_aload_n (i := 0) (x := 1) dX6_read_7 rfl (by simp) ?_
  refine rn_iconst (v := 0) dX6_read_8 rfl ?_
  have h := h _ rfl
  refine rn_puti dX6_read_9 rfl pf_X6_9 (by decide) rfl rfl ?_
  generalize wi M2 1 0 0 = M3 at h ⊢
  refine rn_aload_n (i := 0) (x := 1) dX6_read_12 rfl (by simp) ?_
  refine rn_iconst (v := -1) dX6_read_13 rfl ?_
  have h := h _ rfl
  refine rn_puti dX6_read_14 rfl pf_X6_15 (by decide) rfl rfl ?_
  generalize wi M3 1 1 ((-1)) = M4 at h ⊢
  refine rn_aload_n (i := 0) (x := 1) dX6_read_17 rfl (by simp) ?_
  refine rn_iconst (v := 0) dX6_read_18 rfl ?_
  have h := h _ rfl
  refine rn_puti dX6_read_19 rfl pf_X6_32 (by decide) rfl rfl ?_
  generalize wi M4 1 5 0 = M5 at h ⊢
  refine rn_aload_n (i := 0) (x := 1) dX6_read_22 rfl (by simp) ?_
  refine rn_callVv (as := []) (st := []) dX6_read_23 mf_X6_advance lk_X6_57 im_X6_advance rfl rfl rfl rfl (Nat.le_of_ble_eq_true rfl) (Nat.le_of_ble_eq_true rfl) rfl (RV.mono h (fun M6 h => ?_))
  refine rn_iconst (v := 0) dX6_read_26 rfl ?_
  refine rn_istore_n (lv' := [(0, .ref 1), (1, .int 0)]) (hd := dX6_read_27) (i := 1) (hi := rfl) (hn := by decide) (hf := rfl) (hl := rfl) ?_
  exact h
set_option maxRecDepth 20000 in
theorem sg_X6_read_28 {d : Nat} {x1 : Int32} {M : Mem} {K : (Mem → Prop)}  (h : (if 1600 < x1 then K M else (if ri M 1 0 = 0 then (if ri M 1 2 ≤ ri M 1 7 then K M else (CI d μX6_isWord [.ref 1, .int 0] M (fun r2 M1 => (if r2 = 0 then (CI d μX6_isWord [.ref 1, .int 1] M1 (fun r4 M3 => (if r4 = 0 then (CI d μX6_isWord [.ref 1, .int 2] M3 (fun r6 M5 => (if r6 = 0 then (CI d μX6_isWord [.ref 1, .int 3] M5 (fun r8 M7 => (if r8 = 0 then (CI d μX6_isWord [.ref 1, .int 4] M7 (fun r10 M9 => (if r10 = 0 then (CV d μX6_blame [.ref 1, .int 2] M9 (fun M11 => RV (d + 1) μX6_read 28 [(0, .ref 1), (1, .int (x1 + 1))] [] M11 K)) else (CV d μX6_readDraw [.ref 1] M9 (fun M12 => RV (d + 1) μX6_read 28 [(0, .ref 1), (1, .int (x1 + 1))] [] M12 K))))) else (CV d μX6_readStraw [.ref 1] M7 (fun M13 => RV (d + 1) μX6_read 28 [(0, .ref 1), (1, .int (x1 + 1))] [] M13 K))))) else (CV d μX6_readGrows [.ref 1] M5 (fun M14 => RV (d + 1) μX6_read 28 [(0, .ref 1), (1, .int (x1 + 1))] [] M14 K))))) else (CV d μX6_readFlip [.ref 1] M3 (fun M15 => RV (d + 1) μX6_read 28 [(0, .ref 1), (1, .int (x1 + 1))] [] M15 K))))) else (CV d μX6_readLord [.ref 1] M1 (fun M16 => RV (d + 1) μX6_read 28 [(0, .ref 1), (1, .int (x1 + 1))] [] M16 K)))))) else K M))) : RV (d + 1) μX6_read 28 [(0, .ref 1), (1, .int x1)] [] M K := by
  show Rn (d + 1) μX6_read 28 [(0, .ref 1), (1, .int x1)] [] M _
  refine rn_iload_n (i := 1) (x := x1) dX6_read_28 rfl (by simp) ?_
  refine rn_sipush (v := 1600) dX6_read_29 rfl ?_
  refine rn_icmp_gt (tgt := 139) dX6_read_32 (by decide) (ite_go h (fun hc h => ?_) (fun hc h => ?_))
  · exact rn_ret dX6_read_139 rfl ⟨rfl, h⟩
  · refine rn_aload_n (i := 0) (x := 1) dX6_read_35 rfl (by simp) ?_
    refine rn_geti dX6_read_36 rfl gf_X6_9 (by decide) ?_
    refine rn_if_ne (tgt := 139) dX6_read_39 (by decide) (ite_go h (fun hc h => ?_) (fun hc h => ?_))
    · refine rn_aload_n (i := 0) (x := 1) dX6_read_42 rfl (by simp) ?_
      refine rn_geti dX6_read_43 rfl gf_X6_38 (by decide) ?_
      refine rn_aload_n (i := 0) (x := 1) dX6_read_46 rfl (by simp) ?_
      refine rn_geti dX6_read_47 rfl gf_X6_18 (by decide) ?_
      refine rn_icmp_ge (tgt := 139) dX6_read_50 (by decide) (ite_go h (fun hc h => ?_) (fun hc h => ?_))
      · exact rn_ret dX6_read_139 rfl ⟨rfl, h⟩
      · refine rn_aload_n (i := 0) (x := 1) dX6_read_53 rfl (by simp) ?_
        refine rn_iconst (v := 0) dX6_read_54 rfl ?_
        refine rn_callVi (as := [.int 0]) (st := []) dX6_read_55 mf_X6_isWord lk_X6_60 im_X6_isWord rfl rfl rfl rfl (Nat.le_of_ble_eq_true rfl) (Nat.le_of_ble_eq_true rfl) rfl (RI.mono h (fun r2 M1 h => ?_))
        refine rn_if_eq (tgt := 68) dX6_read_58 (by decide) (ite_go h (fun hc h => ?_) (fun hc h => ?_))
        · refine rn_aload_n (i := 0) (x := 1) dX6_read_68 rfl (by simp) ?_
          refine rn_iconst (v := 1) dX6_read_69 rfl ?_
          refine rn_callVi (as := [.int 1]) (st := []) dX6_read_70 mf_X6_isWord lk_X6_60 im_X6_isWord rfl rfl rfl rfl (Nat.le_of_ble_eq_true rfl) (Nat.le_of_ble_eq_true rfl) rfl (RI.mono h (fun r4 M3 h => ?_))
          refine rn_if_eq (tgt := 83) dX6_read_73 (by decide) (ite_go h (fun hc h => ?_) (fun hc h => ?_))
          · refine rn_aload_n (i := 0) (x := 1) dX6_read_83 rfl (by simp) ?_
            refine rn_iconst (v := 2) dX6_read_84 rfl ?_
            refine rn_callVi (as := [.int 2]) (st := []) dX6_read_85 mf_X6_isWord lk_X6_60 im_X6_isWord rfl rfl rfl rfl (Nat.le_of_ble_eq_true rfl) (Nat.le_of_ble_eq_true rfl) rfl (RI.mono h (fun r6 M5 h => ?_))
            refine rn_if_eq (tgt := 98) dX6_read_88 (by decide) (ite_go h (fun hc h => ?_) (fun hc h => ?_))
            · refine rn_aload_n (i := 0) (x := 1) dX6_read_98 rfl (by simp) ?_
              refine rn_iconst (v := 3) dX6_read_99 rfl ?_
              refine rn_callVi (as := [.int 3]) (st := []) dX6_read_100 mf_X6_isWord lk_X6_60 im_X6_isWord rfl rfl rfl rfl (Nat.le_of_ble_eq_true rfl) (Nat.le_of_ble_eq_true rfl) rfl (RI.mono h (fun r8 M7 h => ?_))
              refine rn_if_eq (tgt := 113) dX6_read_103 (by decide) (ite_go h (fun hc h => ?_) (fun hc h => ?_))
              · refine rn_aload_n (i := 0) (x := 1) dX6_read_113 rfl (by simp) ?_
                refine rn_iconst (v := 4) dX6_read_114 rfl ?_
                refine rn_callVi (as := [.int 4]) (st := []) dX6_read_115 mf_X6_isWord lk_X6_60 im_X6_isWord rfl rfl rfl rfl (Nat.le_of_ble_eq_true rfl) (Nat.le_of_ble_eq_true rfl) rfl (RI.mono h (fun r10 M9 h => ?_))
                refine rn_if_eq (tgt := 128) dX6_read_118 (by decide) (ite_go h (fun hc h => ?_) (fun hc h => ?_))
                · refine rn_aload_n (i := 0) (x := 1) dX6_read_128 rfl (by simp) ?_
                  refine rn_iconst (v := 2) dX6_read_129 rfl ?_
                  refine rn_callVv (as := [.int 2]) (st := []) dX6_read_130 mf_X6_blame lk_X6_79 im_X6_blame rfl rfl rfl rfl (Nat.le_of_ble_eq_true rfl) (Nat.le_of_ble_eq_true rfl) rfl (RV.mono h (fun M11 h => ?_))
                  refine rn_iinc (x := x1) (v := x1 + 1) (lv' := [(0, .ref 1), (1, .int (x1 + 1))]) dX6_read_133 (by simp) rfl (by decide) rfl rfl ?_
                  refine rn_goto (tgt := 28) dX6_read_136 (by decide) ?_
                  exact h
                · refine rn_aload_n (i := 0) (x := 1) dX6_read_121 rfl (by simp) ?_
                  refine rn_callVv (as := []) (st := []) dX6_read_122 mf_X6_readDraw lk_X6_76 im_X6_readDraw rfl rfl rfl rfl (Nat.le_of_ble_eq_true rfl) (Nat.le_of_ble_eq_true rfl) rfl (RV.mono h (fun M12 h => ?_))
                  refine rn_goto (tgt := 133) dX6_read_125 (by decide) ?_
                  refine rn_iinc (x := x1) (v := x1 + 1) (lv' := [(0, .ref 1), (1, .int (x1 + 1))]) dX6_read_133 (by simp) rfl (by decide) rfl rfl ?_
                  refine rn_goto (tgt := 28) dX6_read_136 (by decide) ?_
                  exact h
              · refine rn_aload_n (i := 0) (x := 1) dX6_read_106 rfl (by simp) ?_
                refine rn_callVv (as := []) (st := []) dX6_read_107 mf_X6_readStraw lk_X6_73 im_X6_readStraw rfl rfl rfl rfl (Nat.le_of_ble_eq_true rfl) (Nat.le_of_ble_eq_true rfl) rfl (RV.mono h (fun M13 h => ?_))
                refine rn_goto (tgt := 133) dX6_read_110 (by decide) ?_
                refine rn_iinc (x := x1) (v := x1 + 1) (lv' := [(0, .ref 1), (1, .int (x1 + 1))]) dX6_read_133 (by simp) rfl (by decide) rfl rfl ?_
                refine rn_goto (tgt := 28) dX6_read_136 (by decide) ?_
                exact h
            · refine rn_aload_n (i := 0) (x := 1) dX6_read_91 rfl (by simp) ?_
              refine rn_callVv (as := []) (st := []) dX6_read_92 mf_X6_readGrows lk_X6_70 im_X6_readGrows rfl rfl rfl rfl (Nat.le_of_ble_eq_true rfl) (Nat.le_of_ble_eq_true rfl) rfl (RV.mono h (fun M14 h => ?_))
              refine rn_goto (tgt := 133) dX6_read_95 (by decide) ?_
              refine rn_iinc (x := x1) (v := x1 + 1) (lv' := [(0, .ref 1), (1, .int (x1 + 1))]) dX6_read_133 (by simp) rfl (by decide) rfl rfl ?_
              refine rn_goto (tgt := 28) dX6_read_136 (by decide) ?_
              exact h
          · refine rn_aload_n (i := 0) (x := 1) dX6_read_76 rfl (by simp) ?_
            refine rn_callVv (as := []) (st := []) dX6_read_77 mf_X6_readFlip lk_X6_67 im_X6_readFlip rfl rfl rfl rfl (Nat.le_of_ble_eq_true rfl) (Nat.le_of_ble_eq_true rfl) rfl (RV.mono h (fun M15 h => ?_))
            refine rn_goto (tgt := 133) dX6_read_80 (by decide) ?_
            refine rn_iinc (x := x1) (v := x1 + 1) (lv' := [(0, .ref 1), (1, .int (x1 + 1))]) dX6_read_133 (by simp) rfl (by decide) rfl rfl ?_
            refine rn_goto (tgt := 28) dX6_read_136 (by decide) ?_
            exact h
        · refine rn_aload_n (i := 0) (x := 1) dX6_read_61 rfl (by simp) ?_
          refine rn_callVv (as := []) (st := []) dX6_read_62 mf_X6_readLord lk_X6_64 im_X6_readLord rfl rfl rfl rfl (Nat.le_of_ble_eq_true rfl) (Nat.le_of_ble_eq_true rfl) rfl (RV.mono h (fun M16 h => ?_))
          refine rn_goto (tgt := 133) dX6_read_65 (by decide) ?_
          refine rn_iinc (x := x1) (v := x1 + 1) (lv' := [(0, .ref 1), (1, .int (x1 + 1))]) dX6_read_133 (by simp) rfl (by decide) rfl rfl ?_
          refine rn_goto (tgt := 28) dX6_read_136 (by decide) ?_
          exact h
    · exact rn_ret dX6_read_139 rfl ⟨rfl, h⟩
theorem dX6_blame_0 : decode μX6_blame.2.1 0 = .ok (.aload_n 0, 1) := by decide +kernel
theorem dX6_blame_1 : decode μX6_blame.2.1 1 = .ok (.getfield 9, 3) := by decide +kernel
theorem dX6_blame_4 : decode μX6_blame.2.1 4 = .ok (.ifCond .ne 16, 3) := by decide +kernel
theorem dX6_blame_7 : decode μX6_blame.2.1 7 = .ok (.aload_n 0, 1) := by decide +kernel
theorem dX6_blame_8 : decode μX6_blame.2.1 8 = .ok (.iload_n 1, 1) := by decide +kernel
theorem dX6_blame_9 : decode μX6_blame.2.1 9 = .ok (.putfield 9, 3) := by decide +kernel
theorem dX6_blame_12 : decode μX6_blame.2.1 12 = .ok (.aload_n 0, 1) := by decide +kernel
theorem dX6_blame_13 : decode μX6_blame.2.1 13 = .ok (.aload_n 0, 1) := by decide +kernel
theorem dX6_blame_14 : decode μX6_blame.2.1 14 = .ok (.getfield 38, 3) := by decide +kernel
theorem dX6_blame_17 : decode μX6_blame.2.1 17 = .ok (.putfield 15, 3) := by decide +kernel
theorem dX6_blame_20 : decode μX6_blame.2.1 20 = .ok (.aload_n 0, 1) := by decide +kernel
theorem dX6_blame_21 : decode μX6_blame.2.1 21 = .ok (.iconst 0, 1) := by decide +kernel
theorem dX6_blame_22 : decode μX6_blame.2.1 22 = .ok (.putfield 35, 3) := by decide +kernel
theorem dX6_blame_25 : decode μX6_blame.2.1 25 = .ok (.return_, 1) := by decide +kernel
set_option maxRecDepth 20000 in
theorem sg_X6_blame_0 {d : Nat} {x1 : Int32} {M : Mem} {K : (Mem → Prop)}  (h : (if ri M 1 0 = 0 then (∀ M1, M1 = wi M 1 0 x1 → (∀ M2, M2 = wi M1 1 1 (ri M1 1 7) → (∀ M3, M3 = wi M2 1 6 0 → K M3))) else (∀ M4, M4 = wi M 1 6 0 → K M4))) : CV d μX6_blame [.ref 1, .int x1] M K := by
  show Rn d μX6_blame 0 [(0, .ref 1), (1, .int x1)] [] M _
  refine rn_aload_n (i := 0) (x := 1) dX6_blame_0 rfl (by simp) ?_
  refine rn_geti dX6_blame_1 rfl gf_X6_9 (by decide) ?_
  refine rn_if_ne (tgt := 20) dX6_blame_4 (by decide) (ite_go h (fun hc h => ?_) (fun hc h => ?_))
  · refine rn_aload_n (i := 0) (x := 1) dX6_blame_7 rfl (by simp) ?_
    refine rn_iload_n (i := 1) (x := x1) dX6_blame_8 rfl (by simp) ?_
    have h := h _ rfl
    refine rn_puti dX6_blame_9 rfl pf_X6_9 (by decide) rfl rfl ?_
    generalize wi M 1 0 x1 = M1 at h ⊢
    refine rn_aload_n (i := 0) (x := 1) dX6_blame_12 rfl (by simp) ?_
    refine rn_aload_n (i := 0) (x := 1) dX6_blame_13 rfl (by simp) ?_
    refine rn_geti dX6_blame_14 rfl gf_X6_38 (by decide) ?_
    have h := h _ rfl
    refine rn_puti dX6_blame_17 rfl pf_X6_15 (by decide) rfl rfl ?_
    generalize wi M1 1 1 (ri M1 1 7) = M2 at h ⊢
    refine rn_aload_n (i := 0) (x := 1) dX6_blame_20 rfl (by simp) ?_
    refine rn_iconst (v := 0) dX6_blame_21 rfl ?_
    have h := h _ rfl
    refine rn_puti dX6_blame_22 rfl pf_X6_35 (by decide) rfl rfl ?_
    generalize wi M2 1 6 0 = M3 at h ⊢
    exact rn_ret dX6_blame_25 rfl ⟨rfl, h⟩
  · refine rn_aload_n (i := 0) (x := 1) dX6_blame_20 rfl (by simp) ?_
    refine rn_iconst (v := 0) dX6_blame_21 rfl ?_
    have h := h _ rfl
    refine rn_puti dX6_blame_22 rfl pf_X6_35 (by decide) rfl rfl ?_
    generalize wi M 1 6 0 = M4 at h ⊢
    exact rn_ret dX6_blame_25 rfl ⟨rfl, h⟩
theorem dX6_isLetter_0 : decode μX6_isLetter.2.1 0 = .ok (.iload_n 1, 1) := by decide +kernel
theorem dX6_isLetter_1 : decode μX6_isLetter.2.1 1 = .ok (.aload_n 0, 1) := by decide +kernel
theorem dX6_isLetter_2 : decode μX6_isLetter.2.1 2 = .ok (.getfield 18, 3) := by decide +kernel
theorem dX6_isLetter_5 : decode μX6_isLetter.2.1 5 = .ok (.if_icmp .ge 29, 3) := by decide +kernel
theorem dX6_isLetter_8 : decode μX6_isLetter.2.1 8 = .ok (.aload_n 0, 1) := by decide +kernel
theorem dX6_isLetter_9 : decode μX6_isLetter.2.1 9 = .ok (.getfield 28, 3) := by decide +kernel
theorem dX6_isLetter_12 : decode μX6_isLetter.2.1 12 = .ok (.iload_n 1, 1) := by decide +kernel
theorem dX6_isLetter_13 : decode μX6_isLetter.2.1 13 = .ok (.baload, 1) := by decide +kernel
theorem dX6_isLetter_14 : decode μX6_isLetter.2.1 14 = .ok (.bipush 97, 2) := by decide +kernel
theorem dX6_isLetter_16 : decode μX6_isLetter.2.1 16 = .ok (.if_icmp .lt 18, 3) := by decide +kernel
theorem dX6_isLetter_19 : decode μX6_isLetter.2.1 19 = .ok (.aload_n 0, 1) := by decide +kernel
theorem dX6_isLetter_20 : decode μX6_isLetter.2.1 20 = .ok (.getfield 28, 3) := by decide +kernel
theorem dX6_isLetter_23 : decode μX6_isLetter.2.1 23 = .ok (.iload_n 1, 1) := by decide +kernel
theorem dX6_isLetter_24 : decode μX6_isLetter.2.1 24 = .ok (.baload, 1) := by decide +kernel
theorem dX6_isLetter_25 : decode μX6_isLetter.2.1 25 = .ok (.bipush 122, 2) := by decide +kernel
theorem dX6_isLetter_27 : decode μX6_isLetter.2.1 27 = .ok (.if_icmp .gt 7, 3) := by decide +kernel
theorem dX6_isLetter_30 : decode μX6_isLetter.2.1 30 = .ok (.iconst 1, 1) := by decide +kernel
theorem dX6_isLetter_31 : decode μX6_isLetter.2.1 31 = .ok (.goto 4, 3) := by decide +kernel
theorem dX6_isLetter_34 : decode μX6_isLetter.2.1 34 = .ok (.iconst 0, 1) := by decide +kernel
theorem dX6_isLetter_35 : decode μX6_isLetter.2.1 35 = .ok (.ireturn, 1) := by decide +kernel
set_option maxRecDepth 20000 in
theorem sg_X6_isLetter_0 {d : Nat} {x1 : Int32} {M : Mem} {K : (Int32 → Mem → Prop)}  (h : (if ri M 1 2 ≤ x1 then K 0 M else (vp_in x1 1600 ∧ (if ri M 14 (nx x1) < 97 then K 0 M else (vp_in x1 1600 ∧ (if 122 < ri M 14 (nx x1) then K 0 M else K 1 M)))))) : CI d μX6_isLetter [.ref 1, .int x1] M K := by
  show Rn d μX6_isLetter 0 [(0, .ref 1), (1, .int x1)] [] M _
  refine rn_iload_n (i := 1) (x := x1) dX6_isLetter_0 rfl (by simp) ?_
  refine rn_aload_n (i := 0) (x := 1) dX6_isLetter_1 rfl (by simp) ?_
  refine rn_geti dX6_isLetter_2 rfl gf_X6_18 (by decide) ?_
  refine rn_icmp_ge (tgt := 34) dX6_isLetter_5 (by decide) (ite_go h (fun hc h => ?_) (fun hc h => ?_))
  · refine rn_iconst (v := 0) dX6_isLetter_34 rfl ?_
    exact rn_zret dX6_isLetter_35 rfl (by decide) ⟨_, rfl, h⟩
  · refine rn_aload_n (i := 0) (x := 1) dX6_isLetter_8 rfl (by simp) ?_
    refine rn_getr (t := 14) dX6_isLetter_9 rfl gf_X6_28 rfl rfl ?_
    refine rn_iload_n (i := 1) (x := x1) dX6_isLetter_12 rfl (by simp) ?_
    obtain ⟨hi, h⟩ := h
    refine rn_baload dX6_isLetter_13 rfl hi ?_
    refine rn_bipush (v := 97) dX6_isLetter_14 rfl ?_
    refine rn_icmp_lt (tgt := 34) dX6_isLetter_16 (by decide) (ite_go h (fun hc h => ?_) (fun hc h => ?_))
    · refine rn_iconst (v := 0) dX6_isLetter_34 rfl ?_
      exact rn_zret dX6_isLetter_35 rfl (by decide) ⟨_, rfl, h⟩
    · refine rn_aload_n (i := 0) (x := 1) dX6_isLetter_19 rfl (by simp) ?_
      refine rn_getr (t := 14) dX6_isLetter_20 rfl gf_X6_28 rfl rfl ?_
      refine rn_iload_n (i := 1) (x := x1) dX6_isLetter_23 rfl (by simp) ?_
      obtain ⟨hi, h⟩ := h
      refine rn_baload dX6_isLetter_24 rfl hi ?_
      refine rn_bipush (v := 122) dX6_isLetter_25 rfl ?_
      refine rn_icmp_gt (tgt := 34) dX6_isLetter_27 (by decide) (ite_go h (fun hc h => ?_) (fun hc h => ?_))
      · refine rn_iconst (v := 0) dX6_isLetter_34 rfl ?_
        exact rn_zret dX6_isLetter_35 rfl (by decide) ⟨_, rfl, h⟩
      · refine rn_iconst (v := 1) dX6_isLetter_30 rfl ?_
        refine rn_goto (tgt := 35) dX6_isLetter_31 (by decide) ?_
        exact rn_zret dX6_isLetter_35 rfl (by decide) ⟨_, rfl, h⟩
theorem dX6_isDigit_0 : decode μX6_isDigit.2.1 0 = .ok (.iload_n 1, 1) := by decide +kernel
theorem dX6_isDigit_1 : decode μX6_isDigit.2.1 1 = .ok (.aload_n 0, 1) := by decide +kernel
theorem dX6_isDigit_2 : decode μX6_isDigit.2.1 2 = .ok (.getfield 18, 3) := by decide +kernel
theorem dX6_isDigit_5 : decode μX6_isDigit.2.1 5 = .ok (.if_icmp .ge 29, 3) := by decide +kernel
theorem dX6_isDigit_8 : decode μX6_isDigit.2.1 8 = .ok (.aload_n 0, 1) := by decide +kernel
theorem dX6_isDigit_9 : decode μX6_isDigit.2.1 9 = .ok (.getfield 28, 3) := by decide +kernel
theorem dX6_isDigit_12 : decode μX6_isDigit.2.1 12 = .ok (.iload_n 1, 1) := by decide +kernel
theorem dX6_isDigit_13 : decode μX6_isDigit.2.1 13 = .ok (.baload, 1) := by decide +kernel
theorem dX6_isDigit_14 : decode μX6_isDigit.2.1 14 = .ok (.bipush 48, 2) := by decide +kernel
theorem dX6_isDigit_16 : decode μX6_isDigit.2.1 16 = .ok (.if_icmp .lt 18, 3) := by decide +kernel
theorem dX6_isDigit_19 : decode μX6_isDigit.2.1 19 = .ok (.aload_n 0, 1) := by decide +kernel
theorem dX6_isDigit_20 : decode μX6_isDigit.2.1 20 = .ok (.getfield 28, 3) := by decide +kernel
theorem dX6_isDigit_23 : decode μX6_isDigit.2.1 23 = .ok (.iload_n 1, 1) := by decide +kernel
theorem dX6_isDigit_24 : decode μX6_isDigit.2.1 24 = .ok (.baload, 1) := by decide +kernel
theorem dX6_isDigit_25 : decode μX6_isDigit.2.1 25 = .ok (.bipush 57, 2) := by decide +kernel
theorem dX6_isDigit_27 : decode μX6_isDigit.2.1 27 = .ok (.if_icmp .gt 7, 3) := by decide +kernel
theorem dX6_isDigit_30 : decode μX6_isDigit.2.1 30 = .ok (.iconst 1, 1) := by decide +kernel
theorem dX6_isDigit_31 : decode μX6_isDigit.2.1 31 = .ok (.goto 4, 3) := by decide +kernel
theorem dX6_isDigit_34 : decode μX6_isDigit.2.1 34 = .ok (.iconst 0, 1) := by decide +kernel
theorem dX6_isDigit_35 : decode μX6_isDigit.2.1 35 = .ok (.ireturn, 1) := by decide +kernel
set_option maxRecDepth 20000 in
theorem sg_X6_isDigit_0 {d : Nat} {x1 : Int32} {M : Mem} {K : (Int32 → Mem → Prop)}  (h : (if ri M 1 2 ≤ x1 then K 0 M else (vp_in x1 1600 ∧ (if ri M 14 (nx x1) < 48 then K 0 M else (vp_in x1 1600 ∧ (if 57 < ri M 14 (nx x1) then K 0 M else K 1 M)))))) : CI d μX6_isDigit [.ref 1, .int x1] M K := by
  show Rn d μX6_isDigit 0 [(0, .ref 1), (1, .int x1)] [] M _
  refine rn_iload_n (i := 1) (x := x1) dX6_isDigit_0 rfl (by simp) ?_
  refine rn_aload_n (i := 0) (x := 1) dX6_isDigit_1 rfl (by simp) ?_
  refine rn_geti dX6_isDigit_2 rfl gf_X6_18 (by decide) ?_
  refine rn_icmp_ge (tgt := 34) dX6_isDigit_5 (by decide) (ite_go h (fun hc h => ?_) (fun hc h => ?_))
  · refine rn_iconst (v := 0) dX6_isDigit_34 rfl ?_
    exact rn_zret dX6_isDigit_35 rfl (by decide) ⟨_, rfl, h⟩
  · refine rn_aload_n (i := 0) (x := 1) dX6_isDigit_8 rfl (by simp) ?_
    refine rn_getr (t := 14) dX6_isDigit_9 rfl gf_X6_28 rfl rfl ?_
    refine rn_iload_n (i := 1) (x := x1) dX6_isDigit_12 rfl (by simp) ?_
    obtain ⟨hi, h⟩ := h
    refine rn_baload dX6_isDigit_13 rfl hi ?_
    refine rn_bipush (v := 48) dX6_isDigit_14 rfl ?_
    refine rn_icmp_lt (tgt := 34) dX6_isDigit_16 (by decide) (ite_go h (fun hc h => ?_) (fun hc h => ?_))
    · refine rn_iconst (v := 0) dX6_isDigit_34 rfl ?_
      exact rn_zret dX6_isDigit_35 rfl (by decide) ⟨_, rfl, h⟩
    · refine rn_aload_n (i := 0) (x := 1) dX6_isDigit_19 rfl (by simp) ?_
      refine rn_getr (t := 14) dX6_isDigit_20 rfl gf_X6_28 rfl rfl ?_
      refine rn_iload_n (i := 1) (x := x1) dX6_isDigit_23 rfl (by simp) ?_
      obtain ⟨hi, h⟩ := h
      refine rn_baload dX6_isDigit_24 rfl hi ?_
      refine rn_bipush (v := 57) dX6_isDigit_25 rfl ?_
      refine rn_icmp_gt (tgt := 34) dX6_isDigit_27 (by decide) (ite_go h (fun hc h => ?_) (fun hc h => ?_))
      · refine rn_iconst (v := 0) dX6_isDigit_34 rfl ?_
        exact rn_zret dX6_isDigit_35 rfl (by decide) ⟨_, rfl, h⟩
      · refine rn_iconst (v := 1) dX6_isDigit_30 rfl ?_
        refine rn_goto (tgt := 35) dX6_isDigit_31 (by decide) ?_
        exact rn_zret dX6_isDigit_35 rfl (by decide) ⟨_, rfl, h⟩
theorem dX6_scanWord_0 : decode μX6_scanWord.2.1 0 = .ok (.aload_n 0, 1) := by decide +kernel
theorem dX6_scanWord_1 : decode μX6_scanWord.2.1 1 = .ok (.lconst 0, 1) := by decide +kernel
theorem dX6_scanWord_2 : decode μX6_scanWord.2.1 2 = .ok (.putfield 50, 3) := by decide +kernel
theorem dX6_scanWord_5 : decode μX6_scanWord.2.1 5 = .ok (.iconst 0, 1) := by decide +kernel
theorem dX6_scanWord_6 : decode μX6_scanWord.2.1 6 = .ok (.istore_n 1, 1) := by decide +kernel
theorem dX6_scanWord_7 : decode μX6_scanWord.2.1 7 = .ok (.iload_n 1, 1) := by decide +kernel
theorem dX6_scanWord_8 : decode μX6_scanWord.2.1 8 = .ok (.sipush 1600, 3) := by decide +kernel
theorem dX6_scanWord_11 : decode μX6_scanWord.2.1 11 = .ok (.if_icmp .ge 58, 3) := by decide +kernel
theorem dX6_scanWord_14 : decode μX6_scanWord.2.1 14 = .ok (.aload_n 0, 1) := by decide +kernel
theorem dX6_scanWord_15 : decode μX6_scanWord.2.1 15 = .ok (.aload_n 0, 1) := by decide +kernel
theorem dX6_scanWord_16 : decode μX6_scanWord.2.1 16 = .ok (.getfield 32, 3) := by decide +kernel
theorem dX6_scanWord_19 : decode μX6_scanWord.2.1 19 = .ok (.invokevirtual 83, 3) := by decide +kernel
theorem dX6_scanWord_22 : decode μX6_scanWord.2.1 22 = .ok (.ifCond .eq 47, 3) := by decide +kernel
theorem dX6_scanWord_25 : decode μX6_scanWord.2.1 25 = .ok (.aload_n 0, 1) := by decide +kernel
theorem dX6_scanWord_26 : decode μX6_scanWord.2.1 26 = .ok (.aload_n 0, 1) := by decide +kernel
theorem dX6_scanWord_27 : decode μX6_scanWord.2.1 27 = .ok (.getfield 50, 3) := by decide +kernel
theorem dX6_scanWord_30 : decode μX6_scanWord.2.1 30 = .ok (.ldc2_w 103, 3) := by decide +kernel
theorem dX6_scanWord_33 : decode μX6_scanWord.2.1 33 = .ok (.lmul, 1) := by decide +kernel
theorem dX6_scanWord_34 : decode μX6_scanWord.2.1 34 = .ok (.aload_n 0, 1) := by decide +kernel
theorem dX6_scanWord_35 : decode μX6_scanWord.2.1 35 = .ok (.getfield 28, 3) := by decide +kernel
theorem dX6_scanWord_38 : decode μX6_scanWord.2.1 38 = .ok (.aload_n 0, 1) := by decide +kernel
theorem dX6_scanWord_39 : decode μX6_scanWord.2.1 39 = .ok (.getfield 32, 3) := by decide +kernel
theorem dX6_scanWord_42 : decode μX6_scanWord.2.1 42 = .ok (.baload, 1) := by decide +kernel
theorem dX6_scanWord_43 : decode μX6_scanWord.2.1 43 = .ok (.bipush 97, 2) := by decide +kernel
theorem dX6_scanWord_45 : decode μX6_scanWord.2.1 45 = .ok (.isub, 1) := by decide +kernel
theorem dX6_scanWord_46 : decode μX6_scanWord.2.1 46 = .ok (.iconst 1, 1) := by decide +kernel
theorem dX6_scanWord_47 : decode μX6_scanWord.2.1 47 = .ok (.iadd, 1) := by decide +kernel
theorem dX6_scanWord_48 : decode μX6_scanWord.2.1 48 = .ok (.i2l, 1) := by decide +kernel
theorem dX6_scanWord_49 : decode μX6_scanWord.2.1 49 = .ok (.ladd, 1) := by decide +kernel
theorem dX6_scanWord_50 : decode μX6_scanWord.2.1 50 = .ok (.putfield 50, 3) := by decide +kernel
theorem dX6_scanWord_53 : decode μX6_scanWord.2.1 53 = .ok (.aload_n 0, 1) := by decide +kernel
theorem dX6_scanWord_54 : decode μX6_scanWord.2.1 54 = .ok (.dup, 1) := by decide +kernel
theorem dX6_scanWord_55 : decode μX6_scanWord.2.1 55 = .ok (.getfield 32, 3) := by decide +kernel
theorem dX6_scanWord_58 : decode μX6_scanWord.2.1 58 = .ok (.iconst 1, 1) := by decide +kernel
theorem dX6_scanWord_59 : decode μX6_scanWord.2.1 59 = .ok (.iadd, 1) := by decide +kernel
theorem dX6_scanWord_60 : decode μX6_scanWord.2.1 60 = .ok (.putfield 32, 3) := by decide +kernel
theorem dX6_scanWord_63 : decode μX6_scanWord.2.1 63 = .ok (.iinc 1 1, 3) := by decide +kernel
theorem dX6_scanWord_66 : decode μX6_scanWord.2.1 66 = .ok (.goto (-59), 3) := by decide +kernel
theorem dX6_scanWord_69 : decode μX6_scanWord.2.1 69 = .ok (.aload_n 0, 1) := by decide +kernel
theorem dX6_scanWord_70 : decode μX6_scanWord.2.1 70 = .ok (.getfield 32, 3) := by decide +kernel
theorem dX6_scanWord_73 : decode μX6_scanWord.2.1 73 = .ok (.aload_n 0, 1) := by decide +kernel
theorem dX6_scanWord_74 : decode μX6_scanWord.2.1 74 = .ok (.getfield 38, 3) := by decide +kernel
theorem dX6_scanWord_77 : decode μX6_scanWord.2.1 77 = .ok (.isub, 1) := by decide +kernel
theorem dX6_scanWord_78 : decode μX6_scanWord.2.1 78 = .ok (.bipush 8, 2) := by decide +kernel
theorem dX6_scanWord_80 : decode μX6_scanWord.2.1 80 = .ok (.if_icmp .le 9, 3) := by decide +kernel
theorem dX6_scanWord_83 : decode μX6_scanWord.2.1 83 = .ok (.aload_n 0, 1) := by decide +kernel
theorem dX6_scanWord_84 : decode μX6_scanWord.2.1 84 = .ok (.iconst 1, 1) := by decide +kernel
theorem dX6_scanWord_85 : decode μX6_scanWord.2.1 85 = .ok (.invokevirtual 79, 3) := by decide +kernel
theorem dX6_scanWord_88 : decode μX6_scanWord.2.1 88 = .ok (.return_, 1) := by decide +kernel
theorem dX6_scanWord_89 : decode μX6_scanWord.2.1 89 = .ok (.aload_n 0, 1) := by decide +kernel
theorem dX6_scanWord_90 : decode μX6_scanWord.2.1 90 = .ok (.iconst 1, 1) := by decide +kernel
theorem dX6_scanWord_91 : decode μX6_scanWord.2.1 91 = .ok (.putfield 35, 3) := by decide +kernel
theorem dX6_scanWord_94 : decode μX6_scanWord.2.1 94 = .ok (.aload_n 0, 1) := by decide +kernel
theorem dX6_scanWord_95 : decode μX6_scanWord.2.1 95 = .ok (.iconst (-1), 1) := by decide +kernel
theorem dX6_scanWord_96 : decode μX6_scanWord.2.1 96 = .ok (.putfield 47, 3) := by decide +kernel
theorem dX6_scanWord_99 : decode μX6_scanWord.2.1 99 = .ok (.iconst 0, 1) := by decide +kernel
theorem dX6_scanWord_100 : decode μX6_scanWord.2.1 100 = .ok (.istore_n 1, 1) := by decide +kernel
theorem dX6_scanWord_101 : decode μX6_scanWord.2.1 101 = .ok (.iload_n 1, 1) := by decide +kernel
theorem dX6_scanWord_102 : decode μX6_scanWord.2.1 102 = .ok (.bipush 14, 2) := by decide +kernel
theorem dX6_scanWord_104 : decode μX6_scanWord.2.1 104 = .ok (.if_icmp .ge 22, 3) := by decide +kernel
theorem dX6_scanWord_107 : decode μX6_scanWord.2.1 107 = .ok (.aload_n 0, 1) := by decide +kernel
theorem dX6_scanWord_108 : decode μX6_scanWord.2.1 108 = .ok (.iload_n 1, 1) := by decide +kernel
theorem dX6_scanWord_109 : decode μX6_scanWord.2.1 109 = .ok (.invokevirtual 105, 3) := by decide +kernel
theorem dX6_scanWord_112 : decode μX6_scanWord.2.1 112 = .ok (.ifCond .eq 8, 3) := by decide +kernel
theorem dX6_scanWord_115 : decode μX6_scanWord.2.1 115 = .ok (.aload_n 0, 1) := by decide +kernel
theorem dX6_scanWord_116 : decode μX6_scanWord.2.1 116 = .ok (.iload_n 1, 1) := by decide +kernel
theorem dX6_scanWord_117 : decode μX6_scanWord.2.1 117 = .ok (.putfield 47, 3) := by decide +kernel
theorem dX6_scanWord_120 : decode μX6_scanWord.2.1 120 = .ok (.iinc 1 1, 3) := by decide +kernel
theorem dX6_scanWord_123 : decode μX6_scanWord.2.1 123 = .ok (.goto (-22), 3) := by decide +kernel
theorem dX6_scanWord_126 : decode μX6_scanWord.2.1 126 = .ok (.return_, 1) := by decide +kernel
set_option maxRecDepth 20000 in
theorem sg_X6_scanWord_0 {d : Nat}  {M : Mem} {K : (Mem → Prop)}  (h : (∀ M1, M1 = wl M 1 11 0 → RV (d + 1) μX6_scanWord 7 [(0, .ref 1), (1, .int 0)] [] M1 K)) : CV (d + 1) μX6_scanWord [.ref 1] M K := by
  show Rn (d + 1) μX6_scanWord 0 [(0, .ref 1)] [] M _
  refine rn_aload_n (i := 0) (x := 1) dX6_scanWord_0 rfl (by simp) ?_
  refine rn_lconst (v := 0) dX6_scanWord_1 rfl ?_
  have h := h _ rfl
  refine rn_putl dX6_scanWord_2 rfl pf_X6_50 rfl ?_
  generalize wl M 1 11 0 = M1 at h ⊢
  refine rn_iconst (v := 0) dX6_scanWord_5 rfl ?_
  refine rn_istore_n (lv' := [(0, .ref 1), (1, .int 0)]) (hd := dX6_scanWord_6) (i := 1) (hi := rfl) (hn := by decide) (hf := rfl) (hl := rfl) ?_
  exact h
set_option maxRecDepth 20000 in
theorem sg_X6_scanWord_7 {d : Nat} {x1 : Int32} {M : Mem} {K : (Mem → Prop)}  (h : (if 1600 ≤ x1 then RV (d + 1) μX6_scanWord 69 [(0, .ref 1), (1, .int x1)] [] M K else (CI d μX6_isLetter [.ref 1, .int (ri M 1 5)] M (fun r2 M1 => (if r2 = 0 then RV (d + 1) μX6_scanWord 69 [(0, .ref 1), (1, .int x1)] [] M1 K else (vp_in (ri M1 1 5) 1600 ∧ (∀ M3, M3 = wl M1 1 11 (((rl M1 1 11) * 32) + (Int32.toInt64 (((ri M1 14 (nx (ri M1 1 5))) - 97) + 1))) → (∀ M4, M4 = wi M3 1 5 ((ri M3 1 5) + 1) → RV (d + 1) μX6_scanWord 7 [(0, .ref 1), (1, .int (x1 + 1))] [] M4 K)))))))) : RV (d + 1) μX6_scanWord 7 [(0, .ref 1), (1, .int x1)] [] M K := by
  show Rn (d + 1) μX6_scanWord 7 [(0, .ref 1), (1, .int x1)] [] M _
  refine rn_iload_n (i := 1) (x := x1) dX6_scanWord_7 rfl (by simp) ?_
  refine rn_sipush (v := 1600) dX6_scanWord_8 rfl ?_
  refine rn_icmp_ge (tgt := 69) dX6_scanWord_11 (by decide) (ite_go h (fun hc h => ?_) (fun hc h => ?_))
  · exact h
  · refine rn_aload_n (i := 0) (x := 1) dX6_scanWord_14 rfl (by simp) ?_
    refine rn_aload_n (i := 0) (x := 1) dX6_scanWord_15 rfl (by simp) ?_
    refine rn_geti dX6_scanWord_16 rfl gf_X6_32 (by decide) ?_
    refine rn_callVi (as := [.int (ri M 1 5)]) (st := []) dX6_scanWord_19 mf_X6_isLetter lk_X6_83 im_X6_isLetter rfl rfl rfl rfl (Nat.le_of_ble_eq_true rfl) (Nat.le_of_ble_eq_true rfl) rfl (RI.mono h (fun r2 M1 h => ?_))
    refine rn_if_eq (tgt := 69) dX6_scanWord_22 (by decide) (ite_go h (fun hc h => ?_) (fun hc h => ?_))
    · exact h
    · refine rn_aload_n (i := 0) (x := 1) dX6_scanWord_25 rfl (by simp) ?_
      refine rn_aload_n (i := 0) (x := 1) dX6_scanWord_26 rfl (by simp) ?_
      refine rn_getl dX6_scanWord_27 rfl gf_X6_50 rfl ?_
      refine rn_ldc2 (v := 32) dX6_scanWord_30 lk_X6_103 ?_
      refine rn_lmul dX6_scanWord_33 ?_
      refine rn_aload_n (i := 0) (x := 1) dX6_scanWord_34 rfl (by simp) ?_
      refine rn_getr (t := 14) dX6_scanWord_35 rfl gf_X6_28 rfl rfl ?_
      refine rn_aload_n (i := 0) (x := 1) dX6_scanWord_38 rfl (by simp) ?_
      refine rn_geti dX6_scanWord_39 rfl gf_X6_32 (by decide) ?_
      obtain ⟨hi, h⟩ := h
      refine rn_baload dX6_scanWord_42 rfl hi ?_
      refine rn_bipush (v := 97) dX6_scanWord_43 rfl ?_
      refine rn_isub dX6_scanWord_45 ?_
      refine rn_iconst (v := 1) dX6_scanWord_46 rfl ?_
      refine rn_iadd dX6_scanWord_47 ?_
      refine rn_i2l dX6_scanWord_48 ?_
      refine rn_ladd dX6_scanWord_49 ?_
      have h := h _ rfl
      refine rn_putl dX6_scanWord_50 rfl pf_X6_50 rfl ?_
      generalize wl M1 1 11 (((rl M1 1 11) * 32) + (Int32.toInt64 (((ri M1 14 (nx (ri M1 1 5))) - 97) + 1))) = M3 at h ⊢
      refine rn_aload_n (i := 0) (x := 1) dX6_scanWord_53 rfl (by simp) ?_
      refine rn_dup dX6_scanWord_54 rfl ?_
      refine rn_geti dX6_scanWord_55 rfl gf_X6_32 (by decide) ?_
      refine rn_iconst (v := 1) dX6_scanWord_58 rfl ?_
      refine rn_iadd dX6_scanWord_59 ?_
      have h := h _ rfl
      refine rn_puti dX6_scanWord_60 rfl pf_X6_32 (by decide) rfl rfl ?_
      generalize wi M3 1 5 ((ri M3 1 5) + 1) = M4 at h ⊢
      refine rn_iinc (x := x1) (v := x1 + 1) (lv' := [(0, .ref 1), (1, .int (x1 + 1))]) dX6_scanWord_63 (by simp) rfl (by decide) rfl rfl ?_
      refine rn_goto (tgt := 7) dX6_scanWord_66 (by decide) ?_
      exact h
set_option maxRecDepth 20000 in
theorem sg_X6_scanWord_69 {d : Nat} {x1 : Int32} {M : Mem} {K : (Mem → Prop)}  (h : (if (ri M 1 5) - (ri M 1 7) ≤ 8 then (∀ M1, M1 = wi M 1 6 1 → (∀ M2, M2 = wi M1 1 10 ((-1)) → RV (d + 1) μX6_scanWord 101 [(0, .ref 1), (1, .int 0)] [] M2 K)) else (CV d μX6_blame [.ref 1, .int 1] M (fun M3 => K M3)))) : RV (d + 1) μX6_scanWord 69 [(0, .ref 1), (1, .int x1)] [] M K := by
  show Rn (d + 1) μX6_scanWord 69 [(0, .ref 1), (1, .int x1)] [] M _
  refine rn_aload_n (i := 0) (x := 1) dX6_scanWord_69 rfl (by simp) ?_
  refine rn_geti dX6_scanWord_70 rfl gf_X6_32 (by decide) ?_
  refine rn_aload_n (i := 0) (x := 1) dX6_scanWord_73 rfl (by simp) ?_
  refine rn_geti dX6_scanWord_74 rfl gf_X6_38 (by decide) ?_
  refine rn_isub dX6_scanWord_77 ?_
  refine rn_bipush (v := 8) dX6_scanWord_78 rfl ?_
  refine rn_icmp_le (tgt := 89) dX6_scanWord_80 (by decide) (ite_go h (fun hc h => ?_) (fun hc h => ?_))
  · refine rn_aload_n (i := 0) (x := 1) dX6_scanWord_89 rfl (by simp) ?_
    refine rn_iconst (v := 1) dX6_scanWord_90 rfl ?_
    have h := h _ rfl
    refine rn_puti dX6_scanWord_91 rfl pf_X6_35 (by decide) rfl rfl ?_
    generalize wi M 1 6 1 = M1 at h ⊢
    refine rn_aload_n (i := 0) (x := 1) dX6_scanWord_94 rfl (by simp) ?_
    refine rn_iconst (v := -1) dX6_scanWord_95 rfl ?_
    have h := h _ rfl
    refine rn_puti dX6_scanWord_96 rfl pf_X6_47 (by decide) rfl rfl ?_
    generalize wi M1 1 10 ((-1)) = M2 at h ⊢
    refine rn_iconst (v := 0) dX6_scanWord_99 rfl ?_
    refine rn_istore_n (lv' := [(0, .ref 1), (1, .int 0)]) (hd := dX6_scanWord_100) (i := 1) (hi := rfl) (hn := by decide) (hf := rfl) (hl := rfl) ?_
    exact h
  · refine rn_aload_n (i := 0) (x := 1) dX6_scanWord_83 rfl (by simp) ?_
    refine rn_iconst (v := 1) dX6_scanWord_84 rfl ?_
    refine rn_callVv (as := [.int 1]) (st := []) dX6_scanWord_85 mf_X6_blame lk_X6_79 im_X6_blame rfl rfl rfl rfl (Nat.le_of_ble_eq_true rfl) (Nat.le_of_ble_eq_true rfl) rfl (RV.mono h (fun M3 h => ?_))
    exact rn_ret dX6_scanWord_88 rfl ⟨rfl, h⟩
set_option maxRecDepth 20000 in
theorem sg_X6_scanWord_101 {d : Nat} {x1 : Int32} {M : Mem} {K : (Mem → Prop)}  (h : (if 14 ≤ x1 then K M else (CI d μX6_isSpelled [.ref 1, .int x1] M (fun r2 M1 => (if r2 = 0 then RV (d + 1) μX6_scanWord 101 [(0, .ref 1), (1, .int (x1 + 1))] [] M1 K else (∀ M3, M3 = wi M1 1 10 x1 → RV (d + 1) μX6_scanWord 101 [(0, .ref 1), (1, .int (x1 + 1))] [] M3 K)))))) : RV (d + 1) μX6_scanWord 101 [(0, .ref 1), (1, .int x1)] [] M K := by
  show Rn (d + 1) μX6_scanWord 101 [(0, .ref 1), (1, .int x1)] [] M _
  refine rn_iload_n (i := 1) (x := x1) dX6_scanWord_101 rfl (by simp) ?_
  refine rn_bipush (v := 14) dX6_scanWord_102 rfl ?_
  refine rn_icmp_ge (tgt := 126) dX6_scanWord_104 (by decide) (ite_go h (fun hc h => ?_) (fun hc h => ?_))
  · exact rn_ret dX6_scanWord_126 rfl ⟨rfl, h⟩
  · refine rn_aload_n (i := 0) (x := 1) dX6_scanWord_107 rfl (by simp) ?_
    refine rn_iload_n (i := 1) (x := x1) dX6_scanWord_108 rfl (by simp) ?_
    refine rn_callVi (as := [.int x1]) (st := []) dX6_scanWord_109 mf_X6_isSpelled lk_X6_105 im_X6_isSpelled rfl rfl rfl rfl (Nat.le_of_ble_eq_true rfl) (Nat.le_of_ble_eq_true rfl) rfl (RI.mono h (fun r2 M1 h => ?_))
    refine rn_if_eq (tgt := 120) dX6_scanWord_112 (by decide) (ite_go h (fun hc h => ?_) (fun hc h => ?_))
    · refine rn_iinc (x := x1) (v := x1 + 1) (lv' := [(0, .ref 1), (1, .int (x1 + 1))]) dX6_scanWord_120 (by simp) rfl (by decide) rfl rfl ?_
      refine rn_goto (tgt := 101) dX6_scanWord_123 (by decide) ?_
      exact h
    · refine rn_aload_n (i := 0) (x := 1) dX6_scanWord_115 rfl (by simp) ?_
      refine rn_iload_n (i := 1) (x := x1) dX6_scanWord_116 rfl (by simp) ?_
      have h := h _ rfl
      refine rn_puti dX6_scanWord_117 rfl pf_X6_47 (by decide) rfl rfl ?_
      generalize wi M1 1 10 x1 = M3 at h ⊢
      refine rn_iinc (x := x1) (v := x1 + 1) (lv' := [(0, .ref 1), (1, .int (x1 + 1))]) dX6_scanWord_120 (by simp) rfl (by decide) rfl rfl ?_
      refine rn_goto (tgt := 101) dX6_scanWord_123 (by decide) ?_
      exact h
theorem dX6_scanNumber_0 : decode μX6_scanNumber.2.1 0 = .ok (.aload_n 0, 1) := by decide +kernel
theorem dX6_scanNumber_1 : decode μX6_scanNumber.2.1 1 = .ok (.iconst 0, 1) := by decide +kernel
theorem dX6_scanNumber_2 : decode μX6_scanNumber.2.1 2 = .ok (.putfield 41, 3) := by decide +kernel
theorem dX6_scanNumber_5 : decode μX6_scanNumber.2.1 5 = .ok (.iconst 0, 1) := by decide +kernel
theorem dX6_scanNumber_6 : decode μX6_scanNumber.2.1 6 = .ok (.istore_n 1, 1) := by decide +kernel
theorem dX6_scanNumber_7 : decode μX6_scanNumber.2.1 7 = .ok (.iload_n 1, 1) := by decide +kernel
theorem dX6_scanNumber_8 : decode μX6_scanNumber.2.1 8 = .ok (.sipush 1600, 3) := by decide +kernel
theorem dX6_scanNumber_11 : decode μX6_scanNumber.2.1 11 = .ok (.if_icmp .ge 54, 3) := by decide +kernel
theorem dX6_scanNumber_14 : decode μX6_scanNumber.2.1 14 = .ok (.aload_n 0, 1) := by decide +kernel
theorem dX6_scanNumber_15 : decode μX6_scanNumber.2.1 15 = .ok (.aload_n 0, 1) := by decide +kernel
theorem dX6_scanNumber_16 : decode μX6_scanNumber.2.1 16 = .ok (.getfield 32, 3) := by decide +kernel
theorem dX6_scanNumber_19 : decode μX6_scanNumber.2.1 19 = .ok (.invokevirtual 89, 3) := by decide +kernel
theorem dX6_scanNumber_22 : decode μX6_scanNumber.2.1 22 = .ok (.ifCond .eq 43, 3) := by decide +kernel
theorem dX6_scanNumber_25 : decode μX6_scanNumber.2.1 25 = .ok (.aload_n 0, 1) := by decide +kernel
theorem dX6_scanNumber_26 : decode μX6_scanNumber.2.1 26 = .ok (.aload_n 0, 1) := by decide +kernel
theorem dX6_scanNumber_27 : decode μX6_scanNumber.2.1 27 = .ok (.getfield 41, 3) := by decide +kernel
theorem dX6_scanNumber_30 : decode μX6_scanNumber.2.1 30 = .ok (.bipush 10, 2) := by decide +kernel
theorem dX6_scanNumber_32 : decode μX6_scanNumber.2.1 32 = .ok (.imul, 1) := by decide +kernel
theorem dX6_scanNumber_33 : decode μX6_scanNumber.2.1 33 = .ok (.aload_n 0, 1) := by decide +kernel
theorem dX6_scanNumber_34 : decode μX6_scanNumber.2.1 34 = .ok (.getfield 28, 3) := by decide +kernel
theorem dX6_scanNumber_37 : decode μX6_scanNumber.2.1 37 = .ok (.aload_n 0, 1) := by decide +kernel
theorem dX6_scanNumber_38 : decode μX6_scanNumber.2.1 38 = .ok (.getfield 32, 3) := by decide +kernel
theorem dX6_scanNumber_41 : decode μX6_scanNumber.2.1 41 = .ok (.baload, 1) := by decide +kernel
theorem dX6_scanNumber_42 : decode μX6_scanNumber.2.1 42 = .ok (.bipush 48, 2) := by decide +kernel
theorem dX6_scanNumber_44 : decode μX6_scanNumber.2.1 44 = .ok (.isub, 1) := by decide +kernel
theorem dX6_scanNumber_45 : decode μX6_scanNumber.2.1 45 = .ok (.iadd, 1) := by decide +kernel
theorem dX6_scanNumber_46 : decode μX6_scanNumber.2.1 46 = .ok (.putfield 41, 3) := by decide +kernel
theorem dX6_scanNumber_49 : decode μX6_scanNumber.2.1 49 = .ok (.aload_n 0, 1) := by decide +kernel
theorem dX6_scanNumber_50 : decode μX6_scanNumber.2.1 50 = .ok (.dup, 1) := by decide +kernel
theorem dX6_scanNumber_51 : decode μX6_scanNumber.2.1 51 = .ok (.getfield 32, 3) := by decide +kernel
theorem dX6_scanNumber_54 : decode μX6_scanNumber.2.1 54 = .ok (.iconst 1, 1) := by decide +kernel
theorem dX6_scanNumber_55 : decode μX6_scanNumber.2.1 55 = .ok (.iadd, 1) := by decide +kernel
theorem dX6_scanNumber_56 : decode μX6_scanNumber.2.1 56 = .ok (.putfield 32, 3) := by decide +kernel
theorem dX6_scanNumber_59 : decode μX6_scanNumber.2.1 59 = .ok (.iinc 1 1, 3) := by decide +kernel
theorem dX6_scanNumber_62 : decode μX6_scanNumber.2.1 62 = .ok (.goto (-55), 3) := by decide +kernel
theorem dX6_scanNumber_65 : decode μX6_scanNumber.2.1 65 = .ok (.aload_n 0, 1) := by decide +kernel
theorem dX6_scanNumber_66 : decode μX6_scanNumber.2.1 66 = .ok (.getfield 32, 3) := by decide +kernel
theorem dX6_scanNumber_69 : decode μX6_scanNumber.2.1 69 = .ok (.aload_n 0, 1) := by decide +kernel
theorem dX6_scanNumber_70 : decode μX6_scanNumber.2.1 70 = .ok (.getfield 38, 3) := by decide +kernel
theorem dX6_scanNumber_73 : decode μX6_scanNumber.2.1 73 = .ok (.isub, 1) := by decide +kernel
theorem dX6_scanNumber_74 : decode μX6_scanNumber.2.1 74 = .ok (.iconst 4, 1) := by decide +kernel
theorem dX6_scanNumber_75 : decode μX6_scanNumber.2.1 75 = .ok (.if_icmp .gt 14, 3) := by decide +kernel
theorem dX6_scanNumber_78 : decode μX6_scanNumber.2.1 78 = .ok (.aload_n 0, 1) := by decide +kernel
theorem dX6_scanNumber_79 : decode μX6_scanNumber.2.1 79 = .ok (.aload_n 0, 1) := by decide +kernel
theorem dX6_scanNumber_80 : decode μX6_scanNumber.2.1 80 = .ok (.getfield 32, 3) := by decide +kernel
theorem dX6_scanNumber_83 : decode μX6_scanNumber.2.1 83 = .ok (.invokevirtual 83, 3) := by decide +kernel
theorem dX6_scanNumber_86 : decode μX6_scanNumber.2.1 86 = .ok (.ifCond .eq 9, 3) := by decide +kernel
theorem dX6_scanNumber_89 : decode μX6_scanNumber.2.1 89 = .ok (.aload_n 0, 1) := by decide +kernel
theorem dX6_scanNumber_90 : decode μX6_scanNumber.2.1 90 = .ok (.iconst 1, 1) := by decide +kernel
theorem dX6_scanNumber_91 : decode μX6_scanNumber.2.1 91 = .ok (.invokevirtual 79, 3) := by decide +kernel
theorem dX6_scanNumber_94 : decode μX6_scanNumber.2.1 94 = .ok (.return_, 1) := by decide +kernel
theorem dX6_scanNumber_95 : decode μX6_scanNumber.2.1 95 = .ok (.aload_n 0, 1) := by decide +kernel
theorem dX6_scanNumber_96 : decode μX6_scanNumber.2.1 96 = .ok (.iconst 2, 1) := by decide +kernel
theorem dX6_scanNumber_97 : decode μX6_scanNumber.2.1 97 = .ok (.putfield 35, 3) := by decide +kernel
theorem dX6_scanNumber_100 : decode μX6_scanNumber.2.1 100 = .ok (.return_, 1) := by decide +kernel
set_option maxRecDepth 20000 in
theorem sg_X6_scanNumber_0 {d : Nat}  {M : Mem} {K : (Mem → Prop)}  (h : (∀ M1, M1 = wi M 1 8 0 → RV (d + 1) μX6_scanNumber 7 [(0, .ref 1), (1, .int 0)] [] M1 K)) : CV (d + 1) μX6_scanNumber [.ref 1] M K := by
  show Rn (d + 1) μX6_scanNumber 0 [(0, .ref 1)] [] M _
  refine rn_aload_n (i := 0) (x := 1) dX6_scanNumber_0 rfl (by simp) ?_
  refine rn_iconst (v := 0) dX6_scanNumber_1 rfl ?_
  have h := h _ rfl
  refine rn_puti dX6_scanNumber_2 rfl pf_X6_41 (by decide) rfl rfl ?_
  generalize wi M 1 8 0 = M1 at h ⊢
  refine rn_iconst (v := 0) dX6_scanNumber_5 rfl ?_
  refine rn_istore_n (lv' := [(0, .ref 1), (1, .int 0)]) (hd := dX6_scanNumber_6) (i := 1) (hi := rfl) (hn := by decide) (hf := rfl) (hl := rfl) ?_
  exact h
set_option maxRecDepth 20000 in
theorem sg_X6_scanNumber_7 {d : Nat} {x1 : Int32} {M : Mem} {K : (Mem → Prop)}  (h : (if 1600 ≤ x1 then RV (d + 1) μX6_scanNumber 65 [(0, .ref 1), (1, .int x1)] [] M K else (CI d μX6_isDigit [.ref 1, .int (ri M 1 5)] M (fun r2 M1 => (if r2 = 0 then RV (d + 1) μX6_scanNumber 65 [(0, .ref 1), (1, .int x1)] [] M1 K else (vp_in (ri M1 1 5) 1600 ∧ (∀ M3, M3 = wi M1 1 8 (((ri M1 1 8) * 10) + ((ri M1 14 (nx (ri M1 1 5))) - 48)) → (∀ M4, M4 = wi M3 1 5 ((ri M3 1 5) + 1) → RV (d + 1) μX6_scanNumber 7 [(0, .ref 1), (1, .int (x1 + 1))] [] M4 K)))))))) : RV (d + 1) μX6_scanNumber 7 [(0, .ref 1), (1, .int x1)] [] M K := by
  show Rn (d + 1) μX6_scanNumber 7 [(0, .ref 1), (1, .int x1)] [] M _
  refine rn_iload_n (i := 1) (x := x1) dX6_scanNumber_7 rfl (by simp) ?_
  refine rn_sipush (v := 1600) dX6_scanNumber_8 rfl ?_
  refine rn_icmp_ge (tgt := 65) dX6_scanNumber_11 (by decide) (ite_go h (fun hc h => ?_) (fun hc h => ?_))
  · exact h
  · refine rn_aload_n (i := 0) (x := 1) dX6_scanNumber_14 rfl (by simp) ?_
    refine rn_aload_n (i := 0) (x := 1) dX6_scanNumber_15 rfl (by simp) ?_
    refine rn_geti dX6_scanNumber_16 rfl gf_X6_32 (by decide) ?_
    refine rn_callVi (as := [.int (ri M 1 5)]) (st := []) dX6_scanNumber_19 mf_X6_isDigit lk_X6_89 im_X6_isDigit rfl rfl rfl rfl (Nat.le_of_ble_eq_true rfl) (Nat.le_of_ble_eq_true rfl) rfl (RI.mono h (fun r2 M1 h => ?_))
    refine rn_if_eq (tgt := 65) dX6_scanNumber_22 (by decide) (ite_go h (fun hc h => ?_) (fun hc h => ?_))
    · exact h
    · refine rn_aload_n (i := 0) (x := 1) dX6_scanNumber_25 rfl (by simp) ?_
      refine rn_aload_n (i := 0) (x := 1) dX6_scanNumber_26 rfl (by simp) ?_
      refine rn_geti dX6_scanNumber_27 rfl gf_X6_41 (by decide) ?_
      refine rn_bipush (v := 10) dX6_scanNumber_30 rfl ?_
      refine rn_imul dX6_scanNumber_32 ?_
      refine rn_aload_n (i := 0) (x := 1) dX6_scanNumber_33 rfl (by simp) ?_
      refine rn_getr (t := 14) dX6_scanNumber_34 rfl gf_X6_28 rfl rfl ?_
      refine rn_aload_n (i := 0) (x := 1) dX6_scanNumber_37 rfl (by simp) ?_
      refine rn_geti dX6_scanNumber_38 rfl gf_X6_32 (by decide) ?_
      obtain ⟨hi, h⟩ := h
      refine rn_baload dX6_scanNumber_41 rfl hi ?_
      refine rn_bipush (v := 48) dX6_scanNumber_42 rfl ?_
      refine rn_isub dX6_scanNumber_44 ?_
      refine rn_iadd dX6_scanNumber_45 ?_
      have h := h _ rfl
      refine rn_puti dX6_scanNumber_46 rfl pf_X6_41 (by decide) rfl rfl ?_
      generalize wi M1 1 8 (((ri M1 1 8) * 10) + ((ri M1 14 (nx (ri M1 1 5))) - 48)) = M3 at h ⊢
      refine rn_aload_n (i := 0) (x := 1) dX6_scanNumber_49 rfl (by simp) ?_
      refine rn_dup dX6_scanNumber_50 rfl ?_
      refine rn_geti dX6_scanNumber_51 rfl gf_X6_32 (by decide) ?_
      refine rn_iconst (v := 1) dX6_scanNumber_54 rfl ?_
      refine rn_iadd dX6_scanNumber_55 ?_
      have h := h _ rfl
      refine rn_puti dX6_scanNumber_56 rfl pf_X6_32 (by decide) rfl rfl ?_
      generalize wi M3 1 5 ((ri M3 1 5) + 1) = M4 at h ⊢
      refine rn_iinc (x := x1) (v := x1 + 1) (lv' := [(0, .ref 1), (1, .int (x1 + 1))]) dX6_scanNumber_59 (by simp) rfl (by decide) rfl rfl ?_
      refine rn_goto (tgt := 7) dX6_scanNumber_62 (by decide) ?_
      exact h
set_option maxRecDepth 20000 in
theorem sg_X6_scanNumber_65 {d : Nat} {x1 : Int32} {M : Mem} {K : (Mem → Prop)}  (h : (if 4 < (ri M 1 5) - (ri M 1 7) then (CV d μX6_blame [.ref 1, .int 1] M (fun M1 => K M1)) else (CI d μX6_isLetter [.ref 1, .int (ri M 1 5)] M (fun r3 M2 => (if r3 = 0 then (∀ M4, M4 = wi M2 1 6 2 → K M4) else (CV d μX6_blame [.ref 1, .int 1] M2 (fun M5 => K M5))))))) : RV (d + 1) μX6_scanNumber 65 [(0, .ref 1), (1, .int x1)] [] M K := by
  show Rn (d + 1) μX6_scanNumber 65 [(0, .ref 1), (1, .int x1)] [] M _
  refine rn_aload_n (i := 0) (x := 1) dX6_scanNumber_65 rfl (by simp) ?_
  refine rn_geti dX6_scanNumber_66 rfl gf_X6_32 (by decide) ?_
  refine rn_aload_n (i := 0) (x := 1) dX6_scanNumber_69 rfl (by simp) ?_
  refine rn_geti dX6_scanNumber_70 rfl gf_X6_38 (by decide) ?_
  refine rn_isub dX6_scanNumber_73 ?_
  refine rn_iconst (v := 4) dX6_scanNumber_74 rfl ?_
  refine rn_icmp_gt (tgt := 89) dX6_scanNumber_75 (by decide) (ite_go h (fun hc h => ?_) (fun hc h => ?_))
  · refine rn_aload_n (i := 0) (x := 1) dX6_scanNumber_89 rfl (by simp) ?_
    refine rn_iconst (v := 1) dX6_scanNumber_90 rfl ?_
    refine rn_callVv (as := [.int 1]) (st := []) dX6_scanNumber_91 mf_X6_blame lk_X6_79 im_X6_blame rfl rfl rfl rfl (Nat.le_of_ble_eq_true rfl) (Nat.le_of_ble_eq_true rfl) rfl (RV.mono h (fun M1 h => ?_))
    exact rn_ret dX6_scanNumber_94 rfl ⟨rfl, h⟩
  · refine rn_aload_n (i := 0) (x := 1) dX6_scanNumber_78 rfl (by simp) ?_
    refine rn_aload_n (i := 0) (x := 1) dX6_scanNumber_79 rfl (by simp) ?_
    refine rn_geti dX6_scanNumber_80 rfl gf_X6_32 (by decide) ?_
    refine rn_callVi (as := [.int (ri M 1 5)]) (st := []) dX6_scanNumber_83 mf_X6_isLetter lk_X6_83 im_X6_isLetter rfl rfl rfl rfl (Nat.le_of_ble_eq_true rfl) (Nat.le_of_ble_eq_true rfl) rfl (RI.mono h (fun r3 M2 h => ?_))
    refine rn_if_eq (tgt := 95) dX6_scanNumber_86 (by decide) (ite_go h (fun hc h => ?_) (fun hc h => ?_))
    · refine rn_aload_n (i := 0) (x := 1) dX6_scanNumber_95 rfl (by simp) ?_
      refine rn_iconst (v := 2) dX6_scanNumber_96 rfl ?_
      have h := h _ rfl
      refine rn_puti dX6_scanNumber_97 rfl pf_X6_35 (by decide) rfl rfl ?_
      generalize wi M2 1 6 2 = M4 at h ⊢
      exact rn_ret dX6_scanNumber_100 rfl ⟨rfl, h⟩
    · refine rn_aload_n (i := 0) (x := 1) dX6_scanNumber_89 rfl (by simp) ?_
      refine rn_iconst (v := 1) dX6_scanNumber_90 rfl ?_
      refine rn_callVv (as := [.int 1]) (st := []) dX6_scanNumber_91 mf_X6_blame lk_X6_79 im_X6_blame rfl rfl rfl rfl (Nat.le_of_ble_eq_true rfl) (Nat.le_of_ble_eq_true rfl) rfl (RV.mono h (fun M5 h => ?_))
      exact rn_ret dX6_scanNumber_94 rfl ⟨rfl, h⟩
theorem dX6_isWord_0 : decode μX6_isWord.2.1 0 = .ok (.aload_n 0, 1) := by decide +kernel
theorem dX6_isWord_1 : decode μX6_isWord.2.1 1 = .ok (.getfield 35, 3) := by decide +kernel
theorem dX6_isWord_4 : decode μX6_isWord.2.1 4 = .ok (.iconst 1, 1) := by decide +kernel
theorem dX6_isWord_5 : decode μX6_isWord.2.1 5 = .ok (.if_icmp .ne 15, 3) := by decide +kernel
theorem dX6_isWord_8 : decode μX6_isWord.2.1 8 = .ok (.aload_n 0, 1) := by decide +kernel
theorem dX6_isWord_9 : decode μX6_isWord.2.1 9 = .ok (.getfield 47, 3) := by decide +kernel
theorem dX6_isWord_12 : decode μX6_isWord.2.1 12 = .ok (.iload_n 1, 1) := by decide +kernel
theorem dX6_isWord_13 : decode μX6_isWord.2.1 13 = .ok (.if_icmp .ne 7, 3) := by decide +kernel
theorem dX6_isWord_16 : decode μX6_isWord.2.1 16 = .ok (.iconst 1, 1) := by decide +kernel
theorem dX6_isWord_17 : decode μX6_isWord.2.1 17 = .ok (.goto 4, 3) := by decide +kernel
theorem dX6_isWord_20 : decode μX6_isWord.2.1 20 = .ok (.iconst 0, 1) := by decide +kernel
theorem dX6_isWord_21 : decode μX6_isWord.2.1 21 = .ok (.ireturn, 1) := by decide +kernel
set_option maxRecDepth 20000 in
theorem sg_X6_isWord_0 {d : Nat} {x1 : Int32} {M : Mem} {K : (Int32 → Mem → Prop)}  (h : (if ri M 1 6 = 1 then (if ri M 1 10 = x1 then K 1 M else K 0 M) else K 0 M)) : CI d μX6_isWord [.ref 1, .int x1] M K := by
  show Rn d μX6_isWord 0 [(0, .ref 1), (1, .int x1)] [] M _
  refine rn_aload_n (i := 0) (x := 1) dX6_isWord_0 rfl (by simp) ?_
  refine rn_geti dX6_isWord_1 rfl gf_X6_35 (by decide) ?_
  refine rn_iconst (v := 1) dX6_isWord_4 rfl ?_
  refine rn_icmp_ne (tgt := 20) dX6_isWord_5 (by decide) (ite_go h (fun hc h => ?_) (fun hc h => ?_))
  · refine rn_aload_n (i := 0) (x := 1) dX6_isWord_8 rfl (by simp) ?_
    refine rn_geti dX6_isWord_9 rfl gf_X6_47 (by decide) ?_
    refine rn_iload_n (i := 1) (x := x1) dX6_isWord_12 rfl (by simp) ?_
    refine rn_icmp_ne (tgt := 20) dX6_isWord_13 (by decide) (ite_go h (fun hc h => ?_) (fun hc h => ?_))
    · refine rn_iconst (v := 1) dX6_isWord_16 rfl ?_
      refine rn_goto (tgt := 21) dX6_isWord_17 (by decide) ?_
      exact rn_zret dX6_isWord_21 rfl (by decide) ⟨_, rfl, h⟩
    · refine rn_iconst (v := 0) dX6_isWord_20 rfl ?_
      exact rn_zret dX6_isWord_21 rfl (by decide) ⟨_, rfl, h⟩
  · refine rn_iconst (v := 0) dX6_isWord_20 rfl ?_
    exact rn_zret dX6_isWord_21 rfl (by decide) ⟨_, rfl, h⟩
theorem dX6_isSign_0 : decode μX6_isSign.2.1 0 = .ok (.aload_n 0, 1) := by decide +kernel
theorem dX6_isSign_1 : decode μX6_isSign.2.1 1 = .ok (.getfield 35, 3) := by decide +kernel
theorem dX6_isSign_4 : decode μX6_isSign.2.1 4 = .ok (.iconst 3, 1) := by decide +kernel
theorem dX6_isSign_5 : decode μX6_isSign.2.1 5 = .ok (.if_icmp .ne 15, 3) := by decide +kernel
theorem dX6_isSign_8 : decode μX6_isSign.2.1 8 = .ok (.aload_n 0, 1) := by decide +kernel
theorem dX6_isSign_9 : decode μX6_isSign.2.1 9 = .ok (.getfield 44, 3) := by decide +kernel
theorem dX6_isSign_12 : decode μX6_isSign.2.1 12 = .ok (.iload_n 1, 1) := by decide +kernel
theorem dX6_isSign_13 : decode μX6_isSign.2.1 13 = .ok (.if_icmp .ne 7, 3) := by decide +kernel
theorem dX6_isSign_16 : decode μX6_isSign.2.1 16 = .ok (.iconst 1, 1) := by decide +kernel
theorem dX6_isSign_17 : decode μX6_isSign.2.1 17 = .ok (.goto 4, 3) := by decide +kernel
theorem dX6_isSign_20 : decode μX6_isSign.2.1 20 = .ok (.iconst 0, 1) := by decide +kernel
theorem dX6_isSign_21 : decode μX6_isSign.2.1 21 = .ok (.ireturn, 1) := by decide +kernel
set_option maxRecDepth 20000 in
theorem sg_X6_isSign_0 {d : Nat} {x1 : Int32} {M : Mem} {K : (Int32 → Mem → Prop)}  (h : (if ri M 1 6 = 3 then (if ri M 1 9 = x1 then K 1 M else K 0 M) else K 0 M)) : CI d μX6_isSign [.ref 1, .int x1] M K := by
  show Rn d μX6_isSign 0 [(0, .ref 1), (1, .int x1)] [] M _
  refine rn_aload_n (i := 0) (x := 1) dX6_isSign_0 rfl (by simp) ?_
  refine rn_geti dX6_isSign_1 rfl gf_X6_35 (by decide) ?_
  refine rn_iconst (v := 3) dX6_isSign_4 rfl ?_
  refine rn_icmp_ne (tgt := 20) dX6_isSign_5 (by decide) (ite_go h (fun hc h => ?_) (fun hc h => ?_))
  · refine rn_aload_n (i := 0) (x := 1) dX6_isSign_8 rfl (by simp) ?_
    refine rn_geti dX6_isSign_9 rfl gf_X6_44 (by decide) ?_
    refine rn_iload_n (i := 1) (x := x1) dX6_isSign_12 rfl (by simp) ?_
    refine rn_icmp_ne (tgt := 20) dX6_isSign_13 (by decide) (ite_go h (fun hc h => ?_) (fun hc h => ?_))
    · refine rn_iconst (v := 1) dX6_isSign_16 rfl ?_
      refine rn_goto (tgt := 21) dX6_isSign_17 (by decide) ?_
      exact rn_zret dX6_isSign_21 rfl (by decide) ⟨_, rfl, h⟩
    · refine rn_iconst (v := 0) dX6_isSign_20 rfl ?_
      exact rn_zret dX6_isSign_21 rfl (by decide) ⟨_, rfl, h⟩
  · refine rn_iconst (v := 0) dX6_isSign_20 rfl ?_
    exact rn_zret dX6_isSign_21 rfl (by decide) ⟨_, rfl, h⟩
theorem dX6_takeWord_0 : decode μX6_takeWord.2.1 0 = .ok (.aload_n 0, 1) := by decide +kernel
theorem dX6_takeWord_1 : decode μX6_takeWord.2.1 1 = .ok (.iload_n 1, 1) := by decide +kernel
theorem dX6_takeWord_2 : decode μX6_takeWord.2.1 2 = .ok (.invokevirtual 60, 3) := by decide +kernel
theorem dX6_takeWord_5 : decode μX6_takeWord.2.1 5 = .ok (.ifCond .eq 10, 3) := by decide +kernel
theorem dX6_takeWord_8 : decode μX6_takeWord.2.1 8 = .ok (.aload_n 0, 1) := by decide +kernel
theorem dX6_takeWord_9 : decode μX6_takeWord.2.1 9 = .ok (.invokevirtual 57, 3) := by decide +kernel
theorem dX6_takeWord_12 : decode μX6_takeWord.2.1 12 = .ok (.goto 8, 3) := by decide +kernel
theorem dX6_takeWord_15 : decode μX6_takeWord.2.1 15 = .ok (.aload_n 0, 1) := by decide +kernel
theorem dX6_takeWord_16 : decode μX6_takeWord.2.1 16 = .ok (.iconst 2, 1) := by decide +kernel
theorem dX6_takeWord_17 : decode μX6_takeWord.2.1 17 = .ok (.invokevirtual 79, 3) := by decide +kernel
theorem dX6_takeWord_20 : decode μX6_takeWord.2.1 20 = .ok (.return_, 1) := by decide +kernel
set_option maxRecDepth 20000 in
theorem sg_X6_takeWord_0 {d : Nat} {x1 : Int32} {M : Mem} {K : (Mem → Prop)}  (h : (CI d μX6_isWord [.ref 1, .int x1] M (fun r2 M1 => (if r2 = 0 then (CV d μX6_blame [.ref 1, .int 2] M1 (fun M3 => K M3)) else (CV d μX6_advance [.ref 1] M1 (fun M4 => K M4)))))) : CV (d + 1) μX6_takeWord [.ref 1, .int x1] M K := by
  show Rn (d + 1) μX6_takeWord 0 [(0, .ref 1), (1, .int x1)] [] M _
  refine rn_aload_n (i := 0) (x := 1) dX6_takeWord_0 rfl (by simp) ?_
  refine rn_iload_n (i := 1) (x := x1) dX6_takeWord_1 rfl (by simp) ?_
  refine rn_callVi (as := [.int x1]) (st := []) dX6_takeWord_2 mf_X6_isWord lk_X6_60 im_X6_isWord rfl rfl rfl rfl (Nat.le_of_ble_eq_true rfl) (Nat.le_of_ble_eq_true rfl) rfl (RI.mono h (fun r2 M1 h => ?_))
  refine rn_if_eq (tgt := 15) dX6_takeWord_5 (by decide) (ite_go h (fun hc h => ?_) (fun hc h => ?_))
  · refine rn_aload_n (i := 0) (x := 1) dX6_takeWord_15 rfl (by simp) ?_
    refine rn_iconst (v := 2) dX6_takeWord_16 rfl ?_
    refine rn_callVv (as := [.int 2]) (st := []) dX6_takeWord_17 mf_X6_blame lk_X6_79 im_X6_blame rfl rfl rfl rfl (Nat.le_of_ble_eq_true rfl) (Nat.le_of_ble_eq_true rfl) rfl (RV.mono h (fun M3 h => ?_))
    exact rn_ret dX6_takeWord_20 rfl ⟨rfl, h⟩
  · refine rn_aload_n (i := 0) (x := 1) dX6_takeWord_8 rfl (by simp) ?_
    refine rn_callVv (as := []) (st := []) dX6_takeWord_9 mf_X6_advance lk_X6_57 im_X6_advance rfl rfl rfl rfl (Nat.le_of_ble_eq_true rfl) (Nat.le_of_ble_eq_true rfl) rfl (RV.mono h (fun M4 h => ?_))
    refine rn_goto (tgt := 20) dX6_takeWord_12 (by decide) ?_
    exact rn_ret dX6_takeWord_20 rfl ⟨rfl, h⟩
theorem dX6_takeSign_0 : decode μX6_takeSign.2.1 0 = .ok (.aload_n 0, 1) := by decide +kernel
theorem dX6_takeSign_1 : decode μX6_takeSign.2.1 1 = .ok (.iload_n 1, 1) := by decide +kernel
theorem dX6_takeSign_2 : decode μX6_takeSign.2.1 2 = .ok (.invokevirtual 114, 3) := by decide +kernel
theorem dX6_takeSign_5 : decode μX6_takeSign.2.1 5 = .ok (.ifCond .eq 10, 3) := by decide +kernel
theorem dX6_takeSign_8 : decode μX6_takeSign.2.1 8 = .ok (.aload_n 0, 1) := by decide +kernel
theorem dX6_takeSign_9 : decode μX6_takeSign.2.1 9 = .ok (.invokevirtual 57, 3) := by decide +kernel
theorem dX6_takeSign_12 : decode μX6_takeSign.2.1 12 = .ok (.goto 8, 3) := by decide +kernel
theorem dX6_takeSign_15 : decode μX6_takeSign.2.1 15 = .ok (.aload_n 0, 1) := by decide +kernel
theorem dX6_takeSign_16 : decode μX6_takeSign.2.1 16 = .ok (.iconst 2, 1) := by decide +kernel
theorem dX6_takeSign_17 : decode μX6_takeSign.2.1 17 = .ok (.invokevirtual 79, 3) := by decide +kernel
theorem dX6_takeSign_20 : decode μX6_takeSign.2.1 20 = .ok (.return_, 1) := by decide +kernel
set_option maxRecDepth 20000 in
theorem sg_X6_takeSign_0 {d : Nat} {x1 : Int32} {M : Mem} {K : (Mem → Prop)}  (h : (CI d μX6_isSign [.ref 1, .int x1] M (fun r2 M1 => (if r2 = 0 then (CV d μX6_blame [.ref 1, .int 2] M1 (fun M3 => K M3)) else (CV d μX6_advance [.ref 1] M1 (fun M4 => K M4)))))) : CV (d + 1) μX6_takeSign [.ref 1, .int x1] M K := by
  show Rn (d + 1) μX6_takeSign 0 [(0, .ref 1), (1, .int x1)] [] M _
  refine rn_aload_n (i := 0) (x := 1) dX6_takeSign_0 rfl (by simp) ?_
  refine rn_iload_n (i := 1) (x := x1) dX6_takeSign_1 rfl (by simp) ?_
  refine rn_callVi (as := [.int x1]) (st := []) dX6_takeSign_2 mf_X6_isSign lk_X6_114 im_X6_isSign rfl rfl rfl rfl (Nat.le_of_ble_eq_true rfl) (Nat.le_of_ble_eq_true rfl) rfl (RI.mono h (fun r2 M1 h => ?_))
  refine rn_if_eq (tgt := 15) dX6_takeSign_5 (by decide) (ite_go h (fun hc h => ?_) (fun hc h => ?_))
  · refine rn_aload_n (i := 0) (x := 1) dX6_takeSign_15 rfl (by simp) ?_
    refine rn_iconst (v := 2) dX6_takeSign_16 rfl ?_
    refine rn_callVv (as := [.int 2]) (st := []) dX6_takeSign_17 mf_X6_blame lk_X6_79 im_X6_blame rfl rfl rfl rfl (Nat.le_of_ble_eq_true rfl) (Nat.le_of_ble_eq_true rfl) rfl (RV.mono h (fun M3 h => ?_))
    exact rn_ret dX6_takeSign_20 rfl ⟨rfl, h⟩
  · refine rn_aload_n (i := 0) (x := 1) dX6_takeSign_8 rfl (by simp) ?_
    refine rn_callVv (as := []) (st := []) dX6_takeSign_9 mf_X6_advance lk_X6_57 im_X6_advance rfl rfl rfl rfl (Nat.le_of_ble_eq_true rfl) (Nat.le_of_ble_eq_true rfl) rfl (RV.mono h (fun M4 h => ?_))
    refine rn_goto (tgt := 20) dX6_takeSign_12 (by decide) ?_
    exact rn_ret dX6_takeSign_20 rfl ⟨rfl, h⟩
theorem dX6_takeNumber_0 : decode μX6_takeNumber.2.1 0 = .ok (.aload_n 0, 1) := by decide +kernel
theorem dX6_takeNumber_1 : decode μX6_takeNumber.2.1 1 = .ok (.getfield 35, 3) := by decide +kernel
theorem dX6_takeNumber_4 : decode μX6_takeNumber.2.1 4 = .ok (.iconst 2, 1) := by decide +kernel
theorem dX6_takeNumber_5 : decode μX6_takeNumber.2.1 5 = .ok (.if_icmp .eq 10, 3) := by decide +kernel
theorem dX6_takeNumber_8 : decode μX6_takeNumber.2.1 8 = .ok (.aload_n 0, 1) := by decide +kernel
theorem dX6_takeNumber_9 : decode μX6_takeNumber.2.1 9 = .ok (.iconst 2, 1) := by decide +kernel
theorem dX6_takeNumber_10 : decode μX6_takeNumber.2.1 10 = .ok (.invokevirtual 79, 3) := by decide +kernel
theorem dX6_takeNumber_13 : decode μX6_takeNumber.2.1 13 = .ok (.iconst 0, 1) := by decide +kernel
theorem dX6_takeNumber_14 : decode μX6_takeNumber.2.1 14 = .ok (.ireturn, 1) := by decide +kernel
theorem dX6_takeNumber_15 : decode μX6_takeNumber.2.1 15 = .ok (.aload_n 0, 1) := by decide +kernel
theorem dX6_takeNumber_16 : decode μX6_takeNumber.2.1 16 = .ok (.getfield 41, 3) := by decide +kernel
theorem dX6_takeNumber_19 : decode μX6_takeNumber.2.1 19 = .ok (.iload_n 1, 1) := by decide +kernel
theorem dX6_takeNumber_20 : decode μX6_takeNumber.2.1 20 = .ok (.if_icmp .le 10, 3) := by decide +kernel
theorem dX6_takeNumber_23 : decode μX6_takeNumber.2.1 23 = .ok (.aload_n 0, 1) := by decide +kernel
theorem dX6_takeNumber_24 : decode μX6_takeNumber.2.1 24 = .ok (.iconst 4, 1) := by decide +kernel
theorem dX6_takeNumber_25 : decode μX6_takeNumber.2.1 25 = .ok (.invokevirtual 79, 3) := by decide +kernel
theorem dX6_takeNumber_28 : decode μX6_takeNumber.2.1 28 = .ok (.iconst 0, 1) := by decide +kernel
theorem dX6_takeNumber_29 : decode μX6_takeNumber.2.1 29 = .ok (.ireturn, 1) := by decide +kernel
theorem dX6_takeNumber_30 : decode μX6_takeNumber.2.1 30 = .ok (.aload_n 0, 1) := by decide +kernel
theorem dX6_takeNumber_31 : decode μX6_takeNumber.2.1 31 = .ok (.getfield 41, 3) := by decide +kernel
theorem dX6_takeNumber_34 : decode μX6_takeNumber.2.1 34 = .ok (.istore_n 2, 1) := by decide +kernel
theorem dX6_takeNumber_35 : decode μX6_takeNumber.2.1 35 = .ok (.aload_n 0, 1) := by decide +kernel
theorem dX6_takeNumber_36 : decode μX6_takeNumber.2.1 36 = .ok (.invokevirtual 57, 3) := by decide +kernel
theorem dX6_takeNumber_39 : decode μX6_takeNumber.2.1 39 = .ok (.iload_n 2, 1) := by decide +kernel
theorem dX6_takeNumber_40 : decode μX6_takeNumber.2.1 40 = .ok (.ireturn, 1) := by decide +kernel
set_option maxRecDepth 20000 in
theorem sg_X6_takeNumber_0 {d : Nat} {x1 : Int32} {M : Mem} {K : (Int32 → Mem → Prop)}  (h : (if ri M 1 6 = 2 then (if ri M 1 8 ≤ x1 then (CV d μX6_advance [.ref 1] M (fun M1 => K (ri M 1 8) M1)) else (CV d μX6_blame [.ref 1, .int 4] M (fun M2 => K 0 M2))) else (CV d μX6_blame [.ref 1, .int 2] M (fun M3 => K 0 M3)))) : CI (d + 1) μX6_takeNumber [.ref 1, .int x1] M K := by
  show Rn (d + 1) μX6_takeNumber 0 [(0, .ref 1), (1, .int x1)] [] M _
  refine rn_aload_n (i := 0) (x := 1) dX6_takeNumber_0 rfl (by simp) ?_
  refine rn_geti dX6_takeNumber_1 rfl gf_X6_35 (by decide) ?_
  refine rn_iconst (v := 2) dX6_takeNumber_4 rfl ?_
  refine rn_icmp_eq (tgt := 15) dX6_takeNumber_5 (by decide) (ite_go h (fun hc h => ?_) (fun hc h => ?_))
  · refine rn_aload_n (i := 0) (x := 1) dX6_takeNumber_15 rfl (by simp) ?_
    refine rn_geti dX6_takeNumber_16 rfl gf_X6_41 (by decide) ?_
    refine rn_iload_n (i := 1) (x := x1) dX6_takeNumber_19 rfl (by simp) ?_
    refine rn_icmp_le (tgt := 30) dX6_takeNumber_20 (by decide) (ite_go h (fun hc h => ?_) (fun hc h => ?_))
    · refine rn_aload_n (i := 0) (x := 1) dX6_takeNumber_30 rfl (by simp) ?_
      refine rn_geti dX6_takeNumber_31 rfl gf_X6_41 (by decide) ?_
      refine rn_istore_n (lv' := [(0, .ref 1), (1, .int x1), (2, .int (ri M 1 8))]) (hd := dX6_takeNumber_34) (i := 2) (hi := rfl) (hn := by decide) (hf := rfl) (hl := rfl) ?_
      refine rn_aload_n (i := 0) (x := 1) dX6_takeNumber_35 rfl (by simp) ?_
      refine rn_callVv (as := []) (st := []) dX6_takeNumber_36 mf_X6_advance lk_X6_57 im_X6_advance rfl rfl rfl rfl (Nat.le_of_ble_eq_true rfl) (Nat.le_of_ble_eq_true rfl) rfl (RV.mono h (fun M1 h => ?_))
      refine rn_iload_n (i := 2) (x := ri M 1 8) dX6_takeNumber_39 rfl (by simp) ?_
      exact rn_iret dX6_takeNumber_40 rfl ⟨_, rfl, h⟩
    · refine rn_aload_n (i := 0) (x := 1) dX6_takeNumber_23 rfl (by simp) ?_
      refine rn_iconst (v := 4) dX6_takeNumber_24 rfl ?_
      refine rn_callVv (as := [.int 4]) (st := []) dX6_takeNumber_25 mf_X6_blame lk_X6_79 im_X6_blame rfl rfl rfl rfl (Nat.le_of_ble_eq_true rfl) (Nat.le_of_ble_eq_true rfl) rfl (RV.mono h (fun M2 h => ?_))
      refine rn_iconst (v := 0) dX6_takeNumber_28 rfl ?_
      exact rn_iret dX6_takeNumber_29 rfl ⟨_, rfl, h⟩
  · refine rn_aload_n (i := 0) (x := 1) dX6_takeNumber_8 rfl (by simp) ?_
    refine rn_iconst (v := 2) dX6_takeNumber_9 rfl ?_
    refine rn_callVv (as := [.int 2]) (st := []) dX6_takeNumber_10 mf_X6_blame lk_X6_79 im_X6_blame rfl rfl rfl rfl (Nat.le_of_ble_eq_true rfl) (Nat.le_of_ble_eq_true rfl) rfl (RV.mono h (fun M3 h => ?_))
    refine rn_iconst (v := 0) dX6_takeNumber_13 rfl ?_
    exact rn_iret dX6_takeNumber_14 rfl ⟨_, rfl, h⟩
theorem dX6_lordHere_0 : decode μX6_lordHere.2.1 0 = .ok (.aload_n 0, 1) := by decide +kernel
theorem dX6_lordHere_1 : decode μX6_lordHere.2.1 1 = .ok (.getfield 35, 3) := by decide +kernel
theorem dX6_lordHere_4 : decode μX6_lordHere.2.1 4 = .ok (.iconst 1, 1) := by decide +kernel
theorem dX6_lordHere_5 : decode μX6_lordHere.2.1 5 = .ok (.if_icmp .ne 11, 3) := by decide +kernel
theorem dX6_lordHere_8 : decode μX6_lordHere.2.1 8 = .ok (.aload_n 0, 1) := by decide +kernel
theorem dX6_lordHere_9 : decode μX6_lordHere.2.1 9 = .ok (.getfield 47, 3) := by decide +kernel
theorem dX6_lordHere_12 : decode μX6_lordHere.2.1 12 = .ok (.iconst (-1), 1) := by decide +kernel
theorem dX6_lordHere_13 : decode μX6_lordHere.2.1 13 = .ok (.if_icmp .eq 10, 3) := by decide +kernel
theorem dX6_lordHere_16 : decode μX6_lordHere.2.1 16 = .ok (.aload_n 0, 1) := by decide +kernel
theorem dX6_lordHere_17 : decode μX6_lordHere.2.1 17 = .ok (.iconst 2, 1) := by decide +kernel
theorem dX6_lordHere_18 : decode μX6_lordHere.2.1 18 = .ok (.invokevirtual 79, 3) := by decide +kernel
theorem dX6_lordHere_21 : decode μX6_lordHere.2.1 21 = .ok (.iconst (-1), 1) := by decide +kernel
theorem dX6_lordHere_22 : decode μX6_lordHere.2.1 22 = .ok (.ireturn, 1) := by decide +kernel
theorem dX6_lordHere_23 : decode μX6_lordHere.2.1 23 = .ok (.aload_n 0, 1) := by decide +kernel
theorem dX6_lordHere_24 : decode μX6_lordHere.2.1 24 = .ok (.getfield 24, 3) := by decide +kernel
theorem dX6_lordHere_27 : decode μX6_lordHere.2.1 27 = .ok (.aload_n 0, 1) := by decide +kernel
theorem dX6_lordHere_28 : decode μX6_lordHere.2.1 28 = .ok (.getfield 50, 3) := by decide +kernel
theorem dX6_lordHere_31 : decode μX6_lordHere.2.1 31 = .ok (.invokevirtual 118, 3) := by decide +kernel
theorem dX6_lordHere_34 : decode μX6_lordHere.2.1 34 = .ok (.istore_n 1, 1) := by decide +kernel
theorem dX6_lordHere_35 : decode μX6_lordHere.2.1 35 = .ok (.iload_n 1, 1) := by decide +kernel
theorem dX6_lordHere_36 : decode μX6_lordHere.2.1 36 = .ok (.iconst (-1), 1) := by decide +kernel
theorem dX6_lordHere_37 : decode μX6_lordHere.2.1 37 = .ok (.if_icmp .ne 8, 3) := by decide +kernel
theorem dX6_lordHere_40 : decode μX6_lordHere.2.1 40 = .ok (.aload_n 0, 1) := by decide +kernel
theorem dX6_lordHere_41 : decode μX6_lordHere.2.1 41 = .ok (.iconst 5, 1) := by decide +kernel
theorem dX6_lordHere_42 : decode μX6_lordHere.2.1 42 = .ok (.invokevirtual 79, 3) := by decide +kernel
theorem dX6_lordHere_45 : decode μX6_lordHere.2.1 45 = .ok (.iload_n 1, 1) := by decide +kernel
theorem dX6_lordHere_46 : decode μX6_lordHere.2.1 46 = .ok (.ireturn, 1) := by decide +kernel
set_option maxRecDepth 20000 in
theorem sg_X6_lordHere_0 {d : Nat}  {M : Mem} {K : (Int32 → Mem → Prop)}  (h : (if ri M 1 6 = 1 then (if ri M 1 10 = (-1) then (∃ t1, nx (ri M 1 3) = t1 ∧ kd t1 = (0, 7) ∧ (CI d μX7_lordNamed [.ref t1, .long (rl M 1 11)] M (fun r3 M2 => (if r3 = (-1) then (CV d μX6_blame [.ref 1, .int 5] M2 (fun M4 => K r3 M4)) else K r3 M2)))) else (CV d μX6_blame [.ref 1, .int 2] M (fun M5 => K ((-1)) M5))) else (CV d μX6_blame [.ref 1, .int 2] M (fun M6 => K ((-1)) M6)))) : CI (d + 1) μX6_lordHere [.ref 1] M K := by
  show Rn (d + 1) μX6_lordHere 0 [(0, .ref 1)] [] M _
  refine rn_aload_n (i := 0) (x := 1) dX6_lordHere_0 rfl (by simp) ?_
  refine rn_geti dX6_lordHere_1 rfl gf_X6_35 (by decide) ?_
  refine rn_iconst (v := 1) dX6_lordHere_4 rfl ?_
  refine rn_icmp_ne (tgt := 16) dX6_lordHere_5 (by decide) (ite_go h (fun hc h => ?_) (fun hc h => ?_))
  · refine rn_aload_n (i := 0) (x := 1) dX6_lordHere_8 rfl (by simp) ?_
    refine rn_geti dX6_lordHere_9 rfl gf_X6_47 (by decide) ?_
    refine rn_iconst (v := -1) dX6_lordHere_12 rfl ?_
    refine rn_icmp_eq (tgt := 23) dX6_lordHere_13 (by decide) (ite_go h (fun hc h => ?_) (fun hc h => ?_))
    · refine rn_aload_n (i := 0) (x := 1) dX6_lordHere_23 rfl (by simp) ?_
      obtain ⟨t1, ht1e, ht1, h⟩ := h
      refine rn_getd dX6_lordHere_24 rfl gf_X6_24 rfl ht1e ?_
      refine rn_aload_n (i := 0) (x := 1) dX6_lordHere_27 rfl (by simp) ?_
      refine rn_getl dX6_lordHere_28 rfl gf_X6_50 rfl ?_
      refine rn_callVi (as := [.long (rl M 1 11)]) (st := []) dX6_lordHere_31 mf_X7_lordNamed lk_X6_118 im_X7_lordNamed ht1 rfl rfl rfl (Nat.le_of_ble_eq_true rfl) (Nat.le_of_ble_eq_true rfl) rfl (RI.mono h (fun r3 M2 h => ?_))
      refine rn_istore_n (lv' := [(0, .ref 1), (1, .int r3)]) (hd := dX6_lordHere_34) (i := 1) (hi := rfl) (hn := by decide) (hf := rfl) (hl := rfl) ?_
      refine rn_iload_n (i := 1) (x := r3) dX6_lordHere_35 rfl (by simp) ?_
      refine rn_iconst (v := -1) dX6_lordHere_36 rfl ?_
      refine rn_icmp_ne (tgt := 45) dX6_lordHere_37 (by decide) (ite_go h (fun hc h => ?_) (fun hc h => ?_))
      · refine rn_aload_n (i := 0) (x := 1) dX6_lordHere_40 rfl (by simp) ?_
        refine rn_iconst (v := 5) dX6_lordHere_41 rfl ?_
        refine rn_callVv (as := [.int 5]) (st := []) dX6_lordHere_42 mf_X6_blame lk_X6_79 im_X6_blame rfl rfl rfl rfl (Nat.le_of_ble_eq_true rfl) (Nat.le_of_ble_eq_true rfl) rfl (RV.mono h (fun M4 h => ?_))
        refine rn_iload_n (i := 1) (x := r3) dX6_lordHere_45 rfl (by simp) ?_
        exact rn_iret dX6_lordHere_46 rfl ⟨_, rfl, h⟩
      · refine rn_iload_n (i := 1) (x := r3) dX6_lordHere_45 rfl (by simp) ?_
        exact rn_iret dX6_lordHere_46 rfl ⟨_, rfl, h⟩
    · refine rn_aload_n (i := 0) (x := 1) dX6_lordHere_16 rfl (by simp) ?_
      refine rn_iconst (v := 2) dX6_lordHere_17 rfl ?_
      refine rn_callVv (as := [.int 2]) (st := []) dX6_lordHere_18 mf_X6_blame lk_X6_79 im_X6_blame rfl rfl rfl rfl (Nat.le_of_ble_eq_true rfl) (Nat.le_of_ble_eq_true rfl) rfl (RV.mono h (fun M5 h => ?_))
      refine rn_iconst (v := -1) dX6_lordHere_21 rfl ?_
      exact rn_iret dX6_lordHere_22 rfl ⟨_, rfl, h⟩
  · refine rn_aload_n (i := 0) (x := 1) dX6_lordHere_16 rfl (by simp) ?_
    refine rn_iconst (v := 2) dX6_lordHere_17 rfl ?_
    refine rn_callVv (as := [.int 2]) (st := []) dX6_lordHere_18 mf_X6_blame lk_X6_79 im_X6_blame rfl rfl rfl rfl (Nat.le_of_ble_eq_true rfl) (Nat.le_of_ble_eq_true rfl) rfl (RV.mono h (fun M6 h => ?_))
    refine rn_iconst (v := -1) dX6_lordHere_21 rfl ?_
    exact rn_iret dX6_lordHere_22 rfl ⟨_, rfl, h⟩
theorem dX6_readLord_0 : decode μX6_readLord.2.1 0 = .ok (.aload_n 0, 1) := by decide +kernel
theorem dX6_readLord_1 : decode μX6_readLord.2.1 1 = .ok (.getfield 24, 3) := by decide +kernel
theorem dX6_readLord_4 : decode μX6_readLord.2.1 4 = .ok (.getfield 122, 3) := by decide +kernel
theorem dX6_readLord_7 : decode μX6_readLord.2.1 7 = .ok (.getfield 126, 3) := by decide +kernel
theorem dX6_readLord_10 : decode μX6_readLord.2.1 10 = .ok (.bipush 8, 2) := by decide +kernel
theorem dX6_readLord_12 : decode μX6_readLord.2.1 12 = .ok (.if_icmp .lt 9, 3) := by decide +kernel
theorem dX6_readLord_15 : decode μX6_readLord.2.1 15 = .ok (.aload_n 0, 1) := by decide +kernel
theorem dX6_readLord_16 : decode μX6_readLord.2.1 16 = .ok (.iconst 2, 1) := by decide +kernel
theorem dX6_readLord_17 : decode μX6_readLord.2.1 17 = .ok (.invokevirtual 79, 3) := by decide +kernel
theorem dX6_readLord_20 : decode μX6_readLord.2.1 20 = .ok (.return_, 1) := by decide +kernel
theorem dX6_readLord_21 : decode μX6_readLord.2.1 21 = .ok (.aload_n 0, 1) := by decide +kernel
theorem dX6_readLord_22 : decode μX6_readLord.2.1 22 = .ok (.invokevirtual 57, 3) := by decide +kernel
theorem dX6_readLord_25 : decode μX6_readLord.2.1 25 = .ok (.aload_n 0, 1) := by decide +kernel
theorem dX6_readLord_26 : decode μX6_readLord.2.1 26 = .ok (.getfield 50, 3) := by decide +kernel
theorem dX6_readLord_29 : decode μX6_readLord.2.1 29 = .ok (.lstore_n 1, 1) := by decide +kernel
theorem dX6_readLord_30 : decode μX6_readLord.2.1 30 = .ok (.aload_n 0, 1) := by decide +kernel
theorem dX6_readLord_31 : decode μX6_readLord.2.1 31 = .ok (.getfield 35, 3) := by decide +kernel
theorem dX6_readLord_34 : decode μX6_readLord.2.1 34 = .ok (.iconst 1, 1) := by decide +kernel
theorem dX6_readLord_35 : decode μX6_readLord.2.1 35 = .ok (.if_icmp .ne 11, 3) := by decide +kernel
theorem dX6_readLord_38 : decode μX6_readLord.2.1 38 = .ok (.aload_n 0, 1) := by decide +kernel
theorem dX6_readLord_39 : decode μX6_readLord.2.1 39 = .ok (.getfield 47, 3) := by decide +kernel
theorem dX6_readLord_42 : decode μX6_readLord.2.1 42 = .ok (.iconst (-1), 1) := by decide +kernel
theorem dX6_readLord_43 : decode μX6_readLord.2.1 43 = .ok (.if_icmp .eq 11, 3) := by decide +kernel
theorem dX6_readLord_46 : decode μX6_readLord.2.1 46 = .ok (.aload_n 0, 1) := by decide +kernel
theorem dX6_readLord_47 : decode μX6_readLord.2.1 47 = .ok (.iconst 2, 1) := by decide +kernel
theorem dX6_readLord_48 : decode μX6_readLord.2.1 48 = .ok (.invokevirtual 79, 3) := by decide +kernel
theorem dX6_readLord_51 : decode μX6_readLord.2.1 51 = .ok (.goto 20, 3) := by decide +kernel
theorem dX6_readLord_54 : decode μX6_readLord.2.1 54 = .ok (.aload_n 0, 1) := by decide +kernel
theorem dX6_readLord_55 : decode μX6_readLord.2.1 55 = .ok (.getfield 24, 3) := by decide +kernel
theorem dX6_readLord_58 : decode μX6_readLord.2.1 58 = .ok (.lload_n 1, 1) := by decide +kernel
theorem dX6_readLord_59 : decode μX6_readLord.2.1 59 = .ok (.invokevirtual 118, 3) := by decide +kernel
theorem dX6_readLord_62 : decode μX6_readLord.2.1 62 = .ok (.iconst (-1), 1) := by decide +kernel
theorem dX6_readLord_63 : decode μX6_readLord.2.1 63 = .ok (.if_icmp .eq 8, 3) := by decide +kernel
theorem dX6_readLord_66 : decode μX6_readLord.2.1 66 = .ok (.aload_n 0, 1) := by decide +kernel
theorem dX6_readLord_67 : decode μX6_readLord.2.1 67 = .ok (.iconst 3, 1) := by decide +kernel
theorem dX6_readLord_68 : decode μX6_readLord.2.1 68 = .ok (.invokevirtual 79, 3) := by decide +kernel
theorem dX6_readLord_71 : decode μX6_readLord.2.1 71 = .ok (.aload_n 0, 1) := by decide +kernel
theorem dX6_readLord_72 : decode μX6_readLord.2.1 72 = .ok (.invokevirtual 57, 3) := by decide +kernel
theorem dX6_readLord_75 : decode μX6_readLord.2.1 75 = .ok (.aload_n 0, 1) := by decide +kernel
theorem dX6_readLord_76 : decode μX6_readLord.2.1 76 = .ok (.iconst 5, 1) := by decide +kernel
theorem dX6_readLord_77 : decode μX6_readLord.2.1 77 = .ok (.invokevirtual 131, 3) := by decide +kernel
theorem dX6_readLord_80 : decode μX6_readLord.2.1 80 = .ok (.aload_n 0, 1) := by decide +kernel
theorem dX6_readLord_81 : decode μX6_readLord.2.1 81 = .ok (.sipush 999, 3) := by decide +kernel
theorem dX6_readLord_84 : decode μX6_readLord.2.1 84 = .ok (.invokevirtual 134, 3) := by decide +kernel
theorem dX6_readLord_87 : decode μX6_readLord.2.1 87 = .ok (.istore_n 3, 1) := by decide +kernel
theorem dX6_readLord_88 : decode μX6_readLord.2.1 88 = .ok (.aload_n 0, 1) := by decide +kernel
theorem dX6_readLord_89 : decode μX6_readLord.2.1 89 = .ok (.getfield 24, 3) := by decide +kernel
theorem dX6_readLord_92 : decode μX6_readLord.2.1 92 = .ok (.getfield 122, 3) := by decide +kernel
theorem dX6_readLord_95 : decode μX6_readLord.2.1 95 = .ok (.getfield 126, 3) := by decide +kernel
theorem dX6_readLord_98 : decode μX6_readLord.2.1 98 = .ok (.iconst 3, 1) := by decide +kernel
theorem dX6_readLord_99 : decode μX6_readLord.2.1 99 = .ok (.if_icmp .ge 7, 3) := by decide +kernel
theorem dX6_readLord_102 : decode μX6_readLord.2.1 102 = .ok (.iconst 0, 1) := by decide +kernel
theorem dX6_readLord_103 : decode μX6_readLord.2.1 103 = .ok (.goto 7, 3) := by decide +kernel
theorem dX6_readLord_106 : decode μX6_readLord.2.1 106 = .ok (.aload_n 0, 1) := by decide +kernel
theorem dX6_readLord_107 : decode μX6_readLord.2.1 107 = .ok (.invokevirtual 137, 3) := by decide +kernel
theorem dX6_readLord_110 : decode μX6_readLord.2.1 110 = .ok (.istore 4, 2) := by decide +kernel
theorem dX6_readLord_112 : decode μX6_readLord.2.1 112 = .ok (.aload_n 0, 1) := by decide +kernel
theorem dX6_readLord_113 : decode μX6_readLord.2.1 113 = .ok (.bipush 59, 2) := by decide +kernel
theorem dX6_readLord_115 : decode μX6_readLord.2.1 115 = .ok (.invokevirtual 141, 3) := by decide +kernel
theorem dX6_readLord_118 : decode μX6_readLord.2.1 118 = .ok (.aload_n 0, 1) := by decide +kernel
theorem dX6_readLord_119 : decode μX6_readLord.2.1 119 = .ok (.getfield 9, 3) := by decide +kernel
theorem dX6_readLord_122 : decode μX6_readLord.2.1 122 = .ok (.ifCond .ne 14, 3) := by decide +kernel
theorem dX6_readLord_125 : decode μX6_readLord.2.1 125 = .ok (.aload_n 0, 1) := by decide +kernel
theorem dX6_readLord_126 : decode μX6_readLord.2.1 126 = .ok (.getfield 24, 3) := by decide +kernel
theorem dX6_readLord_129 : decode μX6_readLord.2.1 129 = .ok (.lload_n 1, 1) := by decide +kernel
theorem dX6_readLord_130 : decode μX6_readLord.2.1 130 = .ok (.iload_n 3, 1) := by decide +kernel
theorem dX6_readLord_131 : decode μX6_readLord.2.1 131 = .ok (.iload 4, 2) := by decide +kernel
theorem dX6_readLord_133 : decode μX6_readLord.2.1 133 = .ok (.invokevirtual 145, 3) := by decide +kernel
theorem dX6_readLord_136 : decode μX6_readLord.2.1 136 = .ok (.return_, 1) := by decide +kernel
set_option maxRecDepth 20000 in
theorem sg_X6_readLord_0 {d : Nat}  {M : Mem} {K : (Mem → Prop)}  (h : (∃ t1, nx (ri M 1 3) = t1 ∧ kd t1 = (0, 7) ∧ (if ri M (t1 + 1) 0 < 8 then (CV d μX6_advance [.ref 1] M (fun M2 => (if ri M2 1 6 = 1 then (if ri M2 1 10 = (-1) then (∃ t3, nx (ri M2 1 3) = t3 ∧ kd t3 = (0, 7) ∧ (CI d μX7_lordNamed [.ref t3, .long (rl M2 1 11)] M2 (fun r5 M4 => (if r5 = (-1) then RV (d + 1) μX6_readLord 71 [(0, .ref 1), (1, .long (rl M2 1 11))] [] M4 K else (CV d μX6_blame [.ref 1, .int 3] M4 (fun M6 => RV (d + 1) μX6_readLord 71 [(0, .ref 1), (1, .long (rl M2 1 11))] [] M6 K)))))) else (CV d μX6_blame [.ref 1, .int 2] M2 (fun M7 => RV (d + 1) μX6_readLord 71 [(0, .ref 1), (1, .long (rl M2 1 11))] [] M7 K))) else (CV d μX6_blame [.ref 1, .int 2] M2 (fun M8 => RV (d + 1) μX6_readLord 71 [(0, .ref 1), (1, .long (rl M2 1 11))] [] M8 K))))) else (CV d μX6_blame [.ref 1, .int 2] M (fun M9 => K M9))))) : CV (d + 1) μX6_readLord [.ref 1] M K := by
  show Rn (d + 1) μX6_readLord 0 [(0, .ref 1)] [] M _
  refine rn_aload_n (i := 0) (x := 1) dX6_readLord_0 rfl (by simp) ?_
  obtain ⟨t1, ht1e, ht1, h⟩ := h
  refine rn_getd dX6_readLord_1 rfl gf_X6_24 rfl ht1e ?_
  refine rn_getr (t := t1 + 1) dX6_readLord_4 ht1 gf_X6_122 rfl (telling_refs _ ht1).1.1 ?_
  refine rn_geti dX6_readLord_7 (telling_refs _ ht1).1.2 gf_X6_126 (by decide) ?_
  refine rn_bipush (v := 8) dX6_readLord_10 rfl ?_
  refine rn_icmp_lt (tgt := 21) dX6_readLord_12 (by decide) (ite_go h (fun hc h => ?_) (fun hc h => ?_))
  · refine rn_aload_n (i := 0) (x := 1) dX6_readLord_21 rfl (by simp) ?_
    refine rn_callVv (as := []) (st := []) dX6_readLord_22 mf_X6_advance lk_X6_57 im_X6_advance rfl rfl rfl rfl (Nat.le_of_ble_eq_true rfl) (Nat.le_of_ble_eq_true rfl) rfl (RV.mono h (fun M2 h => ?_))
    refine rn_aload_n (i := 0) (x := 1) dX6_readLord_25 rfl (by simp) ?_
    refine rn_getl dX6_readLord_26 rfl gf_X6_50 rfl ?_
    refine rn_lstore_n (lv' := [(0, .ref 1), (1, .long (rl M2 1 11))]) (hd := dX6_readLord_29) (i := 1) (hi := rfl) (hn := by decide) (hf := rfl) (hl := rfl) ?_
    refine rn_aload_n (i := 0) (x := 1) dX6_readLord_30 rfl (by simp) ?_
    refine rn_geti dX6_readLord_31 rfl gf_X6_35 (by decide) ?_
    refine rn_iconst (v := 1) dX6_readLord_34 rfl ?_
    refine rn_icmp_ne (tgt := 46) dX6_readLord_35 (by decide) (ite_go h (fun hc h => ?_) (fun hc h => ?_))
    · refine rn_aload_n (i := 0) (x := 1) dX6_readLord_38 rfl (by simp) ?_
      refine rn_geti dX6_readLord_39 rfl gf_X6_47 (by decide) ?_
      refine rn_iconst (v := -1) dX6_readLord_42 rfl ?_
      refine rn_icmp_eq (tgt := 54) dX6_readLord_43 (by decide) (ite_go h (fun hc h => ?_) (fun hc h => ?_))
      · refine rn_aload_n (i := 0) (x := 1) dX6_readLord_54 rfl (by simp) ?_
        obtain ⟨t3, ht3e, ht3, h⟩ := h
        refine rn_getd dX6_readLord_55 rfl gf_X6_24 rfl ht3e ?_
        refine rn_lload_n (i := 1) (x := rl M2 1 11) dX6_readLord_58 rfl (by simp) ?_
        refine rn_callVi (as := [.long (rl M2 1 11)]) (st := []) dX6_readLord_59 mf_X7_lordNamed lk_X6_118 im_X7_lordNamed ht3 rfl rfl rfl (Nat.le_of_ble_eq_true rfl) (Nat.le_of_ble_eq_true rfl) rfl (RI.mono h (fun r5 M4 h => ?_))
        refine rn_iconst (v := -1) dX6_readLord_62 rfl ?_
        refine rn_icmp_eq (tgt := 71) dX6_readLord_63 (by decide) (ite_go h (fun hc h => ?_) (fun hc h => ?_))
        · exact h
        · refine rn_aload_n (i := 0) (x := 1) dX6_readLord_66 rfl (by simp) ?_
          refine rn_iconst (v := 3) dX6_readLord_67 rfl ?_
          refine rn_callVv (as := [.int 3]) (st := []) dX6_readLord_68 mf_X6_blame lk_X6_79 im_X6_blame rfl rfl rfl rfl (Nat.le_of_ble_eq_true rfl) (Nat.le_of_ble_eq_true rfl) rfl (RV.mono h (fun M6 h => ?_))
          exact h
      · refine rn_aload_n (i := 0) (x := 1) dX6_readLord_46 rfl (by simp) ?_
        refine rn_iconst (v := 2) dX6_readLord_47 rfl ?_
        refine rn_callVv (as := [.int 2]) (st := []) dX6_readLord_48 mf_X6_blame lk_X6_79 im_X6_blame rfl rfl rfl rfl (Nat.le_of_ble_eq_true rfl) (Nat.le_of_ble_eq_true rfl) rfl (RV.mono h (fun M7 h => ?_))
        refine rn_goto (tgt := 71) dX6_readLord_51 (by decide) ?_
        exact h
    · refine rn_aload_n (i := 0) (x := 1) dX6_readLord_46 rfl (by simp) ?_
      refine rn_iconst (v := 2) dX6_readLord_47 rfl ?_
      refine rn_callVv (as := [.int 2]) (st := []) dX6_readLord_48 mf_X6_blame lk_X6_79 im_X6_blame rfl rfl rfl rfl (Nat.le_of_ble_eq_true rfl) (Nat.le_of_ble_eq_true rfl) rfl (RV.mono h (fun M8 h => ?_))
      refine rn_goto (tgt := 71) dX6_readLord_51 (by decide) ?_
      exact h
  · refine rn_aload_n (i := 0) (x := 1) dX6_readLord_15 rfl (by simp) ?_
    refine rn_iconst (v := 2) dX6_readLord_16 rfl ?_
    refine rn_callVv (as := [.int 2]) (st := []) dX6_readLord_17 mf_X6_blame lk_X6_79 im_X6_blame rfl rfl rfl rfl (Nat.le_of_ble_eq_true rfl) (Nat.le_of_ble_eq_true rfl) rfl (RV.mono h (fun M9 h => ?_))
    exact rn_ret dX6_readLord_20 rfl ⟨rfl, h⟩
set_option maxRecDepth 20000 in
theorem sg_X6_readLord_71 {d : Nat} {x1 : Int64} {M : Mem} {K : (Mem → Prop)}  (h : (CV d μX6_advance [.ref 1] M (fun M1 => (CV d μX6_takeWord [.ref 1, .int 5] M1 (fun M2 => (CI d μX6_takeNumber [.ref 1, .int 999] M2 (fun r4 M3 => (∃ t5, nx (ri M3 1 3) = t5 ∧ kd t5 = (0, 7) ∧ (if 3 ≤ ri M3 (t5 + 1) 0 then (CI d μX6_readCorner [.ref 1] M3 (fun r7 M6 => RV (d + 1) μX6_readLord 110 [(0, .ref 1), (1, .long x1), (3, .int r4)] [.int r7] M6 K)) else RV (d + 1) μX6_readLord 110 [(0, .ref 1), (1, .long x1), (3, .int r4)] [.int 0] M3 K))))))))) : RV (d + 1) μX6_readLord 71 [(0, .ref 1), (1, .long x1)] [] M K := by
  show Rn (d + 1) μX6_readLord 71 [(0, .ref 1), (1, .long x1)] [] M _
  refine rn_aload_n (i := 0) (x := 1) dX6_readLord_71 rfl (by simp) ?_
  refine rn_callVv (as := []) (st := []) dX6_readLord_72 mf_X6_advance lk_X6_57 im_X6_advance rfl rfl rfl rfl (Nat.le_of_ble_eq_true rfl) (Nat.le_of_ble_eq_true rfl) rfl (RV.mono h (fun M1 h => ?_))
  refine rn_aload_n (i := 0) (x := 1) dX6_readLord_75 rfl (by simp) ?_
  refine rn_iconst (v := 5) dX6_readLord_76 rfl ?_
  refine rn_callVv (as := [.int 5]) (st := []) dX6_readLord_77 mf_X6_takeWord lk_X6_131 im_X6_takeWord rfl rfl rfl rfl (Nat.le_of_ble_eq_true rfl) (Nat.le_of_ble_eq_true rfl) rfl (RV.mono h (fun M2 h => ?_))
  refine rn_aload_n (i := 0) (x := 1) dX6_readLord_80 rfl (by simp) ?_
  refine rn_sipush (v := 999) dX6_readLord_81 rfl ?_
  refine rn_callVi (as := [.int 999]) (st := []) dX6_readLord_84 mf_X6_takeNumber lk_X6_134 im_X6_takeNumber rfl rfl rfl rfl (Nat.le_of_ble_eq_true rfl) (Nat.le_of_ble_eq_true rfl) rfl (RI.mono h (fun r4 M3 h => ?_))
  refine rn_istore_n (lv' := [(0, .ref 1), (1, .long x1), (3, .int r4)]) (hd := dX6_readLord_87) (i := 3) (hi := rfl) (hn := by decide) (hf := rfl) (hl := rfl) ?_
  refine rn_aload_n (i := 0) (x := 1) dX6_readLord_88 rfl (by simp) ?_
  obtain ⟨t5, ht5e, ht5, h⟩ := h
  refine rn_getd dX6_readLord_89 rfl gf_X6_24 rfl ht5e ?_
  refine rn_getr (t := t5 + 1) dX6_readLord_92 ht5 gf_X6_122 rfl (telling_refs _ ht5).1.1 ?_
  refine rn_geti dX6_readLord_95 (telling_refs _ ht5).1.2 gf_X6_126 (by decide) ?_
  refine rn_iconst (v := 3) dX6_readLord_98 rfl ?_
  refine rn_icmp_ge (tgt := 106) dX6_readLord_99 (by decide) (ite_go h (fun hc h => ?_) (fun hc h => ?_))
  · refine rn_aload_n (i := 0) (x := 1) dX6_readLord_106 rfl (by simp) ?_
    refine rn_callVi (as := []) (st := []) dX6_readLord_107 mf_X6_readCorner lk_X6_137 im_X6_readCorner rfl rfl rfl rfl (Nat.le_of_ble_eq_true rfl) (Nat.le_of_ble_eq_true rfl) rfl (RI.mono h (fun r7 M6 h => ?_))
    exact h
  · refine rn_iconst (v := 0) dX6_readLord_102 rfl ?_
    refine rn_goto (tgt := 110) dX6_readLord_103 (by decide) ?_
    exact h
set_option maxRecDepth 20000 in
theorem sg_X6_readLord_110 {d : Nat} {x1 : Int64} {x3 : Int32} {y0 : Int32} {M : Mem} {K : (Mem → Prop)}  (h : (CV d μX6_takeSign [.ref 1, .int 59] M (fun M1 => (if ri M1 1 0 = 0 then (∃ t2, nx (ri M1 1 3) = t2 ∧ kd t2 = (0, 7) ∧ (CV d μX7_addLord [.ref t2, .long x1, .int x3, .int y0] M1 (fun M3 => K M3))) else K M1)))) : RV (d + 1) μX6_readLord 110 [(0, .ref 1), (1, .long x1), (3, .int x3)] [.int y0] M K := by
  show Rn (d + 1) μX6_readLord 110 [(0, .ref 1), (1, .long x1), (3, .int x3)] [.int y0] M _
  refine rn_istore (lv' := [(0, .ref 1), (1, .long x1), (3, .int x3), (4, .int y0)]) (hd := dX6_readLord_110) (hn := by decide) (hf := rfl) (hl := rfl) ?_
  refine rn_aload_n (i := 0) (x := 1) dX6_readLord_112 rfl (by simp) ?_
  refine rn_bipush (v := 59) dX6_readLord_113 rfl ?_
  refine rn_callVv (as := [.int 59]) (st := []) dX6_readLord_115 mf_X6_takeSign lk_X6_141 im_X6_takeSign rfl rfl rfl rfl (Nat.le_of_ble_eq_true rfl) (Nat.le_of_ble_eq_true rfl) rfl (RV.mono h (fun M1 h => ?_))
  refine rn_aload_n (i := 0) (x := 1) dX6_readLord_118 rfl (by simp) ?_
  refine rn_geti dX6_readLord_119 rfl gf_X6_9 (by decide) ?_
  refine rn_if_ne (tgt := 136) dX6_readLord_122 (by decide) (ite_go h (fun hc h => ?_) (fun hc h => ?_))
  · refine rn_aload_n (i := 0) (x := 1) dX6_readLord_125 rfl (by simp) ?_
    obtain ⟨t2, ht2e, ht2, h⟩ := h
    refine rn_getd dX6_readLord_126 rfl gf_X6_24 rfl ht2e ?_
    refine rn_lload_n (i := 1) (x := x1) dX6_readLord_129 rfl (by simp) ?_
    refine rn_iload_n (i := 3) (x := x3) dX6_readLord_130 rfl (by simp) ?_
    refine rn_iload (x := y0) dX6_readLord_131 (by simp) ?_
    refine rn_callVv (as := [.long x1, .int x3, .int y0]) (st := []) dX6_readLord_133 mf_X7_addLord lk_X6_145 im_X7_addLord ht2 rfl rfl rfl (Nat.le_of_ble_eq_true rfl) (Nat.le_of_ble_eq_true rfl) rfl (RV.mono h (fun M3 h => ?_))
    exact rn_ret dX6_readLord_136 rfl ⟨rfl, h⟩
  · exact rn_ret dX6_readLord_136 rfl ⟨rfl, h⟩
theorem dX6_readCorner_0 : decode μX6_readCorner.2.1 0 = .ok (.aload_n 0, 1) := by decide +kernel
theorem dX6_readCorner_1 : decode μX6_readCorner.2.1 1 = .ok (.bipush 6, 2) := by decide +kernel
theorem dX6_readCorner_3 : decode μX6_readCorner.2.1 3 = .ok (.invokevirtual 131, 3) := by decide +kernel
theorem dX6_readCorner_6 : decode μX6_readCorner.2.1 6 = .ok (.iconst 0, 1) := by decide +kernel
theorem dX6_readCorner_7 : decode μX6_readCorner.2.1 7 = .ok (.istore_n 1, 1) := by decide +kernel
theorem dX6_readCorner_8 : decode μX6_readCorner.2.1 8 = .ok (.iconst 0, 1) := by decide +kernel
theorem dX6_readCorner_9 : decode μX6_readCorner.2.1 9 = .ok (.istore_n 2, 1) := by decide +kernel
theorem dX6_readCorner_10 : decode μX6_readCorner.2.1 10 = .ok (.iload_n 2, 1) := by decide +kernel
theorem dX6_readCorner_11 : decode μX6_readCorner.2.1 11 = .ok (.iconst 3, 1) := by decide +kernel
theorem dX6_readCorner_12 : decode μX6_readCorner.2.1 12 = .ok (.if_icmp .ge 55, 3) := by decide +kernel
theorem dX6_readCorner_15 : decode μX6_readCorner.2.1 15 = .ok (.aload_n 0, 1) := by decide +kernel
theorem dX6_readCorner_16 : decode μX6_readCorner.2.1 16 = .ok (.invokevirtual 149, 3) := by decide +kernel
theorem dX6_readCorner_19 : decode μX6_readCorner.2.1 19 = .ok (.istore_n 3, 1) := by decide +kernel
theorem dX6_readCorner_20 : decode μX6_readCorner.2.1 20 = .ok (.iload_n 3, 1) := by decide +kernel
theorem dX6_readCorner_21 : decode μX6_readCorner.2.1 21 = .ok (.iconst (-1), 1) := by decide +kernel
theorem dX6_readCorner_22 : decode μX6_readCorner.2.1 22 = .ok (.if_icmp .ne 5, 3) := by decide +kernel
theorem dX6_readCorner_25 : decode μX6_readCorner.2.1 25 = .ok (.iconst 0, 1) := by decide +kernel
theorem dX6_readCorner_26 : decode μX6_readCorner.2.1 26 = .ok (.ireturn, 1) := by decide +kernel
theorem dX6_readCorner_27 : decode μX6_readCorner.2.1 27 = .ok (.iload_n 1, 1) := by decide +kernel
theorem dX6_readCorner_28 : decode μX6_readCorner.2.1 28 = .ok (.iconst 1, 1) := by decide +kernel
theorem dX6_readCorner_29 : decode μX6_readCorner.2.1 29 = .ok (.iload_n 3, 1) := by decide +kernel
theorem dX6_readCorner_30 : decode μX6_readCorner.2.1 30 = .ok (.ishl, 1) := by decide +kernel
theorem dX6_readCorner_31 : decode μX6_readCorner.2.1 31 = .ok (.ior, 1) := by decide +kernel
theorem dX6_readCorner_32 : decode μX6_readCorner.2.1 32 = .ok (.istore_n 1, 1) := by decide +kernel
theorem dX6_readCorner_33 : decode μX6_readCorner.2.1 33 = .ok (.iload_n 2, 1) := by decide +kernel
theorem dX6_readCorner_34 : decode μX6_readCorner.2.1 34 = .ok (.iconst 2, 1) := by decide +kernel
theorem dX6_readCorner_35 : decode μX6_readCorner.2.1 35 = .ok (.if_icmp .ne 22, 3) := by decide +kernel
theorem dX6_readCorner_38 : decode μX6_readCorner.2.1 38 = .ok (.aload_n 0, 1) := by decide +kernel
theorem dX6_readCorner_39 : decode μX6_readCorner.2.1 39 = .ok (.getfield 24, 3) := by decide +kernel
theorem dX6_readCorner_42 : decode μX6_readCorner.2.1 42 = .ok (.getfield 122, 3) := by decide +kernel
theorem dX6_readCorner_45 : decode μX6_readCorner.2.1 45 = .ok (.iload_n 1, 1) := by decide +kernel
theorem dX6_readCorner_46 : decode μX6_readCorner.2.1 46 = .ok (.invokevirtual 152, 3) := by decide +kernel
theorem dX6_readCorner_49 : decode μX6_readCorner.2.1 49 = .ok (.ifCond .ne 8, 3) := by decide +kernel
theorem dX6_readCorner_52 : decode μX6_readCorner.2.1 52 = .ok (.aload_n 0, 1) := by decide +kernel
theorem dX6_readCorner_53 : decode μX6_readCorner.2.1 53 = .ok (.iconst 3, 1) := by decide +kernel
theorem dX6_readCorner_54 : decode μX6_readCorner.2.1 54 = .ok (.invokevirtual 79, 3) := by decide +kernel
theorem dX6_readCorner_57 : decode μX6_readCorner.2.1 57 = .ok (.aload_n 0, 1) := by decide +kernel
theorem dX6_readCorner_58 : decode μX6_readCorner.2.1 58 = .ok (.invokevirtual 57, 3) := by decide +kernel
theorem dX6_readCorner_61 : decode μX6_readCorner.2.1 61 = .ok (.iinc 2 1, 3) := by decide +kernel
theorem dX6_readCorner_64 : decode μX6_readCorner.2.1 64 = .ok (.goto (-54), 3) := by decide +kernel
theorem dX6_readCorner_67 : decode μX6_readCorner.2.1 67 = .ok (.iload_n 1, 1) := by decide +kernel
theorem dX6_readCorner_68 : decode μX6_readCorner.2.1 68 = .ok (.ireturn, 1) := by decide +kernel
set_option maxRecDepth 20000 in
theorem sg_X6_readCorner_0 {d : Nat}  {M : Mem} {K : (Int32 → Mem → Prop)}  (h : (CV d μX6_takeWord [.ref 1, .int 6] M (fun M1 => RI (d + 1) μX6_readCorner 10 [(0, .ref 1), (1, .int 0), (2, .int 0)] [] M1 K))) : CI (d + 1) μX6_readCorner [.ref 1] M K := by
  show Rn (d + 1) μX6_readCorner 0 [(0, .ref 1)] [] M _
  refine rn_aload_n (i := 0) (x := 1) dX6_readCorner_0 rfl (by simp) ?_
  refine rn_bipush (v := 6) dX6_readCorner_1 rfl ?_
  refine rn_callVv (as := [.int 6]) (st := []) dX6_readCorner_3 mf_X6_takeWord lk_X6_131 im_X6_takeWord rfl rfl rfl rfl (Nat.le_of_ble_eq_true rfl) (Nat.le_of_ble_eq_true rfl) rfl (RV.mono h (fun M1 h => ?_))
  refine rn_iconst (v := 0) dX6_readCorner_6 rfl ?_
  refine rn_istore_n (lv' := [(0, .ref 1), (1, .int 0)]) (hd := dX6_readCorner_7) (i := 1) (hi := rfl) (hn := by decide) (hf := rfl) (hl := rfl) ?_
  refine rn_iconst (v := 0) dX6_readCorner_8 rfl ?_
  refine rn_istore_n (lv' := [(0, .ref 1), (1, .int 0), (2, .int 0)]) (hd := dX6_readCorner_9) (i := 2) (hi := rfl) (hn := by decide) (hf := rfl) (hl := rfl) ?_
  exact h
set_option maxRecDepth 20000 in
theorem sg_X6_readCorner_10 {d : Nat} {x1 : Int32} {x2 : Int32} {M : Mem} {K : (Int32 → Mem → Prop)}  (h : (if 3 ≤ x2 then K x1 M else (CI d μX6_lordHere [.ref 1] M (fun r2 M1 => (if r2 = (-1) then K 0 M1 else (if x2 = 2 then (∃ t3, nx (ri M1 1 3) = t3 ∧ kd t3 = (0, 7) ∧ (CI d μX2_hasCorner [.ref (t3 + 1), .int (x1 ||| ((1 : Int32) <<< (r2 &&& 31)))] M1 (fun r5 M4 => (if r5 = 0 then (CV d μX6_blame [.ref 1, .int 3] M4 (fun M6 => (CV d μX6_advance [.ref 1] M6 (fun M7 => RI (d + 1) μX6_readCorner 10 [(0, .ref 1), (1, .int (x1 ||| ((1 : Int32) <<< (r2 &&& 31)))), (2, .int (x2 + 1))] [] M7 K)))) else (CV d μX6_advance [.ref 1] M4 (fun M8 => RI (d + 1) μX6_readCorner 10 [(0, .ref 1), (1, .int (x1 ||| ((1 : Int32) <<< (r2 &&& 31)))), (2, .int (x2 + 1))] [] M8 K)))))) else (CV d μX6_advance [.ref 1] M1 (fun M9 => RI (d + 1) μX6_readCorner 10 [(0, .ref 1), (1, .int (x1 ||| ((1 : Int32) <<< (r2 &&& 31)))), (2, .int (x2 + 1))] [] M9 K)))))))) : RI (d + 1) μX6_readCorner 10 [(0, .ref 1), (1, .int x1), (2, .int x2)] [] M K := by
  show Rn (d + 1) μX6_readCorner 10 [(0, .ref 1), (1, .int x1), (2, .int x2)] [] M _
  refine rn_iload_n (i := 2) (x := x2) dX6_readCorner_10 rfl (by simp) ?_
  refine rn_iconst (v := 3) dX6_readCorner_11 rfl ?_
  refine rn_icmp_ge (tgt := 67) dX6_readCorner_12 (by decide) (ite_go h (fun hc h => ?_) (fun hc h => ?_))
  · refine rn_iload_n (i := 1) (x := x1) dX6_readCorner_67 rfl (by simp) ?_
    exact rn_iret dX6_readCorner_68 rfl ⟨_, rfl, h⟩
  · refine rn_aload_n (i := 0) (x := 1) dX6_readCorner_15 rfl (by simp) ?_
    refine rn_callVi (as := []) (st := []) dX6_readCorner_16 mf_X6_lordHere lk_X6_149 im_X6_lordHere rfl rfl rfl rfl (Nat.le_of_ble_eq_true rfl) (Nat.le_of_ble_eq_true rfl) rfl (RI.mono h (fun r2 M1 h => ?_))
    refine rn_istore_n (lv' := [(0, .ref 1), (1, .int x1), (2, .int x2), (3, .int r2)]) (hd := dX6_readCorner_19) (i := 3) (hi := rfl) (hn := by decide) (hf := rfl) (hl := rfl) ?_
    refine rn_iload_n (i := 3) (x := r2) dX6_readCorner_20 rfl (by simp) ?_
    refine rn_iconst (v := -1) dX6_readCorner_21 rfl ?_
    refine rn_icmp_ne (tgt := 27) dX6_readCorner_22 (by decide) (ite_go h (fun hc h => ?_) (fun hc h => ?_))
    · refine rn_iconst (v := 0) dX6_readCorner_25 rfl ?_
      exact rn_iret dX6_readCorner_26 rfl ⟨_, rfl, h⟩
    · refine rn_iload_n (i := 1) (x := x1) dX6_readCorner_27 rfl (by simp) ?_
      refine rn_iconst (v := 1) dX6_readCorner_28 rfl ?_
      refine rn_iload_n (i := 3) (x := r2) dX6_readCorner_29 rfl (by simp) ?_
      refine rn_ishl dX6_readCorner_30 ?_
      refine rn_ior dX6_readCorner_31 ?_
      refine rn_istore_n (lv' := [(0, .ref 1), (1, .int (x1 ||| ((1 : Int32) <<< (r2 &&& 31)))), (2, .int x2), (3, .int r2)]) (hd := dX6_readCorner_32) (i := 1) (hi := rfl) (hn := by decide) (hf := rfl) (hl := rfl) ?_
      refine rn_iload_n (i := 2) (x := x2) dX6_readCorner_33 rfl (by simp) ?_
      refine rn_iconst (v := 2) dX6_readCorner_34 rfl ?_
      refine rn_icmp_ne (tgt := 57) dX6_readCorner_35 (by decide) (ite_go h (fun hc h => ?_) (fun hc h => ?_))
      · refine rn_aload_n (i := 0) (x := 1) dX6_readCorner_38 rfl (by simp) ?_
        obtain ⟨t3, ht3e, ht3, h⟩ := h
        refine rn_getd dX6_readCorner_39 rfl gf_X6_24 rfl ht3e ?_
        refine rn_getr (t := t3 + 1) dX6_readCorner_42 ht3 gf_X6_122 rfl (telling_refs _ ht3).1.1 ?_
        refine rn_iload_n (i := 1) (x := x1 ||| ((1 : Int32) <<< (r2 &&& 31))) dX6_readCorner_45 rfl (by simp) ?_
        refine rn_callVi (as := [.int (x1 ||| ((1 : Int32) <<< (r2 &&& 31)))]) (st := []) dX6_readCorner_46 mf_X2_hasCorner lk_X6_152 im_X2_hasCorner (telling_refs _ ht3).1.2 rfl rfl rfl (Nat.le_of_ble_eq_true rfl) (Nat.le_of_ble_eq_true rfl) rfl (RI.mono h (fun r5 M4 h => ?_))
        refine rn_if_ne (tgt := 57) dX6_readCorner_49 (by decide) (ite_go h (fun hc h => ?_) (fun hc h => ?_))
        · refine rn_aload_n (i := 0) (x := 1) dX6_readCorner_52 rfl (by simp) ?_
          refine rn_iconst (v := 3) dX6_readCorner_53 rfl ?_
          refine rn_callVv (as := [.int 3]) (st := []) dX6_readCorner_54 mf_X6_blame lk_X6_79 im_X6_blame rfl rfl rfl rfl (Nat.le_of_ble_eq_true rfl) (Nat.le_of_ble_eq_true rfl) rfl (RV.mono h (fun M6 h => ?_))
          refine rn_aload_n (i := 0) (x := 1) dX6_readCorner_57 rfl (by simp) ?_
          refine rn_callVv (as := []) (st := []) dX6_readCorner_58 mf_X6_advance lk_X6_57 im_X6_advance rfl rfl rfl rfl (Nat.le_of_ble_eq_true rfl) (Nat.le_of_ble_eq_true rfl) rfl (RV.mono h (fun M7 h => ?_))
          refine rn_iinc (x := x2) (v := x2 + 1) (lv' := [(0, .ref 1), (1, .int (x1 ||| ((1 : Int32) <<< (r2 &&& 31)))), (2, .int (x2 + 1)), (3, .int r2)]) dX6_readCorner_61 (by simp) rfl (by decide) rfl rfl ?_
          refine rn_goto (tgt := 10) dX6_readCorner_64 (by decide) ?_
          refine Rn.sub (lv' := [(0, .ref 1), (1, .int (x1 ||| ((1 : Int32) <<< (r2 &&& 31)))), (2, .int (x2 + 1))]) (by simp) ?_
          exact h
        · refine rn_aload_n (i := 0) (x := 1) dX6_readCorner_57 rfl (by simp) ?_
          refine rn_callVv (as := []) (st := []) dX6_readCorner_58 mf_X6_advance lk_X6_57 im_X6_advance rfl rfl rfl rfl (Nat.le_of_ble_eq_true rfl) (Nat.le_of_ble_eq_true rfl) rfl (RV.mono h (fun M8 h => ?_))
          refine rn_iinc (x := x2) (v := x2 + 1) (lv' := [(0, .ref 1), (1, .int (x1 ||| ((1 : Int32) <<< (r2 &&& 31)))), (2, .int (x2 + 1)), (3, .int r2)]) dX6_readCorner_61 (by simp) rfl (by decide) rfl rfl ?_
          refine rn_goto (tgt := 10) dX6_readCorner_64 (by decide) ?_
          refine Rn.sub (lv' := [(0, .ref 1), (1, .int (x1 ||| ((1 : Int32) <<< (r2 &&& 31)))), (2, .int (x2 + 1))]) (by simp) ?_
          exact h
      · refine rn_aload_n (i := 0) (x := 1) dX6_readCorner_57 rfl (by simp) ?_
        refine rn_callVv (as := []) (st := []) dX6_readCorner_58 mf_X6_advance lk_X6_57 im_X6_advance rfl rfl rfl rfl (Nat.le_of_ble_eq_true rfl) (Nat.le_of_ble_eq_true rfl) rfl (RV.mono h (fun M9 h => ?_))
        refine rn_iinc (x := x2) (v := x2 + 1) (lv' := [(0, .ref 1), (1, .int (x1 ||| ((1 : Int32) <<< (r2 &&& 31)))), (2, .int (x2 + 1)), (3, .int r2)]) dX6_readCorner_61 (by simp) rfl (by decide) rfl rfl ?_
        refine rn_goto (tgt := 10) dX6_readCorner_64 (by decide) ?_
        refine Rn.sub (lv' := [(0, .ref 1), (1, .int (x1 ||| ((1 : Int32) <<< (r2 &&& 31)))), (2, .int (x2 + 1))]) (by simp) ?_
        exact h
theorem dX6_readFlip_0 : decode μX6_readFlip.2.1 0 = .ok (.aload_n 0, 1) := by decide +kernel
theorem dX6_readFlip_1 : decode μX6_readFlip.2.1 1 = .ok (.getfield 24, 3) := by decide +kernel
theorem dX6_readFlip_4 : decode μX6_readFlip.2.1 4 = .ok (.getfield 155, 3) := by decide +kernel
theorem dX6_readFlip_7 : decode μX6_readFlip.2.1 7 = .ok (.bipush 12, 2) := by decide +kernel
theorem dX6_readFlip_9 : decode μX6_readFlip.2.1 9 = .ok (.if_icmp .lt 9, 3) := by decide +kernel
theorem dX6_readFlip_12 : decode μX6_readFlip.2.1 12 = .ok (.aload_n 0, 1) := by decide +kernel
theorem dX6_readFlip_13 : decode μX6_readFlip.2.1 13 = .ok (.iconst 2, 1) := by decide +kernel
theorem dX6_readFlip_14 : decode μX6_readFlip.2.1 14 = .ok (.invokevirtual 79, 3) := by decide +kernel
theorem dX6_readFlip_17 : decode μX6_readFlip.2.1 17 = .ok (.return_, 1) := by decide +kernel
theorem dX6_readFlip_18 : decode μX6_readFlip.2.1 18 = .ok (.aload_n 0, 1) := by decide +kernel
theorem dX6_readFlip_19 : decode μX6_readFlip.2.1 19 = .ok (.getfield 24, 3) := by decide +kernel
theorem dX6_readFlip_22 : decode μX6_readFlip.2.1 22 = .ok (.dup, 1) := by decide +kernel
theorem dX6_readFlip_23 : decode μX6_readFlip.2.1 23 = .ok (.getfield 155, 3) := by decide +kernel
theorem dX6_readFlip_26 : decode μX6_readFlip.2.1 26 = .ok (.iconst 1, 1) := by decide +kernel
theorem dX6_readFlip_27 : decode μX6_readFlip.2.1 27 = .ok (.iadd, 1) := by decide +kernel
theorem dX6_readFlip_28 : decode μX6_readFlip.2.1 28 = .ok (.putfield 155, 3) := by decide +kernel
theorem dX6_readFlip_31 : decode μX6_readFlip.2.1 31 = .ok (.aload_n 0, 1) := by decide +kernel
theorem dX6_readFlip_32 : decode μX6_readFlip.2.1 32 = .ok (.invokevirtual 57, 3) := by decide +kernel
theorem dX6_readFlip_35 : decode μX6_readFlip.2.1 35 = .ok (.aload_n 0, 1) := by decide +kernel
theorem dX6_readFlip_36 : decode μX6_readFlip.2.1 36 = .ok (.invokevirtual 149, 3) := by decide +kernel
theorem dX6_readFlip_39 : decode μX6_readFlip.2.1 39 = .ok (.istore_n 1, 1) := by decide +kernel
theorem dX6_readFlip_40 : decode μX6_readFlip.2.1 40 = .ok (.aload_n 0, 1) := by decide +kernel
theorem dX6_readFlip_41 : decode μX6_readFlip.2.1 41 = .ok (.invokevirtual 57, 3) := by decide +kernel
theorem dX6_readFlip_44 : decode μX6_readFlip.2.1 44 = .ok (.aload_n 0, 1) := by decide +kernel
theorem dX6_readFlip_45 : decode μX6_readFlip.2.1 45 = .ok (.invokevirtual 149, 3) := by decide +kernel
theorem dX6_readFlip_48 : decode μX6_readFlip.2.1 48 = .ok (.istore_n 2, 1) := by decide +kernel
theorem dX6_readFlip_49 : decode μX6_readFlip.2.1 49 = .ok (.aload_n 0, 1) := by decide +kernel
theorem dX6_readFlip_50 : decode μX6_readFlip.2.1 50 = .ok (.getfield 9, 3) := by decide +kernel
theorem dX6_readFlip_53 : decode μX6_readFlip.2.1 53 = .ok (.ifCond .ne 23, 3) := by decide +kernel
theorem dX6_readFlip_56 : decode μX6_readFlip.2.1 56 = .ok (.aload_n 0, 1) := by decide +kernel
theorem dX6_readFlip_57 : decode μX6_readFlip.2.1 57 = .ok (.getfield 24, 3) := by decide +kernel
theorem dX6_readFlip_60 : decode μX6_readFlip.2.1 60 = .ok (.getfield 122, 3) := by decide +kernel
theorem dX6_readFlip_63 : decode μX6_readFlip.2.1 63 = .ok (.iload_n 1, 1) := by decide +kernel
theorem dX6_readFlip_64 : decode μX6_readFlip.2.1 64 = .ok (.iload_n 2, 1) := by decide +kernel
theorem dX6_readFlip_65 : decode μX6_readFlip.2.1 65 = .ok (.invokevirtual 158, 3) := by decide +kernel
theorem dX6_readFlip_68 : decode μX6_readFlip.2.1 68 = .ok (.ifCond .ne 8, 3) := by decide +kernel
theorem dX6_readFlip_71 : decode μX6_readFlip.2.1 71 = .ok (.aload_n 0, 1) := by decide +kernel
theorem dX6_readFlip_72 : decode μX6_readFlip.2.1 72 = .ok (.iconst 3, 1) := by decide +kernel
theorem dX6_readFlip_73 : decode μX6_readFlip.2.1 73 = .ok (.invokevirtual 79, 3) := by decide +kernel
theorem dX6_readFlip_76 : decode μX6_readFlip.2.1 76 = .ok (.aload_n 0, 1) := by decide +kernel
theorem dX6_readFlip_77 : decode μX6_readFlip.2.1 77 = .ok (.invokevirtual 57, 3) := by decide +kernel
theorem dX6_readFlip_80 : decode μX6_readFlip.2.1 80 = .ok (.aload_n 0, 1) := by decide +kernel
theorem dX6_readFlip_81 : decode μX6_readFlip.2.1 81 = .ok (.bipush 59, 2) := by decide +kernel
theorem dX6_readFlip_83 : decode μX6_readFlip.2.1 83 = .ok (.invokevirtual 141, 3) := by decide +kernel
theorem dX6_readFlip_86 : decode μX6_readFlip.2.1 86 = .ok (.return_, 1) := by decide +kernel
set_option maxRecDepth 20000 in
theorem sg_X6_readFlip_0 {d : Nat}  {M : Mem} {K : (Mem → Prop)}  (h : (∃ t1, nx (ri M 1 3) = t1 ∧ kd t1 = (0, 7) ∧ (if ri M t1 4 < 12 then (∃ t2, nx (ri M 1 3) = t2 ∧ kd t2 = (0, 7) ∧ (∀ M3, M3 = wi M t2 4 ((ri M t2 4) + 1) → (CV d μX6_advance [.ref 1] M3 (fun M4 => (CI d μX6_lordHere [.ref 1] M4 (fun r6 M5 => (CV d μX6_advance [.ref 1] M5 (fun M7 => (CI d μX6_lordHere [.ref 1] M7 (fun r9 M8 => (if ri M8 1 0 = 0 then (∃ t10, nx (ri M8 1 3) = t10 ∧ kd t10 = (0, 7) ∧ (CI d μX2_turnWall [.ref (t10 + 1), .int r6, .int r9] M8 (fun r12 M11 => (if r12 = 0 then (CV d μX6_blame [.ref 1, .int 3] M11 (fun M13 => RV (d + 1) μX6_readFlip 76 [(0, .ref 1), (1, .int r6), (2, .int r9)] [] M13 K)) else RV (d + 1) μX6_readFlip 76 [(0, .ref 1), (1, .int r6), (2, .int r9)] [] M11 K)))) else RV (d + 1) μX6_readFlip 76 [(0, .ref 1), (1, .int r6), (2, .int r9)] [] M8 K))))))))))) else (CV d μX6_blame [.ref 1, .int 2] M (fun M14 => K M14))))) : CV (d + 1) μX6_readFlip [.ref 1] M K := by
  show Rn (d + 1) μX6_readFlip 0 [(0, .ref 1)] [] M _
  refine rn_aload_n (i := 0) (x := 1) dX6_readFlip_0 rfl (by simp) ?_
  obtain ⟨t1, ht1e, ht1, h⟩ := h
  refine rn_getd dX6_readFlip_1 rfl gf_X6_24 rfl ht1e ?_
  refine rn_geti dX6_readFlip_4 ht1 gf_X6_155 (by decide) ?_
  refine rn_bipush (v := 12) dX6_readFlip_7 rfl ?_
  refine rn_icmp_lt (tgt := 18) dX6_readFlip_9 (by decide) (ite_go h (fun hc h => ?_) (fun hc h => ?_))
  · refine rn_aload_n (i := 0) (x := 1) dX6_readFlip_18 rfl (by simp) ?_
    obtain ⟨t2, ht2e, ht2, h⟩ := h
    refine rn_getd dX6_readFlip_19 rfl gf_X6_24 rfl ht2e ?_
    refine rn_dup dX6_readFlip_22 rfl ?_
    refine rn_geti dX6_readFlip_23 ht2 gf_X6_155 (by decide) ?_
    refine rn_iconst (v := 1) dX6_readFlip_26 rfl ?_
    refine rn_iadd dX6_readFlip_27 ?_
    have h := h _ rfl
    refine rn_puti dX6_readFlip_28 ht2 pf_X6_155 (by decide) rfl rfl ?_
    generalize wi M t2 4 ((ri M t2 4) + 1) = M3 at h ⊢
    refine rn_aload_n (i := 0) (x := 1) dX6_readFlip_31 rfl (by simp) ?_
    refine rn_callVv (as := []) (st := []) dX6_readFlip_32 mf_X6_advance lk_X6_57 im_X6_advance rfl rfl rfl rfl (Nat.le_of_ble_eq_true rfl) (Nat.le_of_ble_eq_true rfl) rfl (RV.mono h (fun M4 h => ?_))
    refine rn_aload_n (i := 0) (x := 1) dX6_readFlip_35 rfl (by simp) ?_
    refine rn_callVi (as := []) (st := []) dX6_readFlip_36 mf_X6_lordHere lk_X6_149 im_X6_lordHere rfl rfl rfl rfl (Nat.le_of_ble_eq_true rfl) (Nat.le_of_ble_eq_true rfl) rfl (RI.mono h (fun r6 M5 h => ?_))
    refine rn_istore_n (lv' := [(0, .ref 1), (1, .int r6)]) (hd := dX6_readFlip_39) (i := 1) (hi := rfl) (hn := by decide) (hf := rfl) (hl := rfl) ?_
    refine rn_aload_n (i := 0) (x := 1) dX6_readFlip_40 rfl (by simp) ?_
    refine rn_callVv (as := []) (st := []) dX6_readFlip_41 mf_X6_advance lk_X6_57 im_X6_advance rfl rfl rfl rfl (Nat.le_of_ble_eq_true rfl) (Nat.le_of_ble_eq_true rfl) rfl (RV.mono h (fun M7 h => ?_))
    refine rn_aload_n (i := 0) (x := 1) dX6_readFlip_44 rfl (by simp) ?_
    refine rn_callVi (as := []) (st := []) dX6_readFlip_45 mf_X6_lordHere lk_X6_149 im_X6_lordHere rfl rfl rfl rfl (Nat.le_of_ble_eq_true rfl) (Nat.le_of_ble_eq_true rfl) rfl (RI.mono h (fun r9 M8 h => ?_))
    refine rn_istore_n (lv' := [(0, .ref 1), (1, .int r6), (2, .int r9)]) (hd := dX6_readFlip_48) (i := 2) (hi := rfl) (hn := by decide) (hf := rfl) (hl := rfl) ?_
    refine rn_aload_n (i := 0) (x := 1) dX6_readFlip_49 rfl (by simp) ?_
    refine rn_geti dX6_readFlip_50 rfl gf_X6_9 (by decide) ?_
    refine rn_if_ne (tgt := 76) dX6_readFlip_53 (by decide) (ite_go h (fun hc h => ?_) (fun hc h => ?_))
    · refine rn_aload_n (i := 0) (x := 1) dX6_readFlip_56 rfl (by simp) ?_
      obtain ⟨t10, ht10e, ht10, h⟩ := h
      refine rn_getd dX6_readFlip_57 rfl gf_X6_24 rfl ht10e ?_
      refine rn_getr (t := t10 + 1) dX6_readFlip_60 ht10 gf_X6_122 rfl (telling_refs _ ht10).1.1 ?_
      refine rn_iload_n (i := 1) (x := r6) dX6_readFlip_63 rfl (by simp) ?_
      refine rn_iload_n (i := 2) (x := r9) dX6_readFlip_64 rfl (by simp) ?_
      refine rn_callVi (as := [.int r6, .int r9]) (st := []) dX6_readFlip_65 mf_X2_turnWall lk_X6_158 im_X2_turnWall (telling_refs _ ht10).1.2 rfl rfl rfl (Nat.le_of_ble_eq_true rfl) (Nat.le_of_ble_eq_true rfl) rfl (RI.mono h (fun r12 M11 h => ?_))
      refine rn_if_ne (tgt := 76) dX6_readFlip_68 (by decide) (ite_go h (fun hc h => ?_) (fun hc h => ?_))
      · refine rn_aload_n (i := 0) (x := 1) dX6_readFlip_71 rfl (by simp) ?_
        refine rn_iconst (v := 3) dX6_readFlip_72 rfl ?_
        refine rn_callVv (as := [.int 3]) (st := []) dX6_readFlip_73 mf_X6_blame lk_X6_79 im_X6_blame rfl rfl rfl rfl (Nat.le_of_ble_eq_true rfl) (Nat.le_of_ble_eq_true rfl) rfl (RV.mono h (fun M13 h => ?_))
        exact h
      · exact h
    · exact h
  · refine rn_aload_n (i := 0) (x := 1) dX6_readFlip_12 rfl (by simp) ?_
    refine rn_iconst (v := 2) dX6_readFlip_13 rfl ?_
    refine rn_callVv (as := [.int 2]) (st := []) dX6_readFlip_14 mf_X6_blame lk_X6_79 im_X6_blame rfl rfl rfl rfl (Nat.le_of_ble_eq_true rfl) (Nat.le_of_ble_eq_true rfl) rfl (RV.mono h (fun M14 h => ?_))
    exact rn_ret dX6_readFlip_17 rfl ⟨rfl, h⟩
set_option maxRecDepth 20000 in
theorem sg_X6_readFlip_76 {d : Nat} {x1 : Int32} {x2 : Int32} {M : Mem} {K : (Mem → Prop)}  (h : (CV d μX6_advance [.ref 1] M (fun M1 => (CV d μX6_takeSign [.ref 1, .int 59] M1 (fun M2 => K M2))))) : RV (d + 1) μX6_readFlip 76 [(0, .ref 1), (1, .int x1), (2, .int x2)] [] M K := by
  show Rn (d + 1) μX6_readFlip 76 [(0, .ref 1), (1, .int x1), (2, .int x2)] [] M _
  refine rn_aload_n (i := 0) (x := 1) dX6_readFlip_76 rfl (by simp) ?_
  refine rn_callVv (as := []) (st := []) dX6_readFlip_77 mf_X6_advance lk_X6_57 im_X6_advance rfl rfl rfl rfl (Nat.le_of_ble_eq_true rfl) (Nat.le_of_ble_eq_true rfl) rfl (RV.mono h (fun M1 h => ?_))
  refine rn_aload_n (i := 0) (x := 1) dX6_readFlip_80 rfl (by simp) ?_
  refine rn_bipush (v := 59) dX6_readFlip_81 rfl ?_
  refine rn_callVv (as := [.int 59]) (st := []) dX6_readFlip_83 mf_X6_takeSign lk_X6_141 im_X6_takeSign rfl rfl rfl rfl (Nat.le_of_ble_eq_true rfl) (Nat.le_of_ble_eq_true rfl) rfl (RV.mono h (fun M2 h => ?_))
  exact rn_ret dX6_readFlip_86 rfl ⟨rfl, h⟩
theorem dX6_readStraw_0 : decode μX6_readStraw.2.1 0 = .ok (.aload_n 0, 1) := by decide +kernel
theorem dX6_readStraw_1 : decode μX6_readStraw.2.1 1 = .ok (.getfield 24, 3) := by decide +kernel
theorem dX6_readStraw_4 : decode μX6_readStraw.2.1 4 = .ok (.getfield 162, 3) := by decide +kernel
theorem dX6_readStraw_7 : decode μX6_readStraw.2.1 7 = .ok (.ifCond .eq 9, 3) := by decide +kernel
theorem dX6_readStraw_10 : decode μX6_readStraw.2.1 10 = .ok (.aload_n 0, 1) := by decide +kernel
theorem dX6_readStraw_11 : decode μX6_readStraw.2.1 11 = .ok (.iconst 2, 1) := by decide +kernel
theorem dX6_readStraw_12 : decode μX6_readStraw.2.1 12 = .ok (.invokevirtual 79, 3) := by decide +kernel
theorem dX6_readStraw_15 : decode μX6_readStraw.2.1 15 = .ok (.return_, 1) := by decide +kernel
theorem dX6_readStraw_16 : decode μX6_readStraw.2.1 16 = .ok (.aload_n 0, 1) := by decide +kernel
theorem dX6_readStraw_17 : decode μX6_readStraw.2.1 17 = .ok (.getfield 24, 3) := by decide +kernel
theorem dX6_readStraw_20 : decode μX6_readStraw.2.1 20 = .ok (.iconst 1, 1) := by decide +kernel
theorem dX6_readStraw_21 : decode μX6_readStraw.2.1 21 = .ok (.putfield 162, 3) := by decide +kernel
theorem dX6_readStraw_24 : decode μX6_readStraw.2.1 24 = .ok (.aload_n 0, 1) := by decide +kernel
theorem dX6_readStraw_25 : decode μX6_readStraw.2.1 25 = .ok (.invokevirtual 57, 3) := by decide +kernel
theorem dX6_readStraw_28 : decode μX6_readStraw.2.1 28 = .ok (.aload_n 0, 1) := by decide +kernel
theorem dX6_readStraw_29 : decode μX6_readStraw.2.1 29 = .ok (.getfield 24, 3) := by decide +kernel
theorem dX6_readStraw_32 : decode μX6_readStraw.2.1 32 = .ok (.aload_n 0, 1) := by decide +kernel
theorem dX6_readStraw_33 : decode μX6_readStraw.2.1 33 = .ok (.bipush 100, 2) := by decide +kernel
theorem dX6_readStraw_35 : decode μX6_readStraw.2.1 35 = .ok (.invokevirtual 134, 3) := by decide +kernel
theorem dX6_readStraw_38 : decode μX6_readStraw.2.1 38 = .ok (.putfield 166, 3) := by decide +kernel
theorem dX6_readStraw_41 : decode μX6_readStraw.2.1 41 = .ok (.aload_n 0, 1) := by decide +kernel
theorem dX6_readStraw_42 : decode μX6_readStraw.2.1 42 = .ok (.bipush 59, 2) := by decide +kernel
theorem dX6_readStraw_44 : decode μX6_readStraw.2.1 44 = .ok (.invokevirtual 141, 3) := by decide +kernel
theorem dX6_readStraw_47 : decode μX6_readStraw.2.1 47 = .ok (.return_, 1) := by decide +kernel
set_option maxRecDepth 20000 in
theorem sg_X6_readStraw_0 {d : Nat}  {M : Mem} {K : (Mem → Prop)}  (h : (∃ t1, nx (ri M 1 3) = t1 ∧ kd t1 = (0, 7) ∧ (if ri M t1 6 = 0 then (∃ t2, nx (ri M 1 3) = t2 ∧ kd t2 = (0, 7) ∧ (∀ M3, M3 = wi M t2 6 1 → (CV d μX6_advance [.ref 1] M3 (fun M4 => (∃ t5, nx (ri M4 1 3) = t5 ∧ kd t5 = (0, 7) ∧ (CI d μX6_takeNumber [.ref 1, .int 100] M4 (fun r7 M6 => (∀ M8, M8 = wi M6 t5 3 r7 → (CV d μX6_takeSign [.ref 1, .int 59] M8 (fun M9 => K M9)))))))))) else (CV d μX6_blame [.ref 1, .int 2] M (fun M10 => K M10))))) : CV (d + 1) μX6_readStraw [.ref 1] M K := by
  show Rn (d + 1) μX6_readStraw 0 [(0, .ref 1)] [] M _
  refine rn_aload_n (i := 0) (x := 1) dX6_readStraw_0 rfl (by simp) ?_
  obtain ⟨t1, ht1e, ht1, h⟩ := h
  refine rn_getd dX6_readStraw_1 rfl gf_X6_24 rfl ht1e ?_
  refine rn_geti dX6_readStraw_4 ht1 gf_X6_162 (by decide) ?_
  refine rn_if_eq (tgt := 16) dX6_readStraw_7 (by decide) (ite_go h (fun hc h => ?_) (fun hc h => ?_))
  · refine rn_aload_n (i := 0) (x := 1) dX6_readStraw_16 rfl (by simp) ?_
    obtain ⟨t2, ht2e, ht2, h⟩ := h
    refine rn_getd dX6_readStraw_17 rfl gf_X6_24 rfl ht2e ?_
    refine rn_iconst (v := 1) dX6_readStraw_20 rfl ?_
    have h := h _ rfl
    refine rn_puti dX6_readStraw_21 ht2 pf_X6_162 (by decide) rfl rfl ?_
    generalize wi M t2 6 1 = M3 at h ⊢
    refine rn_aload_n (i := 0) (x := 1) dX6_readStraw_24 rfl (by simp) ?_
    refine rn_callVv (as := []) (st := []) dX6_readStraw_25 mf_X6_advance lk_X6_57 im_X6_advance rfl rfl rfl rfl (Nat.le_of_ble_eq_true rfl) (Nat.le_of_ble_eq_true rfl) rfl (RV.mono h (fun M4 h => ?_))
    refine rn_aload_n (i := 0) (x := 1) dX6_readStraw_28 rfl (by simp) ?_
    obtain ⟨t5, ht5e, ht5, h⟩ := h
    refine rn_getd dX6_readStraw_29 rfl gf_X6_24 rfl ht5e ?_
    refine rn_aload_n (i := 0) (x := 1) dX6_readStraw_32 rfl (by simp) ?_
    refine rn_bipush (v := 100) dX6_readStraw_33 rfl ?_
    refine rn_callVi (as := [.int 100]) (st := [.ref t5]) dX6_readStraw_35 mf_X6_takeNumber lk_X6_134 im_X6_takeNumber rfl rfl rfl rfl (Nat.le_of_ble_eq_true rfl) (Nat.le_of_ble_eq_true rfl) rfl (RI.mono h (fun r7 M6 h => ?_))
    have h := h _ rfl
    refine rn_puti dX6_readStraw_38 ht5 pf_X6_166 (by decide) rfl rfl ?_
    generalize wi M6 t5 3 r7 = M8 at h ⊢
    refine rn_aload_n (i := 0) (x := 1) dX6_readStraw_41 rfl (by simp) ?_
    refine rn_bipush (v := 59) dX6_readStraw_42 rfl ?_
    refine rn_callVv (as := [.int 59]) (st := []) dX6_readStraw_44 mf_X6_takeSign lk_X6_141 im_X6_takeSign rfl rfl rfl rfl (Nat.le_of_ble_eq_true rfl) (Nat.le_of_ble_eq_true rfl) rfl (RV.mono h (fun M9 h => ?_))
    exact rn_ret dX6_readStraw_47 rfl ⟨rfl, h⟩
  · refine rn_aload_n (i := 0) (x := 1) dX6_readStraw_10 rfl (by simp) ?_
    refine rn_iconst (v := 2) dX6_readStraw_11 rfl ?_
    refine rn_callVv (as := [.int 2]) (st := []) dX6_readStraw_12 mf_X6_blame lk_X6_79 im_X6_blame rfl rfl rfl rfl (Nat.le_of_ble_eq_true rfl) (Nat.le_of_ble_eq_true rfl) rfl (RV.mono h (fun M10 h => ?_))
    exact rn_ret dX6_readStraw_15 rfl ⟨rfl, h⟩
theorem dX6_readDraw_0 : decode μX6_readDraw.2.1 0 = .ok (.aload_n 0, 1) := by decide +kernel
theorem dX6_readDraw_1 : decode μX6_readDraw.2.1 1 = .ok (.getfield 24, 3) := by decide +kernel
theorem dX6_readDraw_4 : decode μX6_readDraw.2.1 4 = .ok (.getfield 169, 3) := by decide +kernel
theorem dX6_readDraw_7 : decode μX6_readDraw.2.1 7 = .ok (.ifCond .eq 9, 3) := by decide +kernel
theorem dX6_readDraw_10 : decode μX6_readDraw.2.1 10 = .ok (.aload_n 0, 1) := by decide +kernel
theorem dX6_readDraw_11 : decode μX6_readDraw.2.1 11 = .ok (.iconst 2, 1) := by decide +kernel
theorem dX6_readDraw_12 : decode μX6_readDraw.2.1 12 = .ok (.invokevirtual 79, 3) := by decide +kernel
theorem dX6_readDraw_15 : decode μX6_readDraw.2.1 15 = .ok (.return_, 1) := by decide +kernel
theorem dX6_readDraw_16 : decode μX6_readDraw.2.1 16 = .ok (.aload_n 0, 1) := by decide +kernel
theorem dX6_readDraw_17 : decode μX6_readDraw.2.1 17 = .ok (.getfield 24, 3) := by decide +kernel
theorem dX6_readDraw_20 : decode μX6_readDraw.2.1 20 = .ok (.iconst 1, 1) := by decide +kernel
theorem dX6_readDraw_21 : decode μX6_readDraw.2.1 21 = .ok (.putfield 169, 3) := by decide +kernel
theorem dX6_readDraw_24 : decode μX6_readDraw.2.1 24 = .ok (.aload_n 0, 1) := by decide +kernel
theorem dX6_readDraw_25 : decode μX6_readDraw.2.1 25 = .ok (.invokevirtual 57, 3) := by decide +kernel
theorem dX6_readDraw_28 : decode μX6_readDraw.2.1 28 = .ok (.aload_n 0, 1) := by decide +kernel
theorem dX6_readDraw_29 : decode μX6_readDraw.2.1 29 = .ok (.getfield 24, 3) := by decide +kernel
theorem dX6_readDraw_32 : decode μX6_readDraw.2.1 32 = .ok (.getfield 122, 3) := by decide +kernel
theorem dX6_readDraw_35 : decode μX6_readDraw.2.1 35 = .ok (.aload_n 0, 1) := by decide +kernel
theorem dX6_readDraw_36 : decode μX6_readDraw.2.1 36 = .ok (.sipush 999, 3) := by decide +kernel
theorem dX6_readDraw_39 : decode μX6_readDraw.2.1 39 = .ok (.invokevirtual 134, 3) := by decide +kernel
theorem dX6_readDraw_42 : decode μX6_readDraw.2.1 42 = .ok (.putfield 172, 3) := by decide +kernel
theorem dX6_readDraw_45 : decode μX6_readDraw.2.1 45 = .ok (.aload_n 0, 1) := by decide +kernel
theorem dX6_readDraw_46 : decode μX6_readDraw.2.1 46 = .ok (.bipush 59, 2) := by decide +kernel
theorem dX6_readDraw_48 : decode μX6_readDraw.2.1 48 = .ok (.invokevirtual 141, 3) := by decide +kernel
theorem dX6_readDraw_51 : decode μX6_readDraw.2.1 51 = .ok (.return_, 1) := by decide +kernel
set_option maxRecDepth 20000 in
theorem sg_X6_readDraw_0 {d : Nat}  {M : Mem} {K : (Mem → Prop)}  (h : (∃ t1, nx (ri M 1 3) = t1 ∧ kd t1 = (0, 7) ∧ (if ri M t1 7 = 0 then (∃ t2, nx (ri M 1 3) = t2 ∧ kd t2 = (0, 7) ∧ (∀ M3, M3 = wi M t2 7 1 → (CV d μX6_advance [.ref 1] M3 (fun M4 => (∃ t5, nx (ri M4 1 3) = t5 ∧ kd t5 = (0, 7) ∧ (CI d μX6_takeNumber [.ref 1, .int 999] M4 (fun r7 M6 => (∀ M8, M8 = wi M6 (t5 + 1) 3 r7 → (CV d μX6_takeSign [.ref 1, .int 59] M8 (fun M9 => K M9)))))))))) else (CV d μX6_blame [.ref 1, .int 2] M (fun M10 => K M10))))) : CV (d + 1) μX6_readDraw [.ref 1] M K := by
  show Rn (d + 1) μX6_readDraw 0 [(0, .ref 1)] [] M _
  refine rn_aload_n (i := 0) (x := 1) dX6_readDraw_0 rfl (by simp) ?_
  obtain ⟨t1, ht1e, ht1, h⟩ := h
  refine rn_getd dX6_readDraw_1 rfl gf_X6_24 rfl ht1e ?_
  refine rn_geti dX6_readDraw_4 ht1 gf_X6_169 (by decide) ?_
  refine rn_if_eq (tgt := 16) dX6_readDraw_7 (by decide) (ite_go h (fun hc h => ?_) (fun hc h => ?_))
  · refine rn_aload_n (i := 0) (x := 1) dX6_readDraw_16 rfl (by simp) ?_
    obtain ⟨t2, ht2e, ht2, h⟩ := h
    refine rn_getd dX6_readDraw_17 rfl gf_X6_24 rfl ht2e ?_
    refine rn_iconst (v := 1) dX6_readDraw_20 rfl ?_
    have h := h _ rfl
    refine rn_puti dX6_readDraw_21 ht2 pf_X6_169 (by decide) rfl rfl ?_
    generalize wi M t2 7 1 = M3 at h ⊢
    refine rn_aload_n (i := 0) (x := 1) dX6_readDraw_24 rfl (by simp) ?_
    refine rn_callVv (as := []) (st := []) dX6_readDraw_25 mf_X6_advance lk_X6_57 im_X6_advance rfl rfl rfl rfl (Nat.le_of_ble_eq_true rfl) (Nat.le_of_ble_eq_true rfl) rfl (RV.mono h (fun M4 h => ?_))
    refine rn_aload_n (i := 0) (x := 1) dX6_readDraw_28 rfl (by simp) ?_
    obtain ⟨t5, ht5e, ht5, h⟩ := h
    refine rn_getd dX6_readDraw_29 rfl gf_X6_24 rfl ht5e ?_
    refine rn_getr (t := t5 + 1) dX6_readDraw_32 ht5 gf_X6_122 rfl (telling_refs _ ht5).1.1 ?_
    refine rn_aload_n (i := 0) (x := 1) dX6_readDraw_35 rfl (by simp) ?_
    refine rn_sipush (v := 999) dX6_readDraw_36 rfl ?_
    refine rn_callVi (as := [.int 999]) (st := [.ref (t5 + 1)]) dX6_readDraw_39 mf_X6_takeNumber lk_X6_134 im_X6_takeNumber rfl rfl rfl rfl (Nat.le_of_ble_eq_true rfl) (Nat.le_of_ble_eq_true rfl) rfl (RI.mono h (fun r7 M6 h => ?_))
    have h := h _ rfl
    refine rn_puti dX6_readDraw_42 (telling_refs _ ht5).1.2 pf_X6_172 (by decide) rfl rfl ?_
    generalize wi M6 (t5 + 1) 3 r7 = M8 at h ⊢
    refine rn_aload_n (i := 0) (x := 1) dX6_readDraw_45 rfl (by simp) ?_
    refine rn_bipush (v := 59) dX6_readDraw_46 rfl ?_
    refine rn_callVv (as := [.int 59]) (st := []) dX6_readDraw_48 mf_X6_takeSign lk_X6_141 im_X6_takeSign rfl rfl rfl rfl (Nat.le_of_ble_eq_true rfl) (Nat.le_of_ble_eq_true rfl) rfl (RV.mono h (fun M9 h => ?_))
    exact rn_ret dX6_readDraw_51 rfl ⟨rfl, h⟩
  · refine rn_aload_n (i := 0) (x := 1) dX6_readDraw_10 rfl (by simp) ?_
    refine rn_iconst (v := 2) dX6_readDraw_11 rfl ?_
    refine rn_callVv (as := [.int 2]) (st := []) dX6_readDraw_12 mf_X6_blame lk_X6_79 im_X6_blame rfl rfl rfl rfl (Nat.le_of_ble_eq_true rfl) (Nat.le_of_ble_eq_true rfl) rfl (RV.mono h (fun M10 h => ?_))
    exact rn_ret dX6_readDraw_15 rfl ⟨rfl, h⟩
theorem dX6_readGrows_0 : decode μX6_readGrows.2.1 0 = .ok (.aload_n 0, 1) := by decide +kernel
theorem dX6_readGrows_1 : decode μX6_readGrows.2.1 1 = .ok (.getfield 24, 3) := by decide +kernel
theorem dX6_readGrows_4 : decode μX6_readGrows.2.1 4 = .ok (.getfield 175, 3) := by decide +kernel
theorem dX6_readGrows_7 : decode μX6_readGrows.2.1 7 = .ok (.ifCond .eq 9, 3) := by decide +kernel
theorem dX6_readGrows_10 : decode μX6_readGrows.2.1 10 = .ok (.aload_n 0, 1) := by decide +kernel
theorem dX6_readGrows_11 : decode μX6_readGrows.2.1 11 = .ok (.iconst 2, 1) := by decide +kernel
theorem dX6_readGrows_12 : decode μX6_readGrows.2.1 12 = .ok (.invokevirtual 79, 3) := by decide +kernel
theorem dX6_readGrows_15 : decode μX6_readGrows.2.1 15 = .ok (.return_, 1) := by decide +kernel
theorem dX6_readGrows_16 : decode μX6_readGrows.2.1 16 = .ok (.aload_n 0, 1) := by decide +kernel
theorem dX6_readGrows_17 : decode μX6_readGrows.2.1 17 = .ok (.getfield 24, 3) := by decide +kernel
theorem dX6_readGrows_20 : decode μX6_readGrows.2.1 20 = .ok (.iconst 1, 1) := by decide +kernel
theorem dX6_readGrows_21 : decode μX6_readGrows.2.1 21 = .ok (.putfield 175, 3) := by decide +kernel
theorem dX6_readGrows_24 : decode μX6_readGrows.2.1 24 = .ok (.aload_n 0, 1) := by decide +kernel
theorem dX6_readGrows_25 : decode μX6_readGrows.2.1 25 = .ok (.invokevirtual 57, 3) := by decide +kernel
theorem dX6_readGrows_28 : decode μX6_readGrows.2.1 28 = .ok (.aload_n 0, 1) := by decide +kernel
theorem dX6_readGrows_29 : decode μX6_readGrows.2.1 29 = .ok (.iconst 0, 1) := by decide +kernel
theorem dX6_readGrows_30 : decode μX6_readGrows.2.1 30 = .ok (.iconst 0, 1) := by decide +kernel
theorem dX6_readGrows_31 : decode μX6_readGrows.2.1 31 = .ok (.invokevirtual 178, 3) := by decide +kernel
theorem dX6_readGrows_34 : decode μX6_readGrows.2.1 34 = .ok (.aload_n 0, 1) := by decide +kernel
theorem dX6_readGrows_35 : decode μX6_readGrows.2.1 35 = .ok (.bipush 59, 2) := by decide +kernel
theorem dX6_readGrows_37 : decode μX6_readGrows.2.1 37 = .ok (.invokevirtual 141, 3) := by decide +kernel
theorem dX6_readGrows_40 : decode μX6_readGrows.2.1 40 = .ok (.return_, 1) := by decide +kernel
set_option maxRecDepth 20000 in
theorem sg_X6_readGrows_0 {d : Nat}  {M : Mem} {K : (Mem → Prop)}  (h : (∃ t1, nx (ri M 1 3) = t1 ∧ kd t1 = (0, 7) ∧ (if ri M t1 5 = 0 then (∃ t2, nx (ri M 1 3) = t2 ∧ kd t2 = (0, 7) ∧ (∀ M3, M3 = wi M t2 5 1 → (CV d μX6_advance [.ref 1] M3 (fun M4 => (CV d μX6_readPart [.ref 1, .int 0, .int 0] M4 (fun M5 => (CV d μX6_takeSign [.ref 1, .int 59] M5 (fun M6 => K M6)))))))) else (CV d μX6_blame [.ref 1, .int 2] M (fun M7 => K M7))))) : CV (d + 1) μX6_readGrows [.ref 1] M K := by
  show Rn (d + 1) μX6_readGrows 0 [(0, .ref 1)] [] M _
  refine rn_aload_n (i := 0) (x := 1) dX6_readGrows_0 rfl (by simp) ?_
  obtain ⟨t1, ht1e, ht1, h⟩ := h
  refine rn_getd dX6_readGrows_1 rfl gf_X6_24 rfl ht1e ?_
  refine rn_geti dX6_readGrows_4 ht1 gf_X6_175 (by decide) ?_
  refine rn_if_eq (tgt := 16) dX6_readGrows_7 (by decide) (ite_go h (fun hc h => ?_) (fun hc h => ?_))
  · refine rn_aload_n (i := 0) (x := 1) dX6_readGrows_16 rfl (by simp) ?_
    obtain ⟨t2, ht2e, ht2, h⟩ := h
    refine rn_getd dX6_readGrows_17 rfl gf_X6_24 rfl ht2e ?_
    refine rn_iconst (v := 1) dX6_readGrows_20 rfl ?_
    have h := h _ rfl
    refine rn_puti dX6_readGrows_21 ht2 pf_X6_175 (by decide) rfl rfl ?_
    generalize wi M t2 5 1 = M3 at h ⊢
    refine rn_aload_n (i := 0) (x := 1) dX6_readGrows_24 rfl (by simp) ?_
    refine rn_callVv (as := []) (st := []) dX6_readGrows_25 mf_X6_advance lk_X6_57 im_X6_advance rfl rfl rfl rfl (Nat.le_of_ble_eq_true rfl) (Nat.le_of_ble_eq_true rfl) rfl (RV.mono h (fun M4 h => ?_))
    refine rn_aload_n (i := 0) (x := 1) dX6_readGrows_28 rfl (by simp) ?_
    refine rn_iconst (v := 0) dX6_readGrows_29 rfl ?_
    refine rn_iconst (v := 0) dX6_readGrows_30 rfl ?_
    refine rn_callVv (as := [.int 0, .int 0]) (st := []) dX6_readGrows_31 mf_X6_readPart lk_X6_178 im_X6_readPart rfl rfl rfl rfl (Nat.le_of_ble_eq_true rfl) (Nat.le_of_ble_eq_true rfl) rfl (RV.mono h (fun M5 h => ?_))
    refine rn_aload_n (i := 0) (x := 1) dX6_readGrows_34 rfl (by simp) ?_
    refine rn_bipush (v := 59) dX6_readGrows_35 rfl ?_
    refine rn_callVv (as := [.int 59]) (st := []) dX6_readGrows_37 mf_X6_takeSign lk_X6_141 im_X6_takeSign rfl rfl rfl rfl (Nat.le_of_ble_eq_true rfl) (Nat.le_of_ble_eq_true rfl) rfl (RV.mono h (fun M6 h => ?_))
    exact rn_ret dX6_readGrows_40 rfl ⟨rfl, h⟩
  · refine rn_aload_n (i := 0) (x := 1) dX6_readGrows_10 rfl (by simp) ?_
    refine rn_iconst (v := 2) dX6_readGrows_11 rfl ?_
    refine rn_callVv (as := [.int 2]) (st := []) dX6_readGrows_12 mf_X6_blame lk_X6_79 im_X6_blame rfl rfl rfl rfl (Nat.le_of_ble_eq_true rfl) (Nat.le_of_ble_eq_true rfl) rfl (RV.mono h (fun M7 h => ?_))
    exact rn_ret dX6_readGrows_15 rfl ⟨rfl, h⟩
theorem dX6_readPart_0 : decode μX6_readPart.2.1 0 = .ok (.aload_n 0, 1) := by decide +kernel
theorem dX6_readPart_1 : decode μX6_readPart.2.1 1 = .ok (.getfield 9, 3) := by decide +kernel
theorem dX6_readPart_4 : decode μX6_readPart.2.1 4 = .ok (.ifCond .ne 9, 3) := by decide +kernel
theorem dX6_readPart_7 : decode μX6_readPart.2.1 7 = .ok (.iload_n 2, 1) := by decide +kernel
theorem dX6_readPart_8 : decode μX6_readPart.2.1 8 = .ok (.bipush 7, 2) := by decide +kernel
theorem dX6_readPart_10 : decode μX6_readPart.2.1 10 = .ok (.if_icmp .le 4, 3) := by decide +kernel
theorem dX6_readPart_13 : decode μX6_readPart.2.1 13 = .ok (.return_, 1) := by decide +kernel
theorem dX6_readPart_14 : decode μX6_readPart.2.1 14 = .ok (.iload_n 1, 1) := by decide +kernel
theorem dX6_readPart_15 : decode μX6_readPart.2.1 15 = .ok (.iconst 5, 1) := by decide +kernel
theorem dX6_readPart_16 : decode μX6_readPart.2.1 16 = .ok (.if_icmp .ne 9, 3) := by decide +kernel
theorem dX6_readPart_19 : decode μX6_readPart.2.1 19 = .ok (.aload_n 0, 1) := by decide +kernel
theorem dX6_readPart_20 : decode μX6_readPart.2.1 20 = .ok (.iload_n 2, 1) := by decide +kernel
theorem dX6_readPart_21 : decode μX6_readPart.2.1 21 = .ok (.invokevirtual 182, 3) := by decide +kernel
theorem dX6_readPart_24 : decode μX6_readPart.2.1 24 = .ok (.return_, 1) := by decide +kernel
theorem dX6_readPart_25 : decode μX6_readPart.2.1 25 = .ok (.iload_n 1, 1) := by decide +kernel
theorem dX6_readPart_26 : decode μX6_readPart.2.1 26 = .ok (.iconst 2, 1) := by decide +kernel
theorem dX6_readPart_27 : decode μX6_readPart.2.1 27 = .ok (.if_icmp .ne 45, 3) := by decide +kernel
theorem dX6_readPart_30 : decode μX6_readPart.2.1 30 = .ok (.aload_n 0, 1) := by decide +kernel
theorem dX6_readPart_31 : decode μX6_readPart.2.1 31 = .ok (.bipush 9, 2) := by decide +kernel
theorem dX6_readPart_33 : decode μX6_readPart.2.1 33 = .ok (.invokevirtual 60, 3) := by decide +kernel
theorem dX6_readPart_36 : decode μX6_readPart.2.1 36 = .ok (.ifCond .eq 36, 3) := by decide +kernel
theorem dX6_readPart_39 : decode μX6_readPart.2.1 39 = .ok (.aload_n 0, 1) := by decide +kernel
theorem dX6_readPart_40 : decode μX6_readPart.2.1 40 = .ok (.iload_n 2, 1) := by decide +kernel
theorem dX6_readPart_41 : decode μX6_readPart.2.1 41 = .ok (.invokevirtual 185, 3) := by decide +kernel
theorem dX6_readPart_44 : decode μX6_readPart.2.1 44 = .ok (.ifCond .eq 27, 3) := by decide +kernel
theorem dX6_readPart_47 : decode μX6_readPart.2.1 47 = .ok (.aload_n 0, 1) := by decide +kernel
theorem dX6_readPart_48 : decode μX6_readPart.2.1 48 = .ok (.invokevirtual 57, 3) := by decide +kernel
theorem dX6_readPart_51 : decode μX6_readPart.2.1 51 = .ok (.aload_n 0, 1) := by decide +kernel
theorem dX6_readPart_52 : decode μX6_readPart.2.1 52 = .ok (.iconst 2, 1) := by decide +kernel
theorem dX6_readPart_53 : decode μX6_readPart.2.1 53 = .ok (.iload_n 2, 1) := by decide +kernel
theorem dX6_readPart_54 : decode μX6_readPart.2.1 54 = .ok (.iconst 1, 1) := by decide +kernel
theorem dX6_readPart_55 : decode μX6_readPart.2.1 55 = .ok (.iadd, 1) := by decide +kernel
theorem dX6_readPart_56 : decode μX6_readPart.2.1 56 = .ok (.invokevirtual 178, 3) := by decide +kernel
theorem dX6_readPart_59 : decode μX6_readPart.2.1 59 = .ok (.aload_n 0, 1) := by decide +kernel
theorem dX6_readPart_60 : decode μX6_readPart.2.1 60 = .ok (.getfield 24, 3) := by decide +kernel
theorem dX6_readPart_63 : decode μX6_readPart.2.1 63 = .ok (.getfield 188, 3) := by decide +kernel
theorem dX6_readPart_66 : decode μX6_readPart.2.1 66 = .ok (.bipush (-6), 2) := by decide +kernel
theorem dX6_readPart_68 : decode μX6_readPart.2.1 68 = .ok (.invokevirtual 194, 3) := by decide +kernel
theorem dX6_readPart_71 : decode μX6_readPart.2.1 71 = .ok (.return_, 1) := by decide +kernel
theorem dX6_readPart_72 : decode μX6_readPart.2.1 72 = .ok (.aload_n 0, 1) := by decide +kernel
theorem dX6_readPart_73 : decode μX6_readPart.2.1 73 = .ok (.iload_n 1, 1) := by decide +kernel
theorem dX6_readPart_74 : decode μX6_readPart.2.1 74 = .ok (.iconst 1, 1) := by decide +kernel
theorem dX6_readPart_75 : decode μX6_readPart.2.1 75 = .ok (.iadd, 1) := by decide +kernel
theorem dX6_readPart_76 : decode μX6_readPart.2.1 76 = .ok (.iload_n 2, 1) := by decide +kernel
theorem dX6_readPart_77 : decode μX6_readPart.2.1 77 = .ok (.invokevirtual 178, 3) := by decide +kernel
theorem dX6_readPart_80 : decode μX6_readPart.2.1 80 = .ok (.iload_n 1, 1) := by decide +kernel
theorem dX6_readPart_81 : decode μX6_readPart.2.1 81 = .ok (.iconst 2, 1) := by decide +kernel
theorem dX6_readPart_82 : decode μX6_readPart.2.1 82 = .ok (.if_icmp .ne 7, 3) := by decide +kernel
theorem dX6_readPart_85 : decode μX6_readPart.2.1 85 = .ok (.iconst 1, 1) := by decide +kernel
theorem dX6_readPart_86 : decode μX6_readPart.2.1 86 = .ok (.goto 5, 3) := by decide +kernel
theorem dX6_readPart_89 : decode μX6_readPart.2.1 89 = .ok (.bipush 30, 2) := by decide +kernel
theorem dX6_readPart_91 : decode μX6_readPart.2.1 91 = .ok (.istore_n 3, 1) := by decide +kernel
theorem dX6_readPart_92 : decode μX6_readPart.2.1 92 = .ok (.iconst 0, 1) := by decide +kernel
theorem dX6_readPart_93 : decode μX6_readPart.2.1 93 = .ok (.istore 4, 2) := by decide +kernel
theorem dX6_readPart_95 : decode μX6_readPart.2.1 95 = .ok (.iload 4, 2) := by decide +kernel
theorem dX6_readPart_97 : decode μX6_readPart.2.1 97 = .ok (.iload_n 3, 1) := by decide +kernel
theorem dX6_readPart_98 : decode μX6_readPart.2.1 98 = .ok (.if_icmp .ge 46, 3) := by decide +kernel
theorem dX6_readPart_101 : decode μX6_readPart.2.1 101 = .ok (.aload_n 0, 1) := by decide +kernel
theorem dX6_readPart_102 : decode μX6_readPart.2.1 102 = .ok (.iload_n 1, 1) := by decide +kernel
theorem dX6_readPart_103 : decode μX6_readPart.2.1 103 = .ok (.invokevirtual 197, 3) := by decide +kernel
theorem dX6_readPart_106 : decode μX6_readPart.2.1 106 = .ok (.istore 5, 2) := by decide +kernel
theorem dX6_readPart_108 : decode μX6_readPart.2.1 108 = .ok (.iload 5, 2) := by decide +kernel
theorem dX6_readPart_110 : decode μX6_readPart.2.1 110 = .ok (.ifCond .ne 4, 3) := by decide +kernel
theorem dX6_readPart_113 : decode μX6_readPart.2.1 113 = .ok (.return_, 1) := by decide +kernel
theorem dX6_readPart_114 : decode μX6_readPart.2.1 114 = .ok (.aload_n 0, 1) := by decide +kernel
theorem dX6_readPart_115 : decode μX6_readPart.2.1 115 = .ok (.invokevirtual 57, 3) := by decide +kernel
theorem dX6_readPart_118 : decode μX6_readPart.2.1 118 = .ok (.aload_n 0, 1) := by decide +kernel
theorem dX6_readPart_119 : decode μX6_readPart.2.1 119 = .ok (.iload_n 1, 1) := by decide +kernel
theorem dX6_readPart_120 : decode μX6_readPart.2.1 120 = .ok (.iconst 1, 1) := by decide +kernel
theorem dX6_readPart_121 : decode μX6_readPart.2.1 121 = .ok (.iadd, 1) := by decide +kernel
theorem dX6_readPart_122 : decode μX6_readPart.2.1 122 = .ok (.iload_n 2, 1) := by decide +kernel
theorem dX6_readPart_123 : decode μX6_readPart.2.1 123 = .ok (.invokevirtual 178, 3) := by decide +kernel
theorem dX6_readPart_126 : decode μX6_readPart.2.1 126 = .ok (.aload_n 0, 1) := by decide +kernel
theorem dX6_readPart_127 : decode μX6_readPart.2.1 127 = .ok (.getfield 24, 3) := by decide +kernel
theorem dX6_readPart_130 : decode μX6_readPart.2.1 130 = .ok (.getfield 188, 3) := by decide +kernel
theorem dX6_readPart_133 : decode μX6_readPart.2.1 133 = .ok (.iload 5, 2) := by decide +kernel
theorem dX6_readPart_135 : decode μX6_readPart.2.1 135 = .ok (.invokevirtual 194, 3) := by decide +kernel
theorem dX6_readPart_138 : decode μX6_readPart.2.1 138 = .ok (.iinc 4 1, 3) := by decide +kernel
theorem dX6_readPart_141 : decode μX6_readPart.2.1 141 = .ok (.goto (-46), 3) := by decide +kernel
theorem dX6_readPart_144 : decode μX6_readPart.2.1 144 = .ok (.return_, 1) := by decide +kernel
set_option maxRecDepth 20000 in
theorem sg_X6_readPart_0 {d : Nat} {x1 : Int32} {x2 : Int32} {M : Mem} {K : (Mem → Prop)}  (h : (if ri M 1 0 = 0 then (if x2 ≤ 7 then (if x1 = 5 then (CV d μX6_readUnit [.ref 1, .int x2] M (fun M1 => K M1)) else (if x1 = 2 then (CI d μX6_isWord [.ref 1, .int 9] M (fun r3 M2 => (if r3 = 0 then RV (d + 1) μX6_readPart 72 [(0, .ref 1), (1, .int x1), (2, .int x2)] [] M2 K else (CI d μX6_mayNest [.ref 1, .int x2] M2 (fun r5 M4 => (if r5 = 0 then K M4 else (CV d μX6_advance [.ref 1] M4 (fun M6 => (CV d μX6_readPart [.ref 1, .int 2, .int (x2 + 1)] M6 (fun M7 => (∃ t8, nx (ri M7 1 3) = t8 ∧ kd t8 = (0, 7) ∧ (CV d μX1_put [.ref (t8 + 7), .int ((-6))] M7 (fun M9 => K M9))))))))))))) else RV (d + 1) μX6_readPart 72 [(0, .ref 1), (1, .int x1), (2, .int x2)] [] M K)) else K M) else K M)) : CV (d + 1) μX6_readPart [.ref 1, .int x1, .int x2] M K := by
  show Rn (d + 1) μX6_readPart 0 [(0, .ref 1), (1, .int x1), (2, .int x2)] [] M _
  refine rn_aload_n (i := 0) (x := 1) dX6_readPart_0 rfl (by simp) ?_
  refine rn_geti dX6_readPart_1 rfl gf_X6_9 (by decide) ?_
  refine rn_if_ne (tgt := 13) dX6_readPart_4 (by decide) (ite_go h (fun hc h => ?_) (fun hc h => ?_))
  · refine rn_iload_n (i := 2) (x := x2) dX6_readPart_7 rfl (by simp) ?_
    refine rn_bipush (v := 7) dX6_readPart_8 rfl ?_
    refine rn_icmp_le (tgt := 14) dX6_readPart_10 (by decide) (ite_go h (fun hc h => ?_) (fun hc h => ?_))
    · refine rn_iload_n (i := 1) (x := x1) dX6_readPart_14 rfl (by simp) ?_
      refine rn_iconst (v := 5) dX6_readPart_15 rfl ?_
      refine rn_icmp_ne (tgt := 25) dX6_readPart_16 (by decide) (ite_go h (fun hc h => ?_) (fun hc h => ?_))
      · refine rn_aload_n (i := 0) (x := 1) dX6_readPart_19 rfl (by simp) ?_
        refine rn_iload_n (i := 2) (x := x2) dX6_readPart_20 rfl (by simp) ?_
        refine rn_callVv (as := [.int x2]) (st := []) dX6_readPart_21 mf_X6_readUnit lk_X6_182 im_X6_readUnit rfl rfl rfl rfl (Nat.le_of_ble_eq_true rfl) (Nat.le_of_ble_eq_true rfl) rfl (RV.mono h (fun M1 h => ?_))
        exact rn_ret dX6_readPart_24 rfl ⟨rfl, h⟩
      · refine rn_iload_n (i := 1) (x := x1) dX6_readPart_25 rfl (by simp) ?_
        refine rn_iconst (v := 2) dX6_readPart_26 rfl ?_
        refine rn_icmp_ne (tgt := 72) dX6_readPart_27 (by decide) (ite_go h (fun hc h => ?_) (fun hc h => ?_))
        · refine rn_aload_n (i := 0) (x := 1) dX6_readPart_30 rfl (by simp) ?_
          refine rn_bipush (v := 9) dX6_readPart_31 rfl ?_
          refine rn_callVi (as := [.int 9]) (st := []) dX6_readPart_33 mf_X6_isWord lk_X6_60 im_X6_isWord rfl rfl rfl rfl (Nat.le_of_ble_eq_true rfl) (Nat.le_of_ble_eq_true rfl) rfl (RI.mono h (fun r3 M2 h => ?_))
          refine rn_if_eq (tgt := 72) dX6_readPart_36 (by decide) (ite_go h (fun hc h => ?_) (fun hc h => ?_))
          · exact h
          · refine rn_aload_n (i := 0) (x := 1) dX6_readPart_39 rfl (by simp) ?_
            refine rn_iload_n (i := 2) (x := x2) dX6_readPart_40 rfl (by simp) ?_
            refine rn_callVi (as := [.int x2]) (st := []) dX6_readPart_41 mf_X6_mayNest lk_X6_185 im_X6_mayNest rfl rfl rfl rfl (Nat.le_of_ble_eq_true rfl) (Nat.le_of_ble_eq_true rfl) rfl (RI.mono h (fun r5 M4 h => ?_))
            refine rn_if_eq (tgt := 71) dX6_readPart_44 (by decide) (ite_go h (fun hc h => ?_) (fun hc h => ?_))
            · exact rn_ret dX6_readPart_71 rfl ⟨rfl, h⟩
            · refine rn_aload_n (i := 0) (x := 1) dX6_readPart_47 rfl (by simp) ?_
              refine rn_callVv (as := []) (st := []) dX6_readPart_48 mf_X6_advance lk_X6_57 im_X6_advance rfl rfl rfl rfl (Nat.le_of_ble_eq_true rfl) (Nat.le_of_ble_eq_true rfl) rfl (RV.mono h (fun M6 h => ?_))
              refine rn_aload_n (i := 0) (x := 1) dX6_readPart_51 rfl (by simp) ?_
              refine rn_iconst (v := 2) dX6_readPart_52 rfl ?_
              refine rn_iload_n (i := 2) (x := x2) dX6_readPart_53 rfl (by simp) ?_
              refine rn_iconst (v := 1) dX6_readPart_54 rfl ?_
              refine rn_iadd dX6_readPart_55 ?_
              refine rn_callVv (as := [.int 2, .int (x2 + 1)]) (st := []) dX6_readPart_56 mf_X6_readPart lk_X6_178 im_X6_readPart rfl rfl rfl rfl (Nat.le_of_ble_eq_true rfl) (Nat.le_of_ble_eq_true rfl) rfl (RV.mono h (fun M7 h => ?_))
              refine rn_aload_n (i := 0) (x := 1) dX6_readPart_59 rfl (by simp) ?_
              obtain ⟨t8, ht8e, ht8, h⟩ := h
              refine rn_getd dX6_readPart_60 rfl gf_X6_24 rfl ht8e ?_
              refine rn_getr (t := t8 + 7) dX6_readPart_63 ht8 gf_X6_188 rfl (telling_refs _ ht8).2.1.1 ?_
              refine rn_bipush (v := -6) dX6_readPart_66 rfl ?_
              refine rn_callVv (as := [.int ((-6))]) (st := []) dX6_readPart_68 mf_X1_put lk_X6_194 im_X1_put (telling_refs _ ht8).2.1.2 rfl rfl rfl (Nat.le_of_ble_eq_true rfl) (Nat.le_of_ble_eq_true rfl) rfl (RV.mono h (fun M9 h => ?_))
              exact rn_ret dX6_readPart_71 rfl ⟨rfl, h⟩
        · exact h
    · exact rn_ret dX6_readPart_13 rfl ⟨rfl, h⟩
  · exact rn_ret dX6_readPart_13 rfl ⟨rfl, h⟩
set_option maxRecDepth 20000 in
theorem sg_X6_readPart_72 {d : Nat} {x1 : Int32} {x2 : Int32} {M : Mem} {K : (Mem → Prop)}  (h : (CV d μX6_readPart [.ref 1, .int (x1 + 1), .int x2] M (fun M1 => (if x1 = 2 then RV (d + 1) μX6_readPart 95 [(0, .ref 1), (1, .int x1), (2, .int x2), (3, .int 1), (4, .int 0)] [] M1 K else RV (d + 1) μX6_readPart 95 [(0, .ref 1), (1, .int x1), (2, .int x2), (3, .int 30), (4, .int 0)] [] M1 K)))) : RV (d + 1) μX6_readPart 72 [(0, .ref 1), (1, .int x1), (2, .int x2)] [] M K := by
  show Rn (d + 1) μX6_readPart 72 [(0, .ref 1), (1, .int x1), (2, .int x2)] [] M _
  refine rn_aload_n (i := 0) (x := 1) dX6_readPart_72 rfl (by simp) ?_
  refine rn_iload_n (i := 1) (x := x1) dX6_readPart_73 rfl (by simp) ?_
  refine rn_iconst (v := 1) dX6_readPart_74 rfl ?_
  refine rn_iadd dX6_readPart_75 ?_
  refine rn_iload_n (i := 2) (x := x2) dX6_readPart_76 rfl (by simp) ?_
  refine rn_callVv (as := [.int (x1 + 1), .int x2]) (st := []) dX6_readPart_77 mf_X6_readPart lk_X6_178 im_X6_readPart rfl rfl rfl rfl (Nat.le_of_ble_eq_true rfl) (Nat.le_of_ble_eq_true rfl) rfl (RV.mono h (fun M1 h => ?_))
  refine rn_iload_n (i := 1) (x := x1) dX6_readPart_80 rfl (by simp) ?_
  refine rn_iconst (v := 2) dX6_readPart_81 rfl ?_
  refine rn_icmp_ne (tgt := 89) dX6_readPart_82 (by decide) (ite_go h (fun hc h => ?_) (fun hc h => ?_))
  · refine rn_iconst (v := 1) dX6_readPart_85 rfl ?_
    refine rn_goto (tgt := 91) dX6_readPart_86 (by decide) ?_
    refine rn_istore_n (lv' := [(0, .ref 1), (1, .int x1), (2, .int x2), (3, .int 1)]) (hd := dX6_readPart_91) (i := 3) (hi := rfl) (hn := by decide) (hf := rfl) (hl := rfl) ?_
    refine rn_iconst (v := 0) dX6_readPart_92 rfl ?_
    refine rn_istore (lv' := [(0, .ref 1), (1, .int x1), (2, .int x2), (3, .int 1), (4, .int 0)]) (hd := dX6_readPart_93) (hn := by decide) (hf := rfl) (hl := rfl) ?_
    exact h
  · refine rn_bipush (v := 30) dX6_readPart_89 rfl ?_
    refine rn_istore_n (lv' := [(0, .ref 1), (1, .int x1), (2, .int x2), (3, .int 30)]) (hd := dX6_readPart_91) (i := 3) (hi := rfl) (hn := by decide) (hf := rfl) (hl := rfl) ?_
    refine rn_iconst (v := 0) dX6_readPart_92 rfl ?_
    refine rn_istore (lv' := [(0, .ref 1), (1, .int x1), (2, .int x2), (3, .int 30), (4, .int 0)]) (hd := dX6_readPart_93) (hn := by decide) (hf := rfl) (hl := rfl) ?_
    exact h
set_option maxRecDepth 20000 in
theorem sg_X6_readPart_95 {d : Nat} {x1 : Int32} {x2 : Int32} {x3 : Int32} {x4 : Int32} {M : Mem} {K : (Mem → Prop)}  (h : (if x3 ≤ x4 then K M else (CI d μX6_opHere [.ref 1, .int x1] M (fun r2 M1 => (if r2 = 0 then K M1 else (CV d μX6_advance [.ref 1] M1 (fun M3 => (CV d μX6_readPart [.ref 1, .int (x1 + 1), .int x2] M3 (fun M4 => (∃ t5, nx (ri M4 1 3) = t5 ∧ kd t5 = (0, 7) ∧ (CV d μX1_put [.ref (t5 + 7), .int r2] M4 (fun M6 => RV (d + 1) μX6_readPart 95 [(0, .ref 1), (1, .int x1), (2, .int x2), (3, .int x3), (4, .int (x4 + 1))] [] M6 K)))))))))))) : RV (d + 1) μX6_readPart 95 [(0, .ref 1), (1, .int x1), (2, .int x2), (3, .int x3), (4, .int x4)] [] M K := by
  show Rn (d + 1) μX6_readPart 95 [(0, .ref 1), (1, .int x1), (2, .int x2), (3, .int x3), (4, .int x4)] [] M _
  refine rn_iload (x := x4) dX6_readPart_95 (by simp) ?_
  refine rn_iload_n (i := 3) (x := x3) dX6_readPart_97 rfl (by simp) ?_
  refine rn_icmp_ge (tgt := 144) dX6_readPart_98 (by decide) (ite_go h (fun hc h => ?_) (fun hc h => ?_))
  · exact rn_ret dX6_readPart_144 rfl ⟨rfl, h⟩
  · refine rn_aload_n (i := 0) (x := 1) dX6_readPart_101 rfl (by simp) ?_
    refine rn_iload_n (i := 1) (x := x1) dX6_readPart_102 rfl (by simp) ?_
    refine rn_callVi (as := [.int x1]) (st := []) dX6_readPart_103 mf_X6_opHere lk_X6_197 im_X6_opHere rfl rfl rfl rfl (Nat.le_of_ble_eq_true rfl) (Nat.le_of_ble_eq_true rfl) rfl (RI.mono h (fun r2 M1 h => ?_))
    refine rn_istore (lv' := [(0, .ref 1), (1, .int x1), (2, .int x2), (3, .int x3), (4, .int x4), (5, .int r2)]) (hd := dX6_readPart_106) (hn := by decide) (hf := rfl) (hl := rfl) ?_
    refine rn_iload (x := r2) dX6_readPart_108 (by simp) ?_
    refine rn_if_ne (tgt := 114) dX6_readPart_110 (by decide) (ite_go h (fun hc h => ?_) (fun hc h => ?_))
    · exact rn_ret dX6_readPart_113 rfl ⟨rfl, h⟩
    · refine rn_aload_n (i := 0) (x := 1) dX6_readPart_114 rfl (by simp) ?_
      refine rn_callVv (as := []) (st := []) dX6_readPart_115 mf_X6_advance lk_X6_57 im_X6_advance rfl rfl rfl rfl (Nat.le_of_ble_eq_true rfl) (Nat.le_of_ble_eq_true rfl) rfl (RV.mono h (fun M3 h => ?_))
      refine rn_aload_n (i := 0) (x := 1) dX6_readPart_118 rfl (by simp) ?_
      refine rn_iload_n (i := 1) (x := x1) dX6_readPart_119 rfl (by simp) ?_
      refine rn_iconst (v := 1) dX6_readPart_120 rfl ?_
      refine rn_iadd dX6_readPart_121 ?_
      refine rn_iload_n (i := 2) (x := x2) dX6_readPart_122 rfl (by simp) ?_
      refine rn_callVv (as := [.int (x1 + 1), .int x2]) (st := []) dX6_readPart_123 mf_X6_readPart lk_X6_178 im_X6_readPart rfl rfl rfl rfl (Nat.le_of_ble_eq_true rfl) (Nat.le_of_ble_eq_true rfl) rfl (RV.mono h (fun M4 h => ?_))
      refine rn_aload_n (i := 0) (x := 1) dX6_readPart_126 rfl (by simp) ?_
      obtain ⟨t5, ht5e, ht5, h⟩ := h
      refine rn_getd dX6_readPart_127 rfl gf_X6_24 rfl ht5e ?_
      refine rn_getr (t := t5 + 7) dX6_readPart_130 ht5 gf_X6_188 rfl (telling_refs _ ht5).2.1.1 ?_
      refine rn_iload (x := r2) dX6_readPart_133 (by simp) ?_
      refine rn_callVv (as := [.int r2]) (st := []) dX6_readPart_135 mf_X1_put lk_X6_194 im_X1_put (telling_refs _ ht5).2.1.2 rfl rfl rfl (Nat.le_of_ble_eq_true rfl) (Nat.le_of_ble_eq_true rfl) rfl (RV.mono h (fun M6 h => ?_))
      refine rn_iinc (x := x4) (v := x4 + 1) (lv' := [(0, .ref 1), (1, .int x1), (2, .int x2), (3, .int x3), (4, .int (x4 + 1)), (5, .int r2)]) dX6_readPart_138 (by simp) rfl (by decide) rfl rfl ?_
      refine rn_goto (tgt := 95) dX6_readPart_141 (by decide) ?_
      refine Rn.sub (lv' := [(0, .ref 1), (1, .int x1), (2, .int x2), (3, .int x3), (4, .int (x4 + 1))]) (by simp) ?_
      exact h
