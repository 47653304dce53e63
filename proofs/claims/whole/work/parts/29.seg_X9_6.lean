theorem dX9_takes_0 : decode μX9_takes.2.1 0 = .ok (.iconst 1, 1) := by decide +kernel
theorem dX9_takes_1 : decode μX9_takes.2.1 1 = .ok (.istore_n 3, 1) := by decide +kernel
theorem dX9_takes_2 : decode μX9_takes.2.1 2 = .ok (.iconst 0, 1) := by decide +kernel
theorem dX9_takes_3 : decode μX9_takes.2.1 3 = .ok (.istore 4, 2) := by decide +kernel
theorem dX9_takes_5 : decode μX9_takes.2.1 5 = .ok (.iload 4, 2) := by decide +kernel
theorem dX9_takes_7 : decode μX9_takes.2.1 7 = .ok (.aload_n 0, 1) := by decide +kernel
theorem dX9_takes_8 : decode μX9_takes.2.1 8 = .ok (.getfield 326, 3) := by decide +kernel
theorem dX9_takes_11 : decode μX9_takes.2.1 11 = .ok (.if_icmp .ge 32, 3) := by decide +kernel
theorem dX9_takes_14 : decode μX9_takes.2.1 14 = .ok (.iload 4, 2) := by decide +kernel
theorem dX9_takes_16 : decode μX9_takes.2.1 16 = .ok (.iload_n 2, 1) := by decide +kernel
theorem dX9_takes_17 : decode μX9_takes.2.1 17 = .ok (.if_icmp .eq 20, 3) := by decide +kernel
theorem dX9_takes_20 : decode μX9_takes.2.1 20 = .ok (.aload_n 0, 1) := by decide +kernel
theorem dX9_takes_21 : decode μX9_takes.2.1 21 = .ok (.iload_n 1, 1) := by decide +kernel
theorem dX9_takes_22 : decode μX9_takes.2.1 22 = .ok (.iload 4, 2) := by decide +kernel
theorem dX9_takes_24 : decode μX9_takes.2.1 24 = .ok (.invokevirtual 433, 3) := by decide +kernel
theorem dX9_takes_27 : decode μX9_takes.2.1 27 = .ok (.ifCond .eq 10, 3) := by decide +kernel
theorem dX9_takes_30 : decode μX9_takes.2.1 30 = .ok (.iload_n 3, 1) := by decide +kernel
theorem dX9_takes_31 : decode μX9_takes.2.1 31 = .ok (.iconst 2, 1) := by decide +kernel
theorem dX9_takes_32 : decode μX9_takes.2.1 32 = .ok (.iload 4, 2) := by decide +kernel
theorem dX9_takes_34 : decode μX9_takes.2.1 34 = .ok (.ishl, 1) := by decide +kernel
theorem dX9_takes_35 : decode μX9_takes.2.1 35 = .ok (.ior, 1) := by decide +kernel
theorem dX9_takes_36 : decode μX9_takes.2.1 36 = .ok (.istore_n 3, 1) := by decide +kernel
theorem dX9_takes_37 : decode μX9_takes.2.1 37 = .ok (.iinc 4 1, 3) := by decide +kernel
theorem dX9_takes_40 : decode μX9_takes.2.1 40 = .ok (.goto (-35), 3) := by decide +kernel
theorem dX9_takes_43 : decode μX9_takes.2.1 43 = .ok (.iload_n 3, 1) := by decide +kernel
theorem dX9_takes_44 : decode μX9_takes.2.1 44 = .ok (.ireturn, 1) := by decide +kernel
set_option maxRecDepth 20000 in
theorem sg_X9_takes_0 {d : Nat} {x1 : Int32} {x2 : Int32} {M : Mem} {K : (Int32 → Mem → Prop)}  (h : RI (d + 1) μX9_takes 5 [(0, .ref 58), (1, .int x1), (2, .int x2), (3, .int 1), (4, .int 0)] [] M K) : CI (d + 1) μX9_takes [.ref 58, .int x1, .int x2] M K := by
  show Rn (d + 1) μX9_takes 0 [(0, .ref 58), (1, .int x1), (2, .int x2)] [] M _
  refine rn_iconst (v := 1) dX9_takes_0 rfl ?_
  refine rn_istore_n (lv' := [(0, .ref 58), (1, .int x1), (2, .int x2), (3, .int 1)]) (hd := dX9_takes_1) (i := 3) (hi := rfl) (hn := by decide) (hf := rfl) (hl := rfl) ?_
  refine rn_iconst (v := 0) dX9_takes_2 rfl ?_
  refine rn_istore (lv' := [(0, .ref 58), (1, .int x1), (2, .int x2), (3, .int 1), (4, .int 0)]) (hd := dX9_takes_3) (hn := by decide) (hf := rfl) (hl := rfl) ?_
  exact h
set_option maxRecDepth 20000 in
theorem sg_X9_takes_5 {d : Nat} {x1 : Int32} {x2 : Int32} {x3 : Int32} {x4 : Int32} {M : Mem} {K : (Int32 → Mem → Prop)}  (h : (if ri M 58 35 ≤ x4 then K x3 M else (if x4 = x2 then RI (d + 1) μX9_takes 5 [(0, .ref 58), (1, .int x1), (2, .int x2), (3, .int x3), (4, .int (x4 + 1))] [] M K else (CI d μX9_canPop [.ref 58, .int x1, .int x4] M (fun r2 M1 => (if r2 = 0 then RI (d + 1) μX9_takes 5 [(0, .ref 58), (1, .int x1), (2, .int x2), (3, .int x3), (4, .int (x4 + 1))] [] M1 K else RI (d + 1) μX9_takes 5 [(0, .ref 58), (1, .int x1), (2, .int x2), (3, .int (x3 ||| ((2 : Int32) <<< (x4 &&& 31)))), (4, .int (x4 + 1))] [] M1 K)))))) : RI (d + 1) μX9_takes 5 [(0, .ref 58), (1, .int x1), (2, .int x2), (3, .int x3), (4, .int x4)] [] M K := by
  show Rn (d + 1) μX9_takes 5 [(0, .ref 58), (1, .int x1), (2, .int x2), (3, .int x3), (4, .int x4)] [] M _
  refine rn_iload (x := x4) dX9_takes_5 (by simp) ?_
  refine rn_aload_n (i := 0) (x := 58) dX9_takes_7 rfl (by simp) ?_
  refine rn_geti dX9_takes_8 rfl gf_X9_326 (by decide) ?_
  refine rn_icmp_ge (tgt := 43) dX9_takes_11 (by decide) (ite_go h (fun hc h => ?_) (fun hc h => ?_))
  · refine rn_iload_n (i := 3) (x := x3) dX9_takes_43 rfl (by simp) ?_
    exact rn_iret dX9_takes_44 rfl ⟨_, rfl, h⟩
  · refine rn_iload (x := x4) dX9_takes_14 (by simp) ?_
    refine rn_iload_n (i := 2) (x := x2) dX9_takes_16 rfl (by simp) ?_
    refine rn_icmp_eq (tgt := 37) dX9_takes_17 (by decide) (ite_go h (fun hc h => ?_) (fun hc h => ?_))
    · refine rn_iinc (x := x4) (v := x4 + 1) (lv' := [(0, .ref 58), (1, .int x1), (2, .int x2), (3, .int x3), (4, .int (x4 + 1))]) dX9_takes_37 (by simp) rfl (by decide) rfl rfl ?_
      refine rn_goto (tgt := 5) dX9_takes_40 (by decide) ?_
      exact h
    · refine rn_aload_n (i := 0) (x := 58) dX9_takes_20 rfl (by simp) ?_
      refine rn_iload_n (i := 1) (x := x1) dX9_takes_21 rfl (by simp) ?_
      refine rn_iload (x := x4) dX9_takes_22 (by simp) ?_
      refine rn_callVi (as := [.int x1, .int x4]) (st := []) dX9_takes_24 mf_X9_canPop lk_X9_433 im_X9_canPop rfl rfl rfl rfl (Nat.le_of_ble_eq_true rfl) (Nat.le_of_ble_eq_true rfl) rfl (RI.mono h (fun r2 M1 h => ?_))
      refine rn_if_eq (tgt := 37) dX9_takes_27 (by decide) (ite_go h (fun hc h => ?_) (fun hc h => ?_))
      · refine rn_iinc (x := x4) (v := x4 + 1) (lv' := [(0, .ref 58), (1, .int x1), (2, .int x2), (3, .int x3), (4, .int (x4 + 1))]) dX9_takes_37 (by simp) rfl (by decide) rfl rfl ?_
        refine rn_goto (tgt := 5) dX9_takes_40 (by decide) ?_
        exact h
      · refine rn_iload_n (i := 3) (x := x3) dX9_takes_30 rfl (by simp) ?_
        refine rn_iconst (v := 2) dX9_takes_31 rfl ?_
        refine rn_iload (x := x4) dX9_takes_32 (by simp) ?_
        refine rn_ishl dX9_takes_34 ?_
        refine rn_ior dX9_takes_35 ?_
        refine rn_istore_n (lv' := [(0, .ref 58), (1, .int x1), (2, .int x2), (3, .int (x3 ||| ((2 : Int32) <<< (x4 &&& 31)))), (4, .int x4)]) (hd := dX9_takes_36) (i := 3) (hi := rfl) (hn := by decide) (hf := rfl) (hl := rfl) ?_
        refine rn_iinc (x := x4) (v := x4 + 1) (lv' := [(0, .ref 58), (1, .int x1), (2, .int x2), (3, .int (x3 ||| ((2 : Int32) <<< (x4 &&& 31)))), (4, .int (x4 + 1))]) dX9_takes_37 (by simp) rfl (by decide) rfl rfl ?_
        refine rn_goto (tgt := 5) dX9_takes_40 (by decide) ?_
        exact h
theorem dX9_layPricks_0 : decode μX9_layPricks.2.1 0 = .ok (.aload_n 0, 1) := by decide +kernel
theorem dX9_layPricks_1 : decode μX9_layPricks.2.1 1 = .ok (.invokevirtual 424, 3) := by decide +kernel
theorem dX9_layPricks_4 : decode μX9_layPricks.2.1 4 = .ok (.aload_n 0, 1) := by decide +kernel
theorem dX9_layPricks_5 : decode μX9_layPricks.2.1 5 = .ok (.aload_n 0, 1) := by decide +kernel
theorem dX9_layPricks_6 : decode μX9_layPricks.2.1 6 = .ok (.iload_n 1, 1) := by decide +kernel
theorem dX9_layPricks_7 : decode μX9_layPricks.2.1 7 = .ok (.iload_n 2, 1) := by decide +kernel
theorem dX9_layPricks_8 : decode μX9_layPricks.2.1 8 = .ok (.invokevirtual 480, 3) := by decide +kernel
theorem dX9_layPricks_11 : decode μX9_layPricks.2.1 11 = .ok (.putfield 483, 3) := by decide +kernel
theorem dX9_layPricks_14 : decode μX9_layPricks.2.1 14 = .ok (.aload_n 0, 1) := by decide +kernel
theorem dX9_layPricks_15 : decode μX9_layPricks.2.1 15 = .ok (.aload_n 0, 1) := by decide +kernel
theorem dX9_layPricks_16 : decode μX9_layPricks.2.1 16 = .ok (.iload_n 2, 1) := by decide +kernel
theorem dX9_layPricks_17 : decode μX9_layPricks.2.1 17 = .ok (.iload_n 1, 1) := by decide +kernel
theorem dX9_layPricks_18 : decode μX9_layPricks.2.1 18 = .ok (.invokevirtual 480, 3) := by decide +kernel
theorem dX9_layPricks_21 : decode μX9_layPricks.2.1 21 = .ok (.putfield 486, 3) := by decide +kernel
theorem dX9_layPricks_24 : decode μX9_layPricks.2.1 24 = .ok (.iconst 0, 1) := by decide +kernel
theorem dX9_layPricks_25 : decode μX9_layPricks.2.1 25 = .ok (.istore_n 3, 1) := by decide +kernel
theorem dX9_layPricks_26 : decode μX9_layPricks.2.1 26 = .ok (.iload_n 3, 1) := by decide +kernel
theorem dX9_layPricks_27 : decode μX9_layPricks.2.1 27 = .ok (.bipush 81, 2) := by decide +kernel
theorem dX9_layPricks_29 : decode μX9_layPricks.2.1 29 = .ok (.if_icmp .ge 116, 3) := by decide +kernel
theorem dX9_layPricks_32 : decode μX9_layPricks.2.1 32 = .ok (.iload_n 3, 1) := by decide +kernel
theorem dX9_layPricks_33 : decode μX9_layPricks.2.1 33 = .ok (.bipush 9, 2) := by decide +kernel
theorem dX9_layPricks_35 : decode μX9_layPricks.2.1 35 = .ok (.idiv, 1) := by decide +kernel
theorem dX9_layPricks_36 : decode μX9_layPricks.2.1 36 = .ok (.iconst 1, 1) := by decide +kernel
theorem dX9_layPricks_37 : decode μX9_layPricks.2.1 37 = .ok (.isub, 1) := by decide +kernel
theorem dX9_layPricks_38 : decode μX9_layPricks.2.1 38 = .ok (.istore 4, 2) := by decide +kernel
theorem dX9_layPricks_40 : decode μX9_layPricks.2.1 40 = .ok (.iload_n 3, 1) := by decide +kernel
theorem dX9_layPricks_41 : decode μX9_layPricks.2.1 41 = .ok (.bipush 9, 2) := by decide +kernel
theorem dX9_layPricks_43 : decode μX9_layPricks.2.1 43 = .ok (.irem, 1) := by decide +kernel
theorem dX9_layPricks_44 : decode μX9_layPricks.2.1 44 = .ok (.iconst 1, 1) := by decide +kernel
theorem dX9_layPricks_45 : decode μX9_layPricks.2.1 45 = .ok (.isub, 1) := by decide +kernel
theorem dX9_layPricks_46 : decode μX9_layPricks.2.1 46 = .ok (.istore 5, 2) := by decide +kernel
theorem dX9_layPricks_48 : decode μX9_layPricks.2.1 48 = .ok (.aload_n 0, 1) := by decide +kernel
theorem dX9_layPricks_49 : decode μX9_layPricks.2.1 49 = .ok (.getfield 483, 3) := by decide +kernel
theorem dX9_layPricks_52 : decode μX9_layPricks.2.1 52 = .ok (.iload 4, 2) := by decide +kernel
theorem dX9_layPricks_54 : decode μX9_layPricks.2.1 54 = .ok (.iconst 1, 1) := by decide +kernel
theorem dX9_layPricks_55 : decode μX9_layPricks.2.1 55 = .ok (.iadd, 1) := by decide +kernel
theorem dX9_layPricks_56 : decode μX9_layPricks.2.1 56 = .ok (.ishr, 1) := by decide +kernel
theorem dX9_layPricks_57 : decode μX9_layPricks.2.1 57 = .ok (.iconst 1, 1) := by decide +kernel
theorem dX9_layPricks_58 : decode μX9_layPricks.2.1 58 = .ok (.iand, 1) := by decide +kernel
theorem dX9_layPricks_59 : decode μX9_layPricks.2.1 59 = .ok (.ifCond .eq 80, 3) := by decide +kernel
theorem dX9_layPricks_62 : decode μX9_layPricks.2.1 62 = .ok (.aload_n 0, 1) := by decide +kernel
theorem dX9_layPricks_63 : decode μX9_layPricks.2.1 63 = .ok (.getfield 486, 3) := by decide +kernel
theorem dX9_layPricks_66 : decode μX9_layPricks.2.1 66 = .ok (.iload 5, 2) := by decide +kernel
theorem dX9_layPricks_68 : decode μX9_layPricks.2.1 68 = .ok (.iconst 1, 1) := by decide +kernel
theorem dX9_layPricks_69 : decode μX9_layPricks.2.1 69 = .ok (.iadd, 1) := by decide +kernel
theorem dX9_layPricks_70 : decode μX9_layPricks.2.1 70 = .ok (.ishr, 1) := by decide +kernel
theorem dX9_layPricks_71 : decode μX9_layPricks.2.1 71 = .ok (.iconst 1, 1) := by decide +kernel
theorem dX9_layPricks_72 : decode μX9_layPricks.2.1 72 = .ok (.iand, 1) := by decide +kernel
theorem dX9_layPricks_73 : decode μX9_layPricks.2.1 73 = .ok (.ifCond .ne 6, 3) := by decide +kernel
theorem dX9_layPricks_76 : decode μX9_layPricks.2.1 76 = .ok (.goto 63, 3) := by decide +kernel
theorem dX9_layPricks_79 : decode μX9_layPricks.2.1 79 = .ok (.aload_n 0, 1) := by decide +kernel
theorem dX9_layPricks_80 : decode μX9_layPricks.2.1 80 = .ok (.invokevirtual 424, 3) := by decide +kernel
theorem dX9_layPricks_83 : decode μX9_layPricks.2.1 83 = .ok (.iload 4, 2) := by decide +kernel
theorem dX9_layPricks_85 : decode μX9_layPricks.2.1 85 = .ok (.ifCond .lt 10, 3) := by decide +kernel
theorem dX9_layPricks_88 : decode μX9_layPricks.2.1 88 = .ok (.aload_n 0, 1) := by decide +kernel
theorem dX9_layPricks_89 : decode μX9_layPricks.2.1 89 = .ok (.iload_n 1, 1) := by decide +kernel
theorem dX9_layPricks_90 : decode μX9_layPricks.2.1 90 = .ok (.iload 4, 2) := by decide +kernel
theorem dX9_layPricks_92 : decode μX9_layPricks.2.1 92 = .ok (.invokevirtual 443, 3) := by decide +kernel
theorem dX9_layPricks_95 : decode μX9_layPricks.2.1 95 = .ok (.iload 5, 2) := by decide +kernel
theorem dX9_layPricks_97 : decode μX9_layPricks.2.1 97 = .ok (.ifCond .lt 20, 3) := by decide +kernel
theorem dX9_layPricks_100 : decode μX9_layPricks.2.1 100 = .ok (.aload_n 0, 1) := by decide +kernel
theorem dX9_layPricks_101 : decode μX9_layPricks.2.1 101 = .ok (.iload_n 2, 1) := by decide +kernel
theorem dX9_layPricks_102 : decode μX9_layPricks.2.1 102 = .ok (.iload 5, 2) := by decide +kernel
theorem dX9_layPricks_104 : decode μX9_layPricks.2.1 104 = .ok (.invokevirtual 433, 3) := by decide +kernel
theorem dX9_layPricks_107 : decode μX9_layPricks.2.1 107 = .ok (.ifCond .eq 10, 3) := by decide +kernel
theorem dX9_layPricks_110 : decode μX9_layPricks.2.1 110 = .ok (.aload_n 0, 1) := by decide +kernel
theorem dX9_layPricks_111 : decode μX9_layPricks.2.1 111 = .ok (.iload_n 2, 1) := by decide +kernel
theorem dX9_layPricks_112 : decode μX9_layPricks.2.1 112 = .ok (.iload 5, 2) := by decide +kernel
theorem dX9_layPricks_114 : decode μX9_layPricks.2.1 114 = .ok (.invokevirtual 443, 3) := by decide +kernel
theorem dX9_layPricks_117 : decode μX9_layPricks.2.1 117 = .ok (.aload_n 0, 1) := by decide +kernel
theorem dX9_layPricks_118 : decode μX9_layPricks.2.1 118 = .ok (.getfield 66, 3) := by decide +kernel
theorem dX9_layPricks_121 : decode μX9_layPricks.2.1 121 = .ok (.iload_n 3, 1) := by decide +kernel
theorem dX9_layPricks_122 : decode μX9_layPricks.2.1 122 = .ok (.aload_n 0, 1) := by decide +kernel
theorem dX9_layPricks_123 : decode μX9_layPricks.2.1 123 = .ok (.iload_n 1, 1) := by decide +kernel
theorem dX9_layPricks_124 : decode μX9_layPricks.2.1 124 = .ok (.invokevirtual 265, 3) := by decide +kernel
theorem dX9_layPricks_127 : decode μX9_layPricks.2.1 127 = .ok (.iastore, 1) := by decide +kernel
theorem dX9_layPricks_128 : decode μX9_layPricks.2.1 128 = .ok (.aload_n 0, 1) := by decide +kernel
theorem dX9_layPricks_129 : decode μX9_layPricks.2.1 129 = .ok (.getfield 69, 3) := by decide +kernel
theorem dX9_layPricks_132 : decode μX9_layPricks.2.1 132 = .ok (.iload_n 3, 1) := by decide +kernel
theorem dX9_layPricks_133 : decode μX9_layPricks.2.1 133 = .ok (.aload_n 0, 1) := by decide +kernel
theorem dX9_layPricks_134 : decode μX9_layPricks.2.1 134 = .ok (.iload_n 2, 1) := by decide +kernel
theorem dX9_layPricks_135 : decode μX9_layPricks.2.1 135 = .ok (.invokevirtual 265, 3) := by decide +kernel
theorem dX9_layPricks_138 : decode μX9_layPricks.2.1 138 = .ok (.iastore, 1) := by decide +kernel
theorem dX9_layPricks_139 : decode μX9_layPricks.2.1 139 = .ok (.iinc 3 1, 3) := by decide +kernel
theorem dX9_layPricks_142 : decode μX9_layPricks.2.1 142 = .ok (.goto (-116), 3) := by decide +kernel
theorem dX9_layPricks_145 : decode μX9_layPricks.2.1 145 = .ok (.return_, 1) := by decide +kernel
set_option maxRecDepth 20000 in
theorem sg_X9_layPricks_0 {d : Nat} {x1 : Int32} {x2 : Int32} {M : Mem} {K : (Mem → Prop)}  (h : (CV d μX9_fill [.ref 58] M (fun M1 => (CI d μX9_takes [.ref 58, .int x1, .int x2] M1 (fun r3 M2 => (∀ M4, M4 = wi M2 58 48 r3 → (CI d μX9_takes [.ref 58, .int x2, .int x1] M4 (fun r6 M5 => (∀ M7, M7 = wi M5 58 49 r6 → RV (d + 1) μX9_layPricks 26 [(0, .ref 58), (1, .int x1), (2, .int x2), (3, .int 0)] [] M7 K))))))))) : CV (d + 1) μX9_layPricks [.ref 58, .int x1, .int x2] M K := by
  show Rn (d + 1) μX9_layPricks 0 [(0, .ref 58), (1, .int x1), (2, .int x2)] [] M _
  refine rn_aload_n (i := 0) (x := 58) dX9_layPricks_0 rfl (by simp) ?_
  refine rn_callVv (as := []) (st := []) dX9_layPricks_1 mf_X9_fill lk_X9_424 im_X9_fill rfl rfl rfl rfl (Nat.le_of_ble_eq_true rfl) (Nat.le_of_ble_eq_true rfl) rfl (RV.mono h (fun M1 h => ?_))
  refine rn_aload_n (i := 0) (x := 58) dX9_layPricks_4 rfl (by simp) ?_
  refine rn_aload_n (i := 0) (x := 58) dX9_layPricks_5 rfl (by simp) ?_
  refine rn_iload_n (i := 1) (x := x1) dX9_layPricks_6 rfl (by simp) ?_
  refine rn_iload_n (i := 2) (x := x2) dX9_layPricks_7 rfl (by simp) ?_
  refine rn_callVi (as := [.int x1, .int x2]) (st := [.ref 58]) dX9_layPricks_8 mf_X9_takes lk_X9_480 im_X9_takes rfl rfl rfl rfl (Nat.le_of_ble_eq_true rfl) (Nat.le_of_ble_eq_true rfl) rfl (RI.mono h (fun r3 M2 h => ?_))
  have h := h _ rfl
  refine rn_puti dX9_layPricks_11 rfl pf_X9_483 (by decide) rfl rfl ?_
  generalize wi M2 58 48 r3 = M4 at h ⊢
  refine rn_aload_n (i := 0) (x := 58) dX9_layPricks_14 rfl (by simp) ?_
  refine rn_aload_n (i := 0) (x := 58) dX9_layPricks_15 rfl (by simp) ?_
  refine rn_iload_n (i := 2) (x := x2) dX9_layPricks_16 rfl (by simp) ?_
  refine rn_iload_n (i := 1) (x := x1) dX9_layPricks_17 rfl (by simp) ?_
  refine rn_callVi (as := [.int x2, .int x1]) (st := [.ref 58]) dX9_layPricks_18 mf_X9_takes lk_X9_480 im_X9_takes rfl rfl rfl rfl (Nat.le_of_ble_eq_true rfl) (Nat.le_of_ble_eq_true rfl) rfl (RI.mono h (fun r6 M5 h => ?_))
  have h := h _ rfl
  refine rn_puti dX9_layPricks_21 rfl pf_X9_486 (by decide) rfl rfl ?_
  generalize wi M5 58 49 r6 = M7 at h ⊢
  refine rn_iconst (v := 0) dX9_layPricks_24 rfl ?_
  refine rn_istore_n (lv' := [(0, .ref 58), (1, .int x1), (2, .int x2), (3, .int 0)]) (hd := dX9_layPricks_25) (i := 3) (hi := rfl) (hn := by decide) (hf := rfl) (hl := rfl) ?_
  exact h
set_option maxRecDepth 20000 in
theorem sg_X9_layPricks_26 {d : Nat} {x1 : Int32} {x2 : Int32} {x3 : Int32} {M : Mem} {K : (Mem → Prop)}  (h : (if 81 ≤ x3 then K M else (if ((ri M 58 48) >>> ((((x3 / 9) - 1) + 1) &&& 31)) &&& 1 = 0 then RV (d + 1) μX9_layPricks 26 [(0, .ref 58), (1, .int x1), (2, .int x2), (3, .int (x3 + 1))] [] M K else (if ((ri M 58 49) >>> ((((x3 - x3 / 9 * 9) - 1) + 1) &&& 31)) &&& 1 = 0 then RV (d + 1) μX9_layPricks 26 [(0, .ref 58), (1, .int x1), (2, .int x2), (3, .int (x3 + 1))] [] M K else (CV d μX9_fill [.ref 58] M (fun M1 => (if (x3 / 9) - 1 < 0 then RV (d + 1) μX9_layPricks 95 [(0, .ref 58), (1, .int x1), (2, .int x2), (3, .int x3), (4, .int ((x3 / 9) - 1)), (5, .int ((x3 - x3 / 9 * 9) - 1))] [] M1 K else (CV d μX9_doPop [.ref 58, .int x1, .int ((x3 / 9) - 1)] M1 (fun M2 => RV (d + 1) μX9_layPricks 95 [(0, .ref 58), (1, .int x1), (2, .int x2), (3, .int x3), (4, .int ((x3 / 9) - 1)), (5, .int ((x3 - x3 / 9 * 9) - 1))] [] M2 K))))))))) : RV (d + 1) μX9_layPricks 26 [(0, .ref 58), (1, .int x1), (2, .int x2), (3, .int x3)] [] M K := by
  show Rn (d + 1) μX9_layPricks 26 [(0, .ref 58), (1, .int x1), (2, .int x2), (3, .int x3)] [] M _
  refine rn_iload_n (i := 3) (x := x3) dX9_layPricks_26 rfl (by simp) ?_
  refine rn_bipush (v := 81) dX9_layPricks_27 rfl ?_
  refine rn_icmp_ge (tgt := 145) dX9_layPricks_29 (by decide) (ite_go h (fun hc h => ?_) (fun hc h => ?_))
  · exact rn_ret dX9_layPricks_145 rfl ⟨rfl, h⟩
  · refine rn_iload_n (i := 3) (x := x3) dX9_layPricks_32 rfl (by simp) ?_
    refine rn_bipush (v := 9) dX9_layPricks_33 rfl ?_
    refine rn_idiv dX9_layPricks_35 (by decide) ?_
    refine rn_iconst (v := 1) dX9_layPricks_36 rfl ?_
    refine rn_isub dX9_layPricks_37 ?_
    refine rn_istore (lv' := [(0, .ref 58), (1, .int x1), (2, .int x2), (3, .int x3), (4, .int ((x3 / 9) - 1))]) (hd := dX9_layPricks_38) (hn := by decide) (hf := rfl) (hl := rfl) ?_
    refine rn_iload_n (i := 3) (x := x3) dX9_layPricks_40 rfl (by simp) ?_
    refine rn_bipush (v := 9) dX9_layPricks_41 rfl ?_
    refine rn_irem dX9_layPricks_43 (by decide) ?_
    refine rn_iconst (v := 1) dX9_layPricks_44 rfl ?_
    refine rn_isub dX9_layPricks_45 ?_
    refine rn_istore (lv' := [(0, .ref 58), (1, .int x1), (2, .int x2), (3, .int x3), (4, .int ((x3 / 9) - 1)), (5, .int ((x3 - x3 / 9 * 9) - 1))]) (hd := dX9_layPricks_46) (hn := by decide) (hf := rfl) (hl := rfl) ?_
    refine rn_aload_n (i := 0) (x := 58) dX9_layPricks_48 rfl (by simp) ?_
    refine rn_geti dX9_layPricks_49 rfl gf_X9_483 (by decide) ?_
    refine rn_iload (x := (x3 / 9) - 1) dX9_layPricks_52 (by simp) ?_
    refine rn_iconst (v := 1) dX9_layPricks_54 rfl ?_
    refine rn_iadd dX9_layPricks_55 ?_
    refine rn_ishr dX9_layPricks_56 ?_
    refine rn_iconst (v := 1) dX9_layPricks_57 rfl ?_
    refine rn_iand dX9_layPricks_58 ?_
    refine rn_if_eq (tgt := 139) dX9_layPricks_59 (by decide) (ite_go h (fun hc h => ?_) (fun hc h => ?_))
    · refine rn_iinc (x := x3) (v := x3 + 1) (lv' := [(0, .ref 58), (1, .int x1), (2, .int x2), (3, .int (x3 + 1)), (4, .int ((x3 / 9) - 1)), (5, .int ((x3 - x3 / 9 * 9) - 1))]) dX9_layPricks_139 (by simp) rfl (by decide) rfl rfl ?_
      refine rn_goto (tgt := 26) dX9_layPricks_142 (by decide) ?_
      refine Rn.sub (lv' := [(0, .ref 58), (1, .int x1), (2, .int x2), (3, .int (x3 + 1))]) (by simp) ?_
      exact h
    · refine rn_aload_n (i := 0) (x := 58) dX9_layPricks_62 rfl (by simp) ?_
      refine rn_geti dX9_layPricks_63 rfl gf_X9_486 (by decide) ?_
      refine rn_iload (x := (x3 - x3 / 9 * 9) - 1) dX9_layPricks_66 (by simp) ?_
      refine rn_iconst (v := 1) dX9_layPricks_68 rfl ?_
      refine rn_iadd dX9_layPricks_69 ?_
      refine rn_ishr dX9_layPricks_70 ?_
      refine rn_iconst (v := 1) dX9_layPricks_71 rfl ?_
      refine rn_iand dX9_layPricks_72 ?_
      refine rn_if_ne (tgt := 79) dX9_layPricks_73 (by decide) (ite_go h (fun hc h => ?_) (fun hc h => ?_))
      · refine rn_goto (tgt := 139) dX9_layPricks_76 (by decide) ?_
        refine rn_iinc (x := x3) (v := x3 + 1) (lv' := [(0, .ref 58), (1, .int x1), (2, .int x2), (3, .int (x3 + 1)), (4, .int ((x3 / 9) - 1)), (5, .int ((x3 - x3 / 9 * 9) - 1))]) dX9_layPricks_139 (by simp) rfl (by decide) rfl rfl ?_
        refine rn_goto (tgt := 26) dX9_layPricks_142 (by decide) ?_
        refine Rn.sub (lv' := [(0, .ref 58), (1, .int x1), (2, .int x2), (3, .int (x3 + 1))]) (by simp) ?_
        exact h
      · refine rn_aload_n (i := 0) (x := 58) dX9_layPricks_79 rfl (by simp) ?_
        refine rn_callVv (as := []) (st := []) dX9_layPricks_80 mf_X9_fill lk_X9_424 im_X9_fill rfl rfl rfl rfl (Nat.le_of_ble_eq_true rfl) (Nat.le_of_ble_eq_true rfl) rfl (RV.mono h (fun M1 h => ?_))
        refine rn_iload (x := (x3 / 9) - 1) dX9_layPricks_83 (by simp) ?_
        refine rn_if_lt (tgt := 95) dX9_layPricks_85 (by decide) (ite_go h (fun hc h => ?_) (fun hc h => ?_))
        · exact h
        · refine rn_aload_n (i := 0) (x := 58) dX9_layPricks_88 rfl (by simp) ?_
          refine rn_iload_n (i := 1) (x := x1) dX9_layPricks_89 rfl (by simp) ?_
          refine rn_iload (x := (x3 / 9) - 1) dX9_layPricks_90 (by simp) ?_
          refine rn_callVv (as := [.int x1, .int ((x3 / 9) - 1)]) (st := []) dX9_layPricks_92 mf_X9_doPop lk_X9_443 im_X9_doPop rfl rfl rfl rfl (Nat.le_of_ble_eq_true rfl) (Nat.le_of_ble_eq_true rfl) rfl (RV.mono h (fun M2 h => ?_))
          exact h
set_option maxRecDepth 20000 in
theorem sg_X9_layPricks_95 {d : Nat} {x1 : Int32} {x2 : Int32} {x3 : Int32} {x4 : Int32} {x5 : Int32} {M : Mem} {K : (Mem → Prop)}  (h : (if x5 < 0 then RV (d + 1) μX9_layPricks 117 [(0, .ref 58), (1, .int x1), (2, .int x2), (3, .int x3), (4, .int x4), (5, .int x5)] [] M K else (CI d μX9_canPop [.ref 58, .int x2, .int x5] M (fun r2 M1 => (if r2 = 0 then RV (d + 1) μX9_layPricks 117 [(0, .ref 58), (1, .int x1), (2, .int x2), (3, .int x3), (4, .int x4), (5, .int x5)] [] M1 K else (CV d μX9_doPop [.ref 58, .int x2, .int x5] M1 (fun M3 => RV (d + 1) μX9_layPricks 117 [(0, .ref 58), (1, .int x1), (2, .int x2), (3, .int x3), (4, .int x4), (5, .int x5)] [] M3 K))))))) : RV (d + 1) μX9_layPricks 95 [(0, .ref 58), (1, .int x1), (2, .int x2), (3, .int x3), (4, .int x4), (5, .int x5)] [] M K := by
  show Rn (d + 1) μX9_layPricks 95 [(0, .ref 58), (1, .int x1), (2, .int x2), (3, .int x3), (4, .int x4), (5, .int x5)] [] M _
  refine rn_iload (x := x5) dX9_layPricks_95 (by simp) ?_
  refine rn_if_lt (tgt := 117) dX9_layPricks_97 (by decide) (ite_go h (fun hc h => ?_) (fun hc h => ?_))
  · exact h
  · refine rn_aload_n (i := 0) (x := 58) dX9_layPricks_100 rfl (by simp) ?_
    refine rn_iload_n (i := 2) (x := x2) dX9_layPricks_101 rfl (by simp) ?_
    refine rn_iload (x := x5) dX9_layPricks_102 (by simp) ?_
    refine rn_callVi (as := [.int x2, .int x5]) (st := []) dX9_layPricks_104 mf_X9_canPop lk_X9_433 im_X9_canPop rfl rfl rfl rfl (Nat.le_of_ble_eq_true rfl) (Nat.le_of_ble_eq_true rfl) rfl (RI.mono h (fun r2 M1 h => ?_))
    refine rn_if_eq (tgt := 117) dX9_layPricks_107 (by decide) (ite_go h (fun hc h => ?_) (fun hc h => ?_))
    · exact h
    · refine rn_aload_n (i := 0) (x := 58) dX9_layPricks_110 rfl (by simp) ?_
      refine rn_iload_n (i := 2) (x := x2) dX9_layPricks_111 rfl (by simp) ?_
      refine rn_iload (x := x5) dX9_layPricks_112 (by simp) ?_
      refine rn_callVv (as := [.int x2, .int x5]) (st := []) dX9_layPricks_114 mf_X9_doPop lk_X9_443 im_X9_doPop rfl rfl rfl rfl (Nat.le_of_ble_eq_true rfl) (Nat.le_of_ble_eq_true rfl) rfl (RV.mono h (fun M3 h => ?_))
      exact h
set_option maxRecDepth 20000 in
theorem sg_X9_layPricks_117 {d : Nat} {x1 : Int32} {x2 : Int32} {x3 : Int32} {x4 : Int32} {x5 : Int32} {M : Mem} {K : (Mem → Prop)}  (h : (CI d μX9_sidesOf [.ref 58, .int x1] M (fun r2 M1 => (vp_in x3 81 ∧ ∀ M3, M3 = wi M1 76 (nx x3) r2 → (CI d μX9_sidesOf [.ref 58, .int x2] M3 (fun r5 M4 => (vp_in x3 81 ∧ ∀ M6, M6 = wi M4 77 (nx x3) r5 → RV (d + 1) μX9_layPricks 26 [(0, .ref 58), (1, .int x1), (2, .int x2), (3, .int (x3 + 1))] [] M6 K))))))) : RV (d + 1) μX9_layPricks 117 [(0, .ref 58), (1, .int x1), (2, .int x2), (3, .int x3), (4, .int x4), (5, .int x5)] [] M K := by
  show Rn (d + 1) μX9_layPricks 117 [(0, .ref 58), (1, .int x1), (2, .int x2), (3, .int x3), (4, .int x4), (5, .int x5)] [] M _
  refine rn_aload_n (i := 0) (x := 58) dX9_layPricks_117 rfl (by simp) ?_
  refine rn_getr (t := 76) dX9_layPricks_118 rfl gf_X9_66 rfl rfl ?_
  refine rn_iload_n (i := 3) (x := x3) dX9_layPricks_121 rfl (by simp) ?_
  refine rn_aload_n (i := 0) (x := 58) dX9_layPricks_122 rfl (by simp) ?_
  refine rn_iload_n (i := 1) (x := x1) dX9_layPricks_123 rfl (by simp) ?_
  refine rn_callVi (as := [.int x1]) (st := [.int x3, .ref 76]) dX9_layPricks_124 mf_X9_sidesOf lk_X9_265 im_X9_sidesOf rfl rfl rfl rfl (Nat.le_of_ble_eq_true rfl) (Nat.le_of_ble_eq_true rfl) rfl (RI.mono h (fun r2 M1 h => ?_))
  obtain ⟨hi, h⟩ := h
  have h := h _ rfl
  refine rn_iastore dX9_layPricks_127 rfl hi ?_
  generalize wi M1 76 (nx x3) r2 = M3 at h ⊢
  refine rn_aload_n (i := 0) (x := 58) dX9_layPricks_128 rfl (by simp) ?_
  refine rn_getr (t := 77) dX9_layPricks_129 rfl gf_X9_69 rfl rfl ?_
  refine rn_iload_n (i := 3) (x := x3) dX9_layPricks_132 rfl (by simp) ?_
  refine rn_aload_n (i := 0) (x := 58) dX9_layPricks_133 rfl (by simp) ?_
  refine rn_iload_n (i := 2) (x := x2) dX9_layPricks_134 rfl (by simp) ?_
  refine rn_callVi (as := [.int x2]) (st := [.int x3, .ref 77]) dX9_layPricks_135 mf_X9_sidesOf lk_X9_265 im_X9_sidesOf rfl rfl rfl rfl (Nat.le_of_ble_eq_true rfl) (Nat.le_of_ble_eq_true rfl) rfl (RI.mono h (fun r5 M4 h => ?_))
  obtain ⟨hi, h⟩ := h
  have h := h _ rfl
  refine rn_iastore dX9_layPricks_138 rfl hi ?_
  generalize wi M4 77 (nx x3) r5 = M6 at h ⊢
  refine rn_iinc (x := x3) (v := x3 + 1) (lv' := [(0, .ref 58), (1, .int x1), (2, .int x2), (3, .int (x3 + 1)), (4, .int x4), (5, .int x5)]) dX9_layPricks_139 (by simp) rfl (by decide) rfl rfl ?_
  refine rn_goto (tgt := 26) dX9_layPricks_142 (by decide) ?_
  refine Rn.sub (lv' := [(0, .ref 58), (1, .int x1), (2, .int x2), (3, .int (x3 + 1))]) (by simp) ?_
  exact h
theorem dX9_isRest_0 : decode μX9_isRest.2.1 0 = .ok (.iconst 1, 1) := by decide +kernel
theorem dX9_isRest_1 : decode μX9_isRest.2.1 1 = .ok (.istore_n 3, 1) := by decide +kernel
theorem dX9_isRest_2 : decode μX9_isRest.2.1 2 = .ok (.iconst 0, 1) := by decide +kernel
theorem dX9_isRest_3 : decode μX9_isRest.2.1 3 = .ok (.istore 4, 2) := by decide +kernel
theorem dX9_isRest_5 : decode μX9_isRest.2.1 5 = .ok (.iload 4, 2) := by decide +kernel
theorem dX9_isRest_7 : decode μX9_isRest.2.1 7 = .ok (.bipush 9, 2) := by decide +kernel
theorem dX9_isRest_9 : decode μX9_isRest.2.1 9 = .ok (.if_icmp .ge 107, 3) := by decide +kernel
theorem dX9_isRest_12 : decode μX9_isRest.2.1 12 = .ok (.aload_n 0, 1) := by decide +kernel
theorem dX9_isRest_13 : decode μX9_isRest.2.1 13 = .ok (.getfield 483, 3) := by decide +kernel
theorem dX9_isRest_16 : decode μX9_isRest.2.1 16 = .ok (.iload 4, 2) := by decide +kernel
theorem dX9_isRest_18 : decode μX9_isRest.2.1 18 = .ok (.ishr, 1) := by decide +kernel
theorem dX9_isRest_19 : decode μX9_isRest.2.1 19 = .ok (.iconst 1, 1) := by decide +kernel
theorem dX9_isRest_20 : decode μX9_isRest.2.1 20 = .ok (.iand, 1) := by decide +kernel
theorem dX9_isRest_21 : decode μX9_isRest.2.1 21 = .ok (.iconst 1, 1) := by decide +kernel
theorem dX9_isRest_22 : decode μX9_isRest.2.1 22 = .ok (.if_icmp .ne 39, 3) := by decide +kernel
theorem dX9_isRest_25 : decode μX9_isRest.2.1 25 = .ok (.iload_n 3, 1) := by decide +kernel
theorem dX9_isRest_26 : decode μX9_isRest.2.1 26 = .ok (.ifCond .eq 33, 3) := by decide +kernel
theorem dX9_isRest_29 : decode μX9_isRest.2.1 29 = .ok (.aload_n 0, 1) := by decide +kernel
theorem dX9_isRest_30 : decode μX9_isRest.2.1 30 = .ok (.getfield 66, 3) := by decide +kernel
theorem dX9_isRest_33 : decode μX9_isRest.2.1 33 = .ok (.bipush 9, 2) := by decide +kernel
theorem dX9_isRest_35 : decode μX9_isRest.2.1 35 = .ok (.iload 4, 2) := by decide +kernel
theorem dX9_isRest_37 : decode μX9_isRest.2.1 37 = .ok (.imul, 1) := by decide +kernel
theorem dX9_isRest_38 : decode μX9_isRest.2.1 38 = .ok (.iload_n 2, 1) := by decide +kernel
theorem dX9_isRest_39 : decode μX9_isRest.2.1 39 = .ok (.iadd, 1) := by decide +kernel
theorem dX9_isRest_40 : decode μX9_isRest.2.1 40 = .ok (.iaload, 1) := by decide +kernel
theorem dX9_isRest_41 : decode μX9_isRest.2.1 41 = .ok (.aload_n 0, 1) := by decide +kernel
theorem dX9_isRest_42 : decode μX9_isRest.2.1 42 = .ok (.getfield 66, 3) := by decide +kernel
theorem dX9_isRest_45 : decode μX9_isRest.2.1 45 = .ok (.bipush 9, 2) := by decide +kernel
theorem dX9_isRest_47 : decode μX9_isRest.2.1 47 = .ok (.iload_n 1, 1) := by decide +kernel
theorem dX9_isRest_48 : decode μX9_isRest.2.1 48 = .ok (.imul, 1) := by decide +kernel
theorem dX9_isRest_49 : decode μX9_isRest.2.1 49 = .ok (.iload_n 2, 1) := by decide +kernel
theorem dX9_isRest_50 : decode μX9_isRest.2.1 50 = .ok (.iadd, 1) := by decide +kernel
theorem dX9_isRest_51 : decode μX9_isRest.2.1 51 = .ok (.iaload, 1) := by decide +kernel
theorem dX9_isRest_52 : decode μX9_isRest.2.1 52 = .ok (.if_icmp .gt 7, 3) := by decide +kernel
theorem dX9_isRest_55 : decode μX9_isRest.2.1 55 = .ok (.iconst 1, 1) := by decide +kernel
theorem dX9_isRest_56 : decode μX9_isRest.2.1 56 = .ok (.goto 4, 3) := by decide +kernel
theorem dX9_isRest_59 : decode μX9_isRest.2.1 59 = .ok (.iconst 0, 1) := by decide +kernel
theorem dX9_isRest_60 : decode μX9_isRest.2.1 60 = .ok (.istore_n 3, 1) := by decide +kernel
theorem dX9_isRest_61 : decode μX9_isRest.2.1 61 = .ok (.aload_n 0, 1) := by decide +kernel
theorem dX9_isRest_62 : decode μX9_isRest.2.1 62 = .ok (.getfield 486, 3) := by decide +kernel
theorem dX9_isRest_65 : decode μX9_isRest.2.1 65 = .ok (.iload 4, 2) := by decide +kernel
theorem dX9_isRest_67 : decode μX9_isRest.2.1 67 = .ok (.ishr, 1) := by decide +kernel
theorem dX9_isRest_68 : decode μX9_isRest.2.1 68 = .ok (.iconst 1, 1) := by decide +kernel
theorem dX9_isRest_69 : decode μX9_isRest.2.1 69 = .ok (.iand, 1) := by decide +kernel
theorem dX9_isRest_70 : decode μX9_isRest.2.1 70 = .ok (.iconst 1, 1) := by decide +kernel
theorem dX9_isRest_71 : decode μX9_isRest.2.1 71 = .ok (.if_icmp .ne 39, 3) := by decide +kernel
theorem dX9_isRest_74 : decode μX9_isRest.2.1 74 = .ok (.iload_n 3, 1) := by decide +kernel
theorem dX9_isRest_75 : decode μX9_isRest.2.1 75 = .ok (.ifCond .eq 33, 3) := by decide +kernel
theorem dX9_isRest_78 : decode μX9_isRest.2.1 78 = .ok (.aload_n 0, 1) := by decide +kernel
theorem dX9_isRest_79 : decode μX9_isRest.2.1 79 = .ok (.getfield 69, 3) := by decide +kernel
theorem dX9_isRest_82 : decode μX9_isRest.2.1 82 = .ok (.bipush 9, 2) := by decide +kernel
theorem dX9_isRest_84 : decode μX9_isRest.2.1 84 = .ok (.iload_n 1, 1) := by decide +kernel
theorem dX9_isRest_85 : decode μX9_isRest.2.1 85 = .ok (.imul, 1) := by decide +kernel
theorem dX9_isRest_86 : decode μX9_isRest.2.1 86 = .ok (.iload 4, 2) := by decide +kernel
theorem dX9_isRest_88 : decode μX9_isRest.2.1 88 = .ok (.iadd, 1) := by decide +kernel
theorem dX9_isRest_89 : decode μX9_isRest.2.1 89 = .ok (.iaload, 1) := by decide +kernel
theorem dX9_isRest_90 : decode μX9_isRest.2.1 90 = .ok (.aload_n 0, 1) := by decide +kernel
theorem dX9_isRest_91 : decode μX9_isRest.2.1 91 = .ok (.getfield 69, 3) := by decide +kernel
theorem dX9_isRest_94 : decode μX9_isRest.2.1 94 = .ok (.bipush 9, 2) := by decide +kernel
theorem dX9_isRest_96 : decode μX9_isRest.2.1 96 = .ok (.iload_n 1, 1) := by decide +kernel
theorem dX9_isRest_97 : decode μX9_isRest.2.1 97 = .ok (.imul, 1) := by decide +kernel
theorem dX9_isRest_98 : decode μX9_isRest.2.1 98 = .ok (.iload_n 2, 1) := by decide +kernel
theorem dX9_isRest_99 : decode μX9_isRest.2.1 99 = .ok (.iadd, 1) := by decide +kernel
theorem dX9_isRest_100 : decode μX9_isRest.2.1 100 = .ok (.iaload, 1) := by decide +kernel
theorem dX9_isRest_101 : decode μX9_isRest.2.1 101 = .ok (.if_icmp .gt 7, 3) := by decide +kernel
theorem dX9_isRest_104 : decode μX9_isRest.2.1 104 = .ok (.iconst 1, 1) := by decide +kernel
theorem dX9_isRest_105 : decode μX9_isRest.2.1 105 = .ok (.goto 4, 3) := by decide +kernel
theorem dX9_isRest_108 : decode μX9_isRest.2.1 108 = .ok (.iconst 0, 1) := by decide +kernel
theorem dX9_isRest_109 : decode μX9_isRest.2.1 109 = .ok (.istore_n 3, 1) := by decide +kernel
theorem dX9_isRest_110 : decode μX9_isRest.2.1 110 = .ok (.iinc 4 1, 3) := by decide +kernel
theorem dX9_isRest_113 : decode μX9_isRest.2.1 113 = .ok (.goto (-108), 3) := by decide +kernel
theorem dX9_isRest_116 : decode μX9_isRest.2.1 116 = .ok (.iload_n 3, 1) := by decide +kernel
theorem dX9_isRest_117 : decode μX9_isRest.2.1 117 = .ok (.ireturn, 1) := by decide +kernel
set_option maxRecDepth 20000 in
theorem sg_X9_isRest_0 {d : Nat} {x1 : Int32} {x2 : Int32} {M : Mem} {K : (Int32 → Mem → Prop)}  (h : RI d μX9_isRest 5 [(0, .ref 58), (1, .int x1), (2, .int x2), (3, .int 1), (4, .int 0)] [] M K) : CI d μX9_isRest [.ref 58, .int x1, .int x2] M K := by
  show Rn d μX9_isRest 0 [(0, .ref 58), (1, .int x1), (2, .int x2)] [] M _
  refine rn_iconst (v := 1) dX9_isRest_0 rfl ?_
  refine rn_istore_n (lv' := [(0, .ref 58), (1, .int x1), (2, .int x2), (3, .int 1)]) (hd := dX9_isRest_1) (i := 3) (hi := rfl) (hn := by decide) (hf := rfl) (hl := rfl) ?_
  refine rn_iconst (v := 0) dX9_isRest_2 rfl ?_
  refine rn_istore (lv' := [(0, .ref 58), (1, .int x1), (2, .int x2), (3, .int 1), (4, .int 0)]) (hd := dX9_isRest_3) (hn := by decide) (hf := rfl) (hl := rfl) ?_
  exact h
set_option maxRecDepth 20000 in
theorem sg_X9_isRest_5 {d : Nat} {x1 : Int32} {x2 : Int32} {x3 : Int32} {x4 : Int32} {M : Mem} {K : (Int32 → Mem → Prop)}  (h : (if 9 ≤ x4 then ((x3 = 0 ∨ x3 = 1) ∧ K x3 M) else (if ((ri M 58 48) >>> (x4 &&& 31)) &&& 1 = 1 then (if x3 = 0 then RI d μX9_isRest 61 [(0, .ref 58), (1, .int x1), (2, .int x2), (3, .int 0), (4, .int x4)] [] M K else (vp_in ((9 * x4) + x2) 81 ∧ (vp_in ((9 * x1) + x2) 81 ∧ (if ri M 76 (nx ((9 * x1) + x2)) < ri M 76 (nx ((9 * x4) + x2)) then RI d μX9_isRest 61 [(0, .ref 58), (1, .int x1), (2, .int x2), (3, .int 0), (4, .int x4)] [] M K else RI d μX9_isRest 61 [(0, .ref 58), (1, .int x1), (2, .int x2), (3, .int 1), (4, .int x4)] [] M K)))) else RI d μX9_isRest 61 [(0, .ref 58), (1, .int x1), (2, .int x2), (3, .int x3), (4, .int x4)] [] M K))) : RI d μX9_isRest 5 [(0, .ref 58), (1, .int x1), (2, .int x2), (3, .int x3), (4, .int x4)] [] M K := by
  show Rn d μX9_isRest 5 [(0, .ref 58), (1, .int x1), (2, .int x2), (3, .int x3), (4, .int x4)] [] M _
  refine rn_iload (x := x4) dX9_isRest_5 (by simp) ?_
  refine rn_bipush (v := 9) dX9_isRest_7 rfl ?_
  refine rn_icmp_ge (tgt := 116) dX9_isRest_9 (by decide) (ite_go h (fun hc h => ?_) (fun hc h => ?_))
  · refine rn_iload_n (i := 3) (x := x3) dX9_isRest_116 rfl (by simp) ?_
    exact rn_zret dX9_isRest_117 rfl h.1 ⟨_, rfl, h.2⟩
  · refine rn_aload_n (i := 0) (x := 58) dX9_isRest_12 rfl (by simp) ?_
    refine rn_geti dX9_isRest_13 rfl gf_X9_483 (by decide) ?_
    refine rn_iload (x := x4) dX9_isRest_16 (by simp) ?_
    refine rn_ishr dX9_isRest_18 ?_
    refine rn_iconst (v := 1) dX9_isRest_19 rfl ?_
    refine rn_iand dX9_isRest_20 ?_
    refine rn_iconst (v := 1) dX9_isRest_21 rfl ?_
    refine rn_icmp_ne (tgt := 61) dX9_isRest_22 (by decide) (ite_go h (fun hc h => ?_) (fun hc h => ?_))
    · refine rn_iload_n (i := 3) (x := x3) dX9_isRest_25 rfl (by simp) ?_
      refine rn_if_eq (tgt := 59) dX9_isRest_26 (by decide) (ite_go h (fun hc h => ?_) (fun hc h => ?_))
      · refine rn_iconst (v := 0) dX9_isRest_59 rfl ?_
        refine rn_istore_n (lv' := [(0, .ref 58), (1, .int x1), (2, .int x2), (3, .int 0), (4, .int x4)]) (hd := dX9_isRest_60) (i := 3) (hi := rfl) (hn := by decide) (hf := rfl) (hl := rfl) ?_
        exact h
      · refine rn_aload_n (i := 0) (x := 58) dX9_isRest_29 rfl (by simp) ?_
        refine rn_getr (t := 76) dX9_isRest_30 rfl gf_X9_66 rfl rfl ?_
        refine rn_bipush (v := 9) dX9_isRest_33 rfl ?_
        refine rn_iload (x := x4) dX9_isRest_35 (by simp) ?_
        refine rn_imul dX9_isRest_37 ?_
        refine rn_iload_n (i := 2) (x := x2) dX9_isRest_38 rfl (by simp) ?_
        refine rn_iadd dX9_isRest_39 ?_
        obtain ⟨hi, h⟩ := h
        refine rn_iaload dX9_isRest_40 rfl hi ?_
        refine rn_aload_n (i := 0) (x := 58) dX9_isRest_41 rfl (by simp) ?_
        refine rn_getr (t := 76) dX9_isRest_42 rfl gf_X9_66 rfl rfl ?_
        refine rn_bipush (v := 9) dX9_isRest_45 rfl ?_
        refine rn_iload_n (i := 1) (x := x1) dX9_isRest_47 rfl (by simp) ?_
        refine rn_imul dX9_isRest_48 ?_
        refine rn_iload_n (i := 2) (x := x2) dX9_isRest_49 rfl (by simp) ?_
        refine rn_iadd dX9_isRest_50 ?_
        obtain ⟨hi, h⟩ := h
        refine rn_iaload dX9_isRest_51 rfl hi ?_
        refine rn_icmp_gt (tgt := 59) dX9_isRest_52 (by decide) (ite_go h (fun hc h => ?_) (fun hc h => ?_))
        · refine rn_iconst (v := 0) dX9_isRest_59 rfl ?_
          refine rn_istore_n (lv' := [(0, .ref 58), (1, .int x1), (2, .int x2), (3, .int 0), (4, .int x4)]) (hd := dX9_isRest_60) (i := 3) (hi := rfl) (hn := by decide) (hf := rfl) (hl := rfl) ?_
          exact h
        · refine rn_iconst (v := 1) dX9_isRest_55 rfl ?_
          refine rn_goto (tgt := 60) dX9_isRest_56 (by decide) ?_
          refine rn_istore_n (lv' := [(0, .ref 58), (1, .int x1), (2, .int x2), (3, .int 1), (4, .int x4)]) (hd := dX9_isRest_60) (i := 3) (hi := rfl) (hn := by decide) (hf := rfl) (hl := rfl) ?_
          exact h
    · exact h
set_option maxRecDepth 20000 in
theorem sg_X9_isRest_61 {d : Nat} {x1 : Int32} {x2 : Int32} {x3 : Int32} {x4 : Int32} {M : Mem} {K : (Int32 → Mem → Prop)}  (h : (if ((ri M 58 49) >>> (x4 &&& 31)) &&& 1 = 1 then (if x3 = 0 then RI d μX9_isRest 5 [(0, .ref 58), (1, .int x1), (2, .int x2), (3, .int 0), (4, .int (x4 + 1))] [] M K else (vp_in ((9 * x1) + x4) 81 ∧ (vp_in ((9 * x1) + x2) 81 ∧ (if ri M 77 (nx ((9 * x1) + x2)) < ri M 77 (nx ((9 * x1) + x4)) then RI d μX9_isRest 5 [(0, .ref 58), (1, .int x1), (2, .int x2), (3, .int 0), (4, .int (x4 + 1))] [] M K else RI d μX9_isRest 5 [(0, .ref 58), (1, .int x1), (2, .int x2), (3, .int 1), (4, .int (x4 + 1))] [] M K)))) else RI d μX9_isRest 5 [(0, .ref 58), (1, .int x1), (2, .int x2), (3, .int x3), (4, .int (x4 + 1))] [] M K)) : RI d μX9_isRest 61 [(0, .ref 58), (1, .int x1), (2, .int x2), (3, .int x3), (4, .int x4)] [] M K := by
  show Rn d μX9_isRest 61 [(0, .ref 58), (1, .int x1), (2, .int x2), (3, .int x3), (4, .int x4)] [] M _
  refine rn_aload_n (i := 0) (x := 58) dX9_isRest_61 rfl (by simp) ?_
  refine rn_geti dX9_isRest_62 rfl gf_X9_486 (by decide) ?_
  refine rn_iload (x := x4) dX9_isRest_65 (by simp) ?_
  refine rn_ishr dX9_isRest_67 ?_
  refine rn_iconst (v := 1) dX9_isRest_68 rfl ?_
  refine rn_iand dX9_isRest_69 ?_
  refine rn_iconst (v := 1) dX9_isRest_70 rfl ?_
  refine rn_icmp_ne (tgt := 110) dX9_isRest_71 (by decide) (ite_go h (fun hc h => ?_) (fun hc h => ?_))
  · refine rn_iload_n (i := 3) (x := x3) dX9_isRest_74 rfl (by simp) ?_
    refine rn_if_eq (tgt := 108) dX9_isRest_75 (by decide) (ite_go h (fun hc h => ?_) (fun hc h => ?_))
    · refine rn_iconst (v := 0) dX9_isRest_108 rfl ?_
      refine rn_istore_n (lv' := [(0, .ref 58), (1, .int x1), (2, .int x2), (3, .int 0), (4, .int x4)]) (hd := dX9_isRest_109) (i := 3) (hi := rfl) (hn := by decide) (hf := rfl) (hl := rfl) ?_
      refine rn_iinc (x := x4) (v := x4 + 1) (lv' := [(0, .ref 58), (1, .int x1), (2, .int x2), (3, .int 0), (4, .int (x4 + 1))]) dX9_isRest_110 (by simp) rfl (by decide) rfl rfl ?_
      refine rn_goto (tgt := 5) dX9_isRest_113 (by decide) ?_
      exact h
    · refine rn_aload_n (i := 0) (x := 58) dX9_isRest_78 rfl (by simp) ?_
      refine rn_getr (t := 77) dX9_isRest_79 rfl gf_X9_69 rfl rfl ?_
      refine rn_bipush (v := 9) dX9_isRest_82 rfl ?_
      refine rn_iload_n (i := 1) (x := x1) dX9_isRest_84 rfl (by simp) ?_
      refine rn_imul dX9_isRest_85 ?_
      refine rn_iload (x := x4) dX9_isRest_86 (by simp) ?_
      refine rn_iadd dX9_isRest_88 ?_
      obtain ⟨hi, h⟩ := h
      refine rn_iaload dX9_isRest_89 rfl hi ?_
      refine rn_aload_n (i := 0) (x := 58) dX9_isRest_90 rfl (by simp) ?_
      refine rn_getr (t := 77) dX9_isRest_91 rfl gf_X9_69 rfl rfl ?_
      refine rn_bipush (v := 9) dX9_isRest_94 rfl ?_
      refine rn_iload_n (i := 1) (x := x1) dX9_isRest_96 rfl (by simp) ?_
      refine rn_imul dX9_isRest_97 ?_
      refine rn_iload_n (i := 2) (x := x2) dX9_isRest_98 rfl (by simp) ?_
      refine rn_iadd dX9_isRest_99 ?_
      obtain ⟨hi, h⟩ := h
      refine rn_iaload dX9_isRest_100 rfl hi ?_
      refine rn_icmp_gt (tgt := 108) dX9_isRest_101 (by decide) (ite_go h (fun hc h => ?_) (fun hc h => ?_))
      · refine rn_iconst (v := 0) dX9_isRest_108 rfl ?_
        refine rn_istore_n (lv' := [(0, .ref 58), (1, .int x1), (2, .int x2), (3, .int 0), (4, .int x4)]) (hd := dX9_isRest_109) (i := 3) (hi := rfl) (hn := by decide) (hf := rfl) (hl := rfl) ?_
        refine rn_iinc (x := x4) (v := x4 + 1) (lv' := [(0, .ref 58), (1, .int x1), (2, .int x2), (3, .int 0), (4, .int (x4 + 1))]) dX9_isRest_110 (by simp) rfl (by decide) rfl rfl ?_
        refine rn_goto (tgt := 5) dX9_isRest_113 (by decide) ?_
        exact h
      · refine rn_iconst (v := 1) dX9_isRest_104 rfl ?_
        refine rn_goto (tgt := 109) dX9_isRest_105 (by decide) ?_
        refine rn_istore_n (lv' := [(0, .ref 58), (1, .int x1), (2, .int x2), (3, .int 1), (4, .int x4)]) (hd := dX9_isRest_109) (i := 3) (hi := rfl) (hn := by decide) (hf := rfl) (hl := rfl) ?_
        refine rn_iinc (x := x4) (v := x4 + 1) (lv' := [(0, .ref 58), (1, .int x1), (2, .int x2), (3, .int 1), (4, .int (x4 + 1))]) dX9_isRest_110 (by simp) rfl (by decide) rfl rfl ?_
        refine rn_goto (tgt := 5) dX9_isRest_113 (by decide) ?_
        exact h
  · refine rn_iinc (x := x4) (v := x4 + 1) (lv' := [(0, .ref 58), (1, .int x1), (2, .int x2), (3, .int x3), (4, .int (x4 + 1))]) dX9_isRest_110 (by simp) rfl (by decide) rfl rfl ?_
    refine rn_goto (tgt := 5) dX9_isRest_113 (by decide) ?_
    exact h
theorem dX9_pricks_0 : decode μX9_pricks.2.1 0 = .ok (.aload_n 0, 1) := by decide +kernel
theorem dX9_pricks_1 : decode μX9_pricks.2.1 1 = .ok (.iconst 0, 1) := by decide +kernel
theorem dX9_pricks_2 : decode μX9_pricks.2.1 2 = .ok (.putfield 417, 3) := by decide +kernel
theorem dX9_pricks_5 : decode μX9_pricks.2.1 5 = .ok (.iload_n 1, 1) := by decide +kernel
theorem dX9_pricks_6 : decode μX9_pricks.2.1 6 = .ok (.iload_n 2, 1) := by decide +kernel
theorem dX9_pricks_7 : decode μX9_pricks.2.1 7 = .ok (.if_icmp .eq 19, 3) := by decide +kernel
theorem dX9_pricks_10 : decode μX9_pricks.2.1 10 = .ok (.aload_n 0, 1) := by decide +kernel
theorem dX9_pricks_11 : decode μX9_pricks.2.1 11 = .ok (.iload_n 1, 1) := by decide +kernel
theorem dX9_pricks_12 : decode μX9_pricks.2.1 12 = .ok (.invokevirtual 430, 3) := by decide +kernel
theorem dX9_pricks_15 : decode μX9_pricks.2.1 15 = .ok (.ifCond .eq 11, 3) := by decide +kernel
theorem dX9_pricks_18 : decode μX9_pricks.2.1 18 = .ok (.aload_n 0, 1) := by decide +kernel
theorem dX9_pricks_19 : decode μX9_pricks.2.1 19 = .ok (.iload_n 2, 1) := by decide +kernel
theorem dX9_pricks_20 : decode μX9_pricks.2.1 20 = .ok (.invokevirtual 430, 3) := by decide +kernel
theorem dX9_pricks_23 : decode μX9_pricks.2.1 23 = .ok (.ifCond .ne 5, 3) := by decide +kernel
theorem dX9_pricks_26 : decode μX9_pricks.2.1 26 = .ok (.iconst (-1), 1) := by decide +kernel
theorem dX9_pricks_27 : decode μX9_pricks.2.1 27 = .ok (.ireturn, 1) := by decide +kernel
theorem dX9_pricks_28 : decode μX9_pricks.2.1 28 = .ok (.aload_n 0, 1) := by decide +kernel
theorem dX9_pricks_29 : decode μX9_pricks.2.1 29 = .ok (.iload_n 1, 1) := by decide +kernel
theorem dX9_pricks_30 : decode μX9_pricks.2.1 30 = .ok (.iload_n 2, 1) := by decide +kernel
theorem dX9_pricks_31 : decode μX9_pricks.2.1 31 = .ok (.invokevirtual 489, 3) := by decide +kernel
theorem dX9_pricks_34 : decode μX9_pricks.2.1 34 = .ok (.iconst 0, 1) := by decide +kernel
theorem dX9_pricks_35 : decode μX9_pricks.2.1 35 = .ok (.istore_n 3, 1) := by decide +kernel
theorem dX9_pricks_36 : decode μX9_pricks.2.1 36 = .ok (.iconst 0, 1) := by decide +kernel
theorem dX9_pricks_37 : decode μX9_pricks.2.1 37 = .ok (.istore 4, 2) := by decide +kernel
theorem dX9_pricks_39 : decode μX9_pricks.2.1 39 = .ok (.iload 4, 2) := by decide +kernel
theorem dX9_pricks_41 : decode μX9_pricks.2.1 41 = .ok (.bipush 81, 2) := by decide +kernel
theorem dX9_pricks_43 : decode μX9_pricks.2.1 43 = .ok (.if_icmp .ge 97, 3) := by decide +kernel
theorem dX9_pricks_46 : decode μX9_pricks.2.1 46 = .ok (.aload_n 0, 1) := by decide +kernel
theorem dX9_pricks_47 : decode μX9_pricks.2.1 47 = .ok (.getfield 483, 3) := by decide +kernel
theorem dX9_pricks_50 : decode μX9_pricks.2.1 50 = .ok (.iload 4, 2) := by decide +kernel
theorem dX9_pricks_52 : decode μX9_pricks.2.1 52 = .ok (.bipush 9, 2) := by decide +kernel
theorem dX9_pricks_54 : decode μX9_pricks.2.1 54 = .ok (.idiv, 1) := by decide +kernel
theorem dX9_pricks_55 : decode μX9_pricks.2.1 55 = .ok (.ishr, 1) := by decide +kernel
theorem dX9_pricks_56 : decode μX9_pricks.2.1 56 = .ok (.iconst 1, 1) := by decide +kernel
theorem dX9_pricks_57 : decode μX9_pricks.2.1 57 = .ok (.iand, 1) := by decide +kernel
theorem dX9_pricks_58 : decode μX9_pricks.2.1 58 = .ok (.ifCond .eq 76, 3) := by decide +kernel
theorem dX9_pricks_61 : decode μX9_pricks.2.1 61 = .ok (.aload_n 0, 1) := by decide +kernel
theorem dX9_pricks_62 : decode μX9_pricks.2.1 62 = .ok (.getfield 486, 3) := by decide +kernel
theorem dX9_pricks_65 : decode μX9_pricks.2.1 65 = .ok (.iload 4, 2) := by decide +kernel
theorem dX9_pricks_67 : decode μX9_pricks.2.1 67 = .ok (.bipush 9, 2) := by decide +kernel
theorem dX9_pricks_69 : decode μX9_pricks.2.1 69 = .ok (.irem, 1) := by decide +kernel
theorem dX9_pricks_70 : decode μX9_pricks.2.1 70 = .ok (.ishr, 1) := by decide +kernel
theorem dX9_pricks_71 : decode μX9_pricks.2.1 71 = .ok (.iconst 1, 1) := by decide +kernel
theorem dX9_pricks_72 : decode μX9_pricks.2.1 72 = .ok (.iand, 1) := by decide +kernel
theorem dX9_pricks_73 : decode μX9_pricks.2.1 73 = .ok (.ifCond .eq 61, 3) := by decide +kernel
theorem dX9_pricks_76 : decode μX9_pricks.2.1 76 = .ok (.aload_n 0, 1) := by decide +kernel
theorem dX9_pricks_77 : decode μX9_pricks.2.1 77 = .ok (.iload 4, 2) := by decide +kernel
theorem dX9_pricks_79 : decode μX9_pricks.2.1 79 = .ok (.bipush 9, 2) := by decide +kernel
theorem dX9_pricks_81 : decode μX9_pricks.2.1 81 = .ok (.idiv, 1) := by decide +kernel
theorem dX9_pricks_82 : decode μX9_pricks.2.1 82 = .ok (.iload 4, 2) := by decide +kernel
theorem dX9_pricks_84 : decode μX9_pricks.2.1 84 = .ok (.bipush 9, 2) := by decide +kernel
theorem dX9_pricks_86 : decode μX9_pricks.2.1 86 = .ok (.irem, 1) := by decide +kernel
theorem dX9_pricks_87 : decode μX9_pricks.2.1 87 = .ok (.invokevirtual 492, 3) := by decide +kernel
theorem dX9_pricks_90 : decode μX9_pricks.2.1 90 = .ok (.ifCond .ne 6, 3) := by decide +kernel
theorem dX9_pricks_93 : decode μX9_pricks.2.1 93 = .ok (.goto 41, 3) := by decide +kernel
theorem dX9_pricks_96 : decode μX9_pricks.2.1 96 = .ok (.iload_n 3, 1) := by decide +kernel
theorem dX9_pricks_97 : decode μX9_pricks.2.1 97 = .ok (.ifCond .ne 34, 3) := by decide +kernel
theorem dX9_pricks_100 : decode μX9_pricks.2.1 100 = .ok (.aload_n 0, 1) := by decide +kernel
theorem dX9_pricks_101 : decode μX9_pricks.2.1 101 = .ok (.getfield 57, 3) := by decide +kernel
theorem dX9_pricks_104 : decode μX9_pricks.2.1 104 = .ok (.iconst 0, 1) := by decide +kernel
theorem dX9_pricks_105 : decode μX9_pricks.2.1 105 = .ok (.iload 4, 2) := by decide +kernel
theorem dX9_pricks_107 : decode μX9_pricks.2.1 107 = .ok (.bipush 9, 2) := by decide +kernel
theorem dX9_pricks_109 : decode μX9_pricks.2.1 109 = .ok (.idiv, 1) := by decide +kernel
theorem dX9_pricks_110 : decode μX9_pricks.2.1 110 = .ok (.iconst 1, 1) := by decide +kernel
theorem dX9_pricks_111 : decode μX9_pricks.2.1 111 = .ok (.isub, 1) := by decide +kernel
theorem dX9_pricks_112 : decode μX9_pricks.2.1 112 = .ok (.iastore, 1) := by decide +kernel
theorem dX9_pricks_113 : decode μX9_pricks.2.1 113 = .ok (.aload_n 0, 1) := by decide +kernel
theorem dX9_pricks_114 : decode μX9_pricks.2.1 114 = .ok (.getfield 57, 3) := by decide +kernel
theorem dX9_pricks_117 : decode μX9_pricks.2.1 117 = .ok (.iconst 1, 1) := by decide +kernel
theorem dX9_pricks_118 : decode μX9_pricks.2.1 118 = .ok (.iload 4, 2) := by decide +kernel
theorem dX9_pricks_120 : decode μX9_pricks.2.1 120 = .ok (.bipush 9, 2) := by decide +kernel
theorem dX9_pricks_122 : decode μX9_pricks.2.1 122 = .ok (.irem, 1) := by decide +kernel
theorem dX9_pricks_123 : decode μX9_pricks.2.1 123 = .ok (.iconst 1, 1) := by decide +kernel
theorem dX9_pricks_124 : decode μX9_pricks.2.1 124 = .ok (.isub, 1) := by decide +kernel
theorem dX9_pricks_125 : decode μX9_pricks.2.1 125 = .ok (.iastore, 1) := by decide +kernel
theorem dX9_pricks_126 : decode μX9_pricks.2.1 126 = .ok (.aload_n 0, 1) := by decide +kernel
theorem dX9_pricks_127 : decode μX9_pricks.2.1 127 = .ok (.iconst 2, 1) := by decide +kernel
theorem dX9_pricks_128 : decode μX9_pricks.2.1 128 = .ok (.putfield 417, 3) := by decide +kernel
theorem dX9_pricks_131 : decode μX9_pricks.2.1 131 = .ok (.iinc 3 1, 3) := by decide +kernel
theorem dX9_pricks_134 : decode μX9_pricks.2.1 134 = .ok (.iinc 4 1, 3) := by decide +kernel
theorem dX9_pricks_137 : decode μX9_pricks.2.1 137 = .ok (.goto (-98), 3) := by decide +kernel
theorem dX9_pricks_140 : decode μX9_pricks.2.1 140 = .ok (.iload_n 3, 1) := by decide +kernel
theorem dX9_pricks_141 : decode μX9_pricks.2.1 141 = .ok (.ireturn, 1) := by decide +kernel
set_option maxRecDepth 20000 in
theorem sg_X9_pricks_0 {d : Nat} {x1 : Int32} {x2 : Int32} {M : Mem} {K : (Int32 → Mem → Prop)}  (h : (∀ M1, M1 = wi M 58 45 0 → (if x1 = x2 then K ((-1)) M1 else (CI d μX9_isThereNow [.ref 58, .int x1] M1 (fun r3 M2 => (if r3 = 0 then K ((-1)) M2 else (CI d μX9_isThereNow [.ref 58, .int x2] M2 (fun r5 M4 => (if r5 = 0 then K ((-1)) M4 else (CV d μX9_layPricks [.ref 58, .int x1, .int x2] M4 (fun M6 => RI (d + 1) μX9_pricks 39 [(0, .ref 58), (1, .int x1), (2, .int x2), (3, .int 0), (4, .int 0)] [] M6 K))))))))))) : CI (d + 1) μX9_pricks [.ref 58, .int x1, .int x2] M K := by
  show Rn (d + 1) μX9_pricks 0 [(0, .ref 58), (1, .int x1), (2, .int x2)] [] M _
  refine rn_aload_n (i := 0) (x := 58) dX9_pricks_0 rfl (by simp) ?_
  refine rn_iconst (v := 0) dX9_pricks_1 rfl ?_
  have h := h _ rfl
  refine rn_puti dX9_pricks_2 rfl pf_X9_417 (by decide) rfl rfl ?_
  generalize wi M 58 45 0 = M1 at h ⊢
  refine rn_iload_n (i := 1) (x := x1) dX9_pricks_5 rfl (by simp) ?_
  refine rn_iload_n (i := 2) (x := x2) dX9_pricks_6 rfl (by simp) ?_
  refine rn_icmp_eq (tgt := 26) dX9_pricks_7 (by decide) (ite_go h (fun hc h => ?_) (fun hc h => ?_))
  · refine rn_iconst (v := -1) dX9_pricks_26 rfl ?_
    exact rn_iret dX9_pricks_27 rfl ⟨_, rfl, h⟩
  · refine rn_aload_n (i := 0) (x := 58) dX9_pricks_10 rfl (by simp) ?_
    refine rn_iload_n (i := 1) (x := x1) dX9_pricks_11 rfl (by simp) ?_
    refine rn_callVi (as := [.int x1]) (st := []) dX9_pricks_12 mf_X9_isThereNow lk_X9_430 im_X9_isThereNow rfl rfl rfl rfl (Nat.le_of_ble_eq_true rfl) (Nat.le_of_ble_eq_true rfl) rfl (RI.mono h (fun r3 M2 h => ?_))
    refine rn_if_eq (tgt := 26) dX9_pricks_15 (by decide) (ite_go h (fun hc h => ?_) (fun hc h => ?_))
    · refine rn_iconst (v := -1) dX9_pricks_26 rfl ?_
      exact rn_iret dX9_pricks_27 rfl ⟨_, rfl, h⟩
    · refine rn_aload_n (i := 0) (x := 58) dX9_pricks_18 rfl (by simp) ?_
      refine rn_iload_n (i := 2) (x := x2) dX9_pricks_19 rfl (by simp) ?_
      refine rn_callVi (as := [.int x2]) (st := []) dX9_pricks_20 mf_X9_isThereNow lk_X9_430 im_X9_isThereNow rfl rfl rfl rfl (Nat.le_of_ble_eq_true rfl) (Nat.le_of_ble_eq_true rfl) rfl (RI.mono h (fun r5 M4 h => ?_))
      refine rn_if_ne (tgt := 28) dX9_pricks_23 (by decide) (ite_go h (fun hc h => ?_) (fun hc h => ?_))
      · refine rn_iconst (v := -1) dX9_pricks_26 rfl ?_
        exact rn_iret dX9_pricks_27 rfl ⟨_, rfl, h⟩
      · refine rn_aload_n (i := 0) (x := 58) dX9_pricks_28 rfl (by simp) ?_
        refine rn_iload_n (i := 1) (x := x1) dX9_pricks_29 rfl (by simp) ?_
        refine rn_iload_n (i := 2) (x := x2) dX9_pricks_30 rfl (by simp) ?_
        refine rn_callVv (as := [.int x1, .int x2]) (st := []) dX9_pricks_31 mf_X9_layPricks lk_X9_489 im_X9_layPricks rfl rfl rfl rfl (Nat.le_of_ble_eq_true rfl) (Nat.le_of_ble_eq_true rfl) rfl (RV.mono h (fun M6 h => ?_))
        refine rn_iconst (v := 0) dX9_pricks_34 rfl ?_
        refine rn_istore_n (lv' := [(0, .ref 58), (1, .int x1), (2, .int x2), (3, .int 0)]) (hd := dX9_pricks_35) (i := 3) (hi := rfl) (hn := by decide) (hf := rfl) (hl := rfl) ?_
        refine rn_iconst (v := 0) dX9_pricks_36 rfl ?_
        refine rn_istore (lv' := [(0, .ref 58), (1, .int x1), (2, .int x2), (3, .int 0), (4, .int 0)]) (hd := dX9_pricks_37) (hn := by decide) (hf := rfl) (hl := rfl) ?_
        exact h
set_option maxRecDepth 20000 in
theorem sg_X9_pricks_39 {d : Nat} {x1 : Int32} {x2 : Int32} {x3 : Int32} {x4 : Int32} {M : Mem} {K : (Int32 → Mem → Prop)}  (h : (if 81 ≤ x4 then K x3 M else (if ((ri M 58 48) >>> ((x4 / 9) &&& 31)) &&& 1 = 0 then RI (d + 1) μX9_pricks 39 [(0, .ref 58), (1, .int x1), (2, .int x2), (3, .int x3), (4, .int (x4 + 1))] [] M K else (if ((ri M 58 49) >>> ((x4 - x4 / 9 * 9) &&& 31)) &&& 1 = 0 then RI (d + 1) μX9_pricks 39 [(0, .ref 58), (1, .int x1), (2, .int x2), (3, .int x3), (4, .int (x4 + 1))] [] M K else (CI d μX9_isRest [.ref 58, .int (x4 / 9), .int (x4 - x4 / 9 * 9)] M (fun r2 M1 => (if r2 = 0 then RI (d + 1) μX9_pricks 39 [(0, .ref 58), (1, .int x1), (2, .int x2), (3, .int x3), (4, .int (x4 + 1))] [] M1 K else (if x3 = 0 then (∀ M3, M3 = wi M1 73 (nx 0) ((x4 / 9) - 1) → (∀ M4, M4 = wi M3 73 (nx 1) ((x4 - x4 / 9 * 9) - 1) → (∀ M5, M5 = wi M4 58 45 2 → RI (d + 1) μX9_pricks 39 [(0, .ref 58), (1, .int x1), (2, .int x2), (3, .int (x3 + 1)), (4, .int (x4 + 1))] [] M5 K))) else RI (d + 1) μX9_pricks 39 [(0, .ref 58), (1, .int x1), (2, .int x2), (3, .int (x3 + 1)), (4, .int (x4 + 1))] [] M1 K)))))))) : RI (d + 1) μX9_pricks 39 [(0, .ref 58), (1, .int x1), (2, .int x2), (3, .int x3), (4, .int x4)] [] M K := by
  show Rn (d + 1) μX9_pricks 39 [(0, .ref 58), (1, .int x1), (2, .int x2), (3, .int x3), (4, .int x4)] [] M _
  refine rn_iload (x := x4) dX9_pricks_39 (by simp) ?_
  refine rn_bipush (v := 81) dX9_pricks_41 rfl ?_
  refine rn_icmp_ge (tgt := 140) dX9_pricks_43 (by decide) (ite_go h (fun hc h => ?_) (fun hc h => ?_))
  · refine rn_iload_n (i := 3) (x := x3) dX9_pricks_140 rfl (by simp) ?_
    exact rn_iret dX9_pricks_141 rfl ⟨_, rfl, h⟩
  · refine rn_aload_n (i := 0) (x := 58) dX9_pricks_46 rfl (by simp) ?_
    refine rn_geti dX9_pricks_47 rfl gf_X9_483 (by decide) ?_
    refine rn_iload (x := x4) dX9_pricks_50 (by simp) ?_
    refine rn_bipush (v := 9) dX9_pricks_52 rfl ?_
    refine rn_idiv dX9_pricks_54 (by decide) ?_
    refine rn_ishr dX9_pricks_55 ?_
    refine rn_iconst (v := 1) dX9_pricks_56 rfl ?_
    refine rn_iand dX9_pricks_57 ?_
    refine rn_if_eq (tgt := 134) dX9_pricks_58 (by decide) (ite_go h (fun hc h => ?_) (fun hc h => ?_))
    · refine rn_iinc (x := x4) (v := x4 + 1) (lv' := [(0, .ref 58), (1, .int x1), (2, .int x2), (3, .int x3), (4, .int (x4 + 1))]) dX9_pricks_134 (by simp) rfl (by decide) rfl rfl ?_
      refine rn_goto (tgt := 39) dX9_pricks_137 (by decide) ?_
      exact h
    · refine rn_aload_n (i := 0) (x := 58) dX9_pricks_61 rfl (by simp) ?_
      refine rn_geti dX9_pricks_62 rfl gf_X9_486 (by decide) ?_
      refine rn_iload (x := x4) dX9_pricks_65 (by simp) ?_
      refine rn_bipush (v := 9) dX9_pricks_67 rfl ?_
      refine rn_irem dX9_pricks_69 (by decide) ?_
      refine rn_ishr dX9_pricks_70 ?_
      refine rn_iconst (v := 1) dX9_pricks_71 rfl ?_
      refine rn_iand dX9_pricks_72 ?_
      refine rn_if_eq (tgt := 134) dX9_pricks_73 (by decide) (ite_go h (fun hc h => ?_) (fun hc h => ?_))
      · refine rn_iinc (x := x4) (v := x4 + 1) (lv' := [(0, .ref 58), (1, .int x1), (2, .int x2), (3, .int x3), (4, .int (x4 + 1))]) dX9_pricks_134 (by simp) rfl (by decide) rfl rfl ?_
        refine rn_goto (tgt := 39) dX9_pricks_137 (by decide) ?_
        exact h
      · refine rn_aload_n (i := 0) (x := 58) dX9_pricks_76 rfl (by simp) ?_
        refine rn_iload (x := x4) dX9_pricks_77 (by simp) ?_
        refine rn_bipush (v := 9) dX9_pricks_79 rfl ?_
        refine rn_idiv dX9_pricks_81 (by decide) ?_
        refine rn_iload (x := x4) dX9_pricks_82 (by simp) ?_
        refine rn_bipush (v := 9) dX9_pricks_84 rfl ?_
        refine rn_irem dX9_pricks_86 (by decide) ?_
        refine rn_callVi (as := [.int (x4 / 9), .int (x4 - x4 / 9 * 9)]) (st := []) dX9_pricks_87 mf_X9_isRest lk_X9_492 im_X9_isRest rfl rfl rfl rfl (Nat.le_of_ble_eq_true rfl) (Nat.le_of_ble_eq_true rfl) rfl (RI.mono h (fun r2 M1 h => ?_))
        refine rn_if_ne (tgt := 96) dX9_pricks_90 (by decide) (ite_go h (fun hc h => ?_) (fun hc h => ?_))
        · refine rn_goto (tgt := 134) dX9_pricks_93 (by decide) ?_
          refine rn_iinc (x := x4) (v := x4 + 1) (lv' := [(0, .ref 58), (1, .int x1), (2, .int x2), (3, .int x3), (4, .int (x4 + 1))]) dX9_pricks_134 (by simp) rfl (by decide) rfl rfl ?_
          refine rn_goto (tgt := 39) dX9_pricks_137 (by decide) ?_
          exact h
        · refine rn_iload_n (i := 3) (x := x3) dX9_pricks_96 rfl (by simp) ?_
          refine rn_if_ne (tgt := 131) dX9_pricks_97 (by decide) (ite_go h (fun hc h => ?_) (fun hc h => ?_))
          · refine rn_aload_n (i := 0) (x := 58) dX9_pricks_100 rfl (by simp) ?_
            refine rn_getr (t := 73) dX9_pricks_101 rfl gf_X9_57 rfl rfl ?_
            refine rn_iconst (v := 0) dX9_pricks_104 rfl ?_
            refine rn_iload (x := x4) dX9_pricks_105 (by simp) ?_
            refine rn_bipush (v := 9) dX9_pricks_107 rfl ?_
            refine rn_idiv dX9_pricks_109 (by decide) ?_
            refine rn_iconst (v := 1) dX9_pricks_110 rfl ?_
            refine rn_isub dX9_pricks_111 ?_
            have h := h _ rfl
            refine rn_iastore dX9_pricks_112 rfl (by unfold vp_in; decide) ?_
            generalize wi M1 73 (nx 0) ((x4 / 9) - 1) = M3 at h ⊢
            refine rn_aload_n (i := 0) (x := 58) dX9_pricks_113 rfl (by simp) ?_
            refine rn_getr (t := 73) dX9_pricks_114 rfl gf_X9_57 rfl rfl ?_
            refine rn_iconst (v := 1) dX9_pricks_117 rfl ?_
            refine rn_iload (x := x4) dX9_pricks_118 (by simp) ?_
            refine rn_bipush (v := 9) dX9_pricks_120 rfl ?_
            refine rn_irem dX9_pricks_122 (by decide) ?_
            refine rn_iconst (v := 1) dX9_pricks_123 rfl ?_
            refine rn_isub dX9_pricks_124 ?_
            have h := h _ rfl
            refine rn_iastore dX9_pricks_125 rfl (by unfold vp_in; decide) ?_
            generalize wi M3 73 (nx 1) ((x4 - x4 / 9 * 9) - 1) = M4 at h ⊢
            refine rn_aload_n (i := 0) (x := 58) dX9_pricks_126 rfl (by simp) ?_
            refine rn_iconst (v := 2) dX9_pricks_127 rfl ?_
            have h := h _ rfl
            refine rn_puti dX9_pricks_128 rfl pf_X9_417 (by decide) rfl rfl ?_
            generalize wi M4 58 45 2 = M5 at h ⊢
            refine rn_iinc (x := x3) (v := x3 + 1) (lv' := [(0, .ref 58), (1, .int x1), (2, .int x2), (3, .int (x3 + 1)), (4, .int x4)]) dX9_pricks_131 (by simp) rfl (by decide) rfl rfl ?_
            refine rn_iinc (x := x4) (v := x4 + 1) (lv' := [(0, .ref 58), (1, .int x1), (2, .int x2), (3, .int (x3 + 1)), (4, .int (x4 + 1))]) dX9_pricks_134 (by simp) rfl (by decide) rfl rfl ?_
            refine rn_goto (tgt := 39) dX9_pricks_137 (by decide) ?_
            exact h
          · refine rn_iinc (x := x3) (v := x3 + 1) (lv' := [(0, .ref 58), (1, .int x1), (2, .int x2), (3, .int (x3 + 1)), (4, .int x4)]) dX9_pricks_131 (by simp) rfl (by decide) rfl rfl ?_
            refine rn_iinc (x := x4) (v := x4 + 1) (lv' := [(0, .ref 58), (1, .int x1), (2, .int x2), (3, .int (x3 + 1)), (4, .int (x4 + 1))]) dX9_pricks_134 (by simp) rfl (by decide) rfl rfl ?_
            refine rn_goto (tgt := 39) dX9_pricks_137 (by decide) ?_
            exact h
theorem dX9_thirds_0 : decode μX9_thirds.2.1 0 = .ok (.aload_n 0, 1) := by decide +kernel
theorem dX9_thirds_1 : decode μX9_thirds.2.1 1 = .ok (.invokevirtual 424, 3) := by decide +kernel
theorem dX9_thirds_4 : decode μX9_thirds.2.1 4 = .ok (.iconst 0, 1) := by decide +kernel
theorem dX9_thirds_5 : decode μX9_thirds.2.1 5 = .ok (.istore_n 1, 1) := by decide +kernel
theorem dX9_thirds_6 : decode μX9_thirds.2.1 6 = .ok (.iconst 0, 1) := by decide +kernel
theorem dX9_thirds_7 : decode μX9_thirds.2.1 7 = .ok (.istore_n 2, 1) := by decide +kernel
theorem dX9_thirds_8 : decode μX9_thirds.2.1 8 = .ok (.iload_n 2, 1) := by decide +kernel
theorem dX9_thirds_9 : decode μX9_thirds.2.1 9 = .ok (.aload_n 0, 1) := by decide +kernel
theorem dX9_thirds_10 : decode μX9_thirds.2.1 10 = .ok (.getfield 326, 3) := by decide +kernel
theorem dX9_thirds_13 : decode μX9_thirds.2.1 13 = .ok (.if_icmp .ge 39, 3) := by decide +kernel
theorem dX9_thirds_16 : decode μX9_thirds.2.1 16 = .ok (.iload_n 1, 1) := by decide +kernel
theorem dX9_thirds_17 : decode μX9_thirds.2.1 17 = .ok (.aload_n 0, 1) := by decide +kernel
theorem dX9_thirds_18 : decode μX9_thirds.2.1 18 = .ok (.iload_n 2, 1) := by decide +kernel
theorem dX9_thirds_19 : decode μX9_thirds.2.1 19 = .ok (.invokevirtual 335, 3) := by decide +kernel
theorem dX9_thirds_22 : decode μX9_thirds.2.1 22 = .ok (.ifCond .eq 16, 3) := by decide +kernel
theorem dX9_thirds_25 : decode μX9_thirds.2.1 25 = .ok (.aload_n 0, 1) := by decide +kernel
theorem dX9_thirds_26 : decode μX9_thirds.2.1 26 = .ok (.iload_n 2, 1) := by decide +kernel
theorem dX9_thirds_27 : decode μX9_thirds.2.1 27 = .ok (.invokevirtual 265, 3) := by decide +kernel
theorem dX9_thirds_30 : decode μX9_thirds.2.1 30 = .ok (.iconst 3, 1) := by decide +kernel
theorem dX9_thirds_31 : decode μX9_thirds.2.1 31 = .ok (.if_icmp .ne 7, 3) := by decide +kernel
theorem dX9_thirds_34 : decode μX9_thirds.2.1 34 = .ok (.iconst 1, 1) := by decide +kernel
theorem dX9_thirds_35 : decode μX9_thirds.2.1 35 = .ok (.goto 4, 3) := by decide +kernel
theorem dX9_thirds_38 : decode μX9_thirds.2.1 38 = .ok (.iconst 0, 1) := by decide +kernel
theorem dX9_thirds_39 : decode μX9_thirds.2.1 39 = .ok (.invokestatic 261, 3) := by decide +kernel
theorem dX9_thirds_42 : decode μX9_thirds.2.1 42 = .ok (.iload_n 2, 1) := by decide +kernel
theorem dX9_thirds_43 : decode μX9_thirds.2.1 43 = .ok (.ishl, 1) := by decide +kernel
theorem dX9_thirds_44 : decode μX9_thirds.2.1 44 = .ok (.ior, 1) := by decide +kernel
theorem dX9_thirds_45 : decode μX9_thirds.2.1 45 = .ok (.istore_n 1, 1) := by decide +kernel
theorem dX9_thirds_46 : decode μX9_thirds.2.1 46 = .ok (.iinc 2 1, 3) := by decide +kernel
theorem dX9_thirds_49 : decode μX9_thirds.2.1 49 = .ok (.goto (-41), 3) := by decide +kernel
theorem dX9_thirds_52 : decode μX9_thirds.2.1 52 = .ok (.iload_n 1, 1) := by decide +kernel
theorem dX9_thirds_53 : decode μX9_thirds.2.1 53 = .ok (.ireturn, 1) := by decide +kernel
set_option maxRecDepth 20000 in
theorem sg_X9_thirds_0 {d : Nat}  {M : Mem} {K : (Int32 → Mem → Prop)}  (h : (CV d μX9_fill [.ref 58] M (fun M1 => RI (d + 1) μX9_thirds 8 [(0, .ref 58), (1, .int 0), (2, .int 0)] [] M1 K))) : CI (d + 1) μX9_thirds [.ref 58] M K := by
  show Rn (d + 1) μX9_thirds 0 [(0, .ref 58)] [] M _
  refine rn_aload_n (i := 0) (x := 58) dX9_thirds_0 rfl (by simp) ?_
  refine rn_callVv (as := []) (st := []) dX9_thirds_1 mf_X9_fill lk_X9_424 im_X9_fill rfl rfl rfl rfl (Nat.le_of_ble_eq_true rfl) (Nat.le_of_ble_eq_true rfl) rfl (RV.mono h (fun M1 h => ?_))
  refine rn_iconst (v := 0) dX9_thirds_4 rfl ?_
  refine rn_istore_n (lv' := [(0, .ref 58), (1, .int 0)]) (hd := dX9_thirds_5) (i := 1) (hi := rfl) (hn := by decide) (hf := rfl) (hl := rfl) ?_
  refine rn_iconst (v := 0) dX9_thirds_6 rfl ?_
  refine rn_istore_n (lv' := [(0, .ref 58), (1, .int 0), (2, .int 0)]) (hd := dX9_thirds_7) (i := 2) (hi := rfl) (hn := by decide) (hf := rfl) (hl := rfl) ?_
  exact h
set_option maxRecDepth 20000 in
theorem sg_X9_thirds_8 {d : Nat} {x1 : Int32} {x2 : Int32} {M : Mem} {K : (Int32 → Mem → Prop)}  (h : (if ri M 58 35 ≤ x2 then K x1 M else (CI d μX9_isThere [.ref 58, .int x2] M (fun r2 M1 => (if r2 = 0 then (CI d μX9_truth [.int 0] M1 (fun r4 M3 => RI (d + 1) μX9_thirds 8 [(0, .ref 58), (1, .int (x1 ||| (r4 <<< (x2 &&& 31)))), (2, .int (x2 + 1))] [] M3 K)) else (CI d μX9_sidesOf [.ref 58, .int x2] M1 (fun r6 M5 => (if r6 = 3 then (CI d μX9_truth [.int 1] M5 (fun r8 M7 => RI (d + 1) μX9_thirds 8 [(0, .ref 58), (1, .int (x1 ||| (r8 <<< (x2 &&& 31)))), (2, .int (x2 + 1))] [] M7 K)) else (CI d μX9_truth [.int 0] M5 (fun r10 M9 => RI (d + 1) μX9_thirds 8 [(0, .ref 58), (1, .int (x1 ||| (r10 <<< (x2 &&& 31)))), (2, .int (x2 + 1))] [] M9 K)))))))))) : RI (d + 1) μX9_thirds 8 [(0, .ref 58), (1, .int x1), (2, .int x2)] [] M K := by
  show Rn (d + 1) μX9_thirds 8 [(0, .ref 58), (1, .int x1), (2, .int x2)] [] M _
  refine rn_iload_n (i := 2) (x := x2) dX9_thirds_8 rfl (by simp) ?_
  refine rn_aload_n (i := 0) (x := 58) dX9_thirds_9 rfl (by simp) ?_
  refine rn_geti dX9_thirds_10 rfl gf_X9_326 (by decide) ?_
  refine rn_icmp_ge (tgt := 52) dX9_thirds_13 (by decide) (ite_go h (fun hc h => ?_) (fun hc h => ?_))
  · refine rn_iload_n (i := 1) (x := x1) dX9_thirds_52 rfl (by simp) ?_
    exact rn_iret dX9_thirds_53 rfl ⟨_, rfl, h⟩
  · refine rn_iload_n (i := 1) (x := x1) dX9_thirds_16 rfl (by simp) ?_
    refine rn_aload_n (i := 0) (x := 58) dX9_thirds_17 rfl (by simp) ?_
    refine rn_iload_n (i := 2) (x := x2) dX9_thirds_18 rfl (by simp) ?_
    refine rn_callVi (as := [.int x2]) (st := [.int x1]) dX9_thirds_19 mf_X9_isThere lk_X9_335 im_X9_isThere rfl rfl rfl rfl (Nat.le_of_ble_eq_true rfl) (Nat.le_of_ble_eq_true rfl) rfl (RI.mono h (fun r2 M1 h => ?_))
    refine rn_if_eq (tgt := 38) dX9_thirds_22 (by decide) (ite_go h (fun hc h => ?_) (fun hc h => ?_))
    · refine rn_iconst (v := 0) dX9_thirds_38 rfl ?_
      refine rn_callSi (as := [.int 0]) (st := [.int x1]) dX9_thirds_39 mf_X9_truth lk_X9_261 sm_X9_truth rfl (Nat.le_of_ble_eq_true rfl) (Nat.le_of_ble_eq_true rfl) rfl (RI.mono h (fun r4 M3 h => ?_))
      refine rn_iload_n (i := 2) (x := x2) dX9_thirds_42 rfl (by simp) ?_
      refine rn_ishl dX9_thirds_43 ?_
      refine rn_ior dX9_thirds_44 ?_
      refine rn_istore_n (lv' := [(0, .ref 58), (1, .int (x1 ||| (r4 <<< (x2 &&& 31)))), (2, .int x2)]) (hd := dX9_thirds_45) (i := 1) (hi := rfl) (hn := by decide) (hf := rfl) (hl := rfl) ?_
      refine rn_iinc (x := x2) (v := x2 + 1) (lv' := [(0, .ref 58), (1, .int (x1 ||| (r4 <<< (x2 &&& 31)))), (2, .int (x2 + 1))]) dX9_thirds_46 (by simp) rfl (by decide) rfl rfl ?_
      refine rn_goto (tgt := 8) dX9_thirds_49 (by decide) ?_
      exact h
    · refine rn_aload_n (i := 0) (x := 58) dX9_thirds_25 rfl (by simp) ?_
      refine rn_iload_n (i := 2) (x := x2) dX9_thirds_26 rfl (by simp) ?_
      refine rn_callVi (as := [.int x2]) (st := [.int x1]) dX9_thirds_27 mf_X9_sidesOf lk_X9_265 im_X9_sidesOf rfl rfl rfl rfl (Nat.le_of_ble_eq_true rfl) (Nat.le_of_ble_eq_true rfl) rfl (RI.mono h (fun r6 M5 h => ?_))
      refine rn_iconst (v := 3) dX9_thirds_30 rfl ?_
      refine rn_icmp_ne (tgt := 38) dX9_thirds_31 (by decide) (ite_go h (fun hc h => ?_) (fun hc h => ?_))
      · refine rn_iconst (v := 1) dX9_thirds_34 rfl ?_
        refine rn_goto (tgt := 39) dX9_thirds_35 (by decide) ?_
        refine rn_callSi (as := [.int 1]) (st := [.int x1]) dX9_thirds_39 mf_X9_truth lk_X9_261 sm_X9_truth rfl (Nat.le_of_ble_eq_true rfl) (Nat.le_of_ble_eq_true rfl) rfl (RI.mono h (fun r8 M7 h => ?_))
        refine rn_iload_n (i := 2) (x := x2) dX9_thirds_42 rfl (by simp) ?_
        refine rn_ishl dX9_thirds_43 ?_
        refine rn_ior dX9_thirds_44 ?_
        refine rn_istore_n (lv' := [(0, .ref 58), (1, .int (x1 ||| (r8 <<< (x2 &&& 31)))), (2, .int x2)]) (hd := dX9_thirds_45) (i := 1) (hi := rfl) (hn := by decide) (hf := rfl) (hl := rfl) ?_
        refine rn_iinc (x := x2) (v := x2 + 1) (lv' := [(0, .ref 58), (1, .int (x1 ||| (r8 <<< (x2 &&& 31)))), (2, .int (x2 + 1))]) dX9_thirds_46 (by simp) rfl (by decide) rfl rfl ?_
        refine rn_goto (tgt := 8) dX9_thirds_49 (by decide) ?_
        exact h
      · refine rn_iconst (v := 0) dX9_thirds_38 rfl ?_
        refine rn_callSi (as := [.int 0]) (st := [.int x1]) dX9_thirds_39 mf_X9_truth lk_X9_261 sm_X9_truth rfl (Nat.le_of_ble_eq_true rfl) (Nat.le_of_ble_eq_true rfl) rfl (RI.mono h (fun r10 M9 h => ?_))
        refine rn_iload_n (i := 2) (x := x2) dX9_thirds_42 rfl (by simp) ?_
        refine rn_ishl dX9_thirds_43 ?_
        refine rn_ior dX9_thirds_44 ?_
        refine rn_istore_n (lv' := [(0, .ref 58), (1, .int (x1 ||| (r10 <<< (x2 &&& 31)))), (2, .int x2)]) (hd := dX9_thirds_45) (i := 1) (hi := rfl) (hn := by decide) (hf := rfl) (hl := rfl) ?_
        refine rn_iinc (x := x2) (v := x2 + 1) (lv' := [(0, .ref 58), (1, .int (x1 ||| (r10 <<< (x2 &&& 31)))), (2, .int (x2 + 1))]) dX9_thirds_46 (by simp) rfl (by decide) rfl rfl ?_
        refine rn_goto (tgt := 8) dX9_thirds_49 (by decide) ?_
        exact h
theorem dX9_sleepers_0 : decode μX9_sleepers.2.1 0 = .ok (.aload_n 0, 1) := by decide +kernel
theorem dX9_sleepers_1 : decode μX9_sleepers.2.1 1 = .ok (.invokevirtual 424, 3) := by decide +kernel
theorem dX9_sleepers_4 : decode μX9_sleepers.2.1 4 = .ok (.iconst 0, 1) := by decide +kernel
theorem dX9_sleepers_5 : decode μX9_sleepers.2.1 5 = .ok (.istore_n 1, 1) := by decide +kernel
theorem dX9_sleepers_6 : decode μX9_sleepers.2.1 6 = .ok (.iconst 0, 1) := by decide +kernel
theorem dX9_sleepers_7 : decode μX9_sleepers.2.1 7 = .ok (.istore_n 2, 1) := by decide +kernel
theorem dX9_sleepers_8 : decode μX9_sleepers.2.1 8 = .ok (.iload_n 2, 1) := by decide +kernel
theorem dX9_sleepers_9 : decode μX9_sleepers.2.1 9 = .ok (.aload_n 0, 1) := by decide +kernel
theorem dX9_sleepers_10 : decode μX9_sleepers.2.1 10 = .ok (.getfield 326, 3) := by decide +kernel
theorem dX9_sleepers_13 : decode μX9_sleepers.2.1 13 = .ok (.if_icmp .ge 38, 3) := by decide +kernel
theorem dX9_sleepers_16 : decode μX9_sleepers.2.1 16 = .ok (.iload_n 1, 1) := by decide +kernel
theorem dX9_sleepers_17 : decode μX9_sleepers.2.1 17 = .ok (.aload_n 0, 1) := by decide +kernel
theorem dX9_sleepers_18 : decode μX9_sleepers.2.1 18 = .ok (.iload_n 2, 1) := by decide +kernel
theorem dX9_sleepers_19 : decode μX9_sleepers.2.1 19 = .ok (.invokevirtual 335, 3) := by decide +kernel
theorem dX9_sleepers_22 : decode μX9_sleepers.2.1 22 = .ok (.ifCond .eq 15, 3) := by decide +kernel
theorem dX9_sleepers_25 : decode μX9_sleepers.2.1 25 = .ok (.aload_n 0, 1) := by decide +kernel
theorem dX9_sleepers_26 : decode μX9_sleepers.2.1 26 = .ok (.iload_n 2, 1) := by decide +kernel
theorem dX9_sleepers_27 : decode μX9_sleepers.2.1 27 = .ok (.invokevirtual 338, 3) := by decide +kernel
theorem dX9_sleepers_30 : decode μX9_sleepers.2.1 30 = .ok (.ifCond .ne 7, 3) := by decide +kernel
theorem dX9_sleepers_33 : decode μX9_sleepers.2.1 33 = .ok (.iconst 1, 1) := by decide +kernel
theorem dX9_sleepers_34 : decode μX9_sleepers.2.1 34 = .ok (.goto 4, 3) := by decide +kernel
theorem dX9_sleepers_37 : decode μX9_sleepers.2.1 37 = .ok (.iconst 0, 1) := by decide +kernel
theorem dX9_sleepers_38 : decode μX9_sleepers.2.1 38 = .ok (.invokestatic 261, 3) := by decide +kernel
theorem dX9_sleepers_41 : decode μX9_sleepers.2.1 41 = .ok (.iload_n 2, 1) := by decide +kernel
theorem dX9_sleepers_42 : decode μX9_sleepers.2.1 42 = .ok (.ishl, 1) := by decide +kernel
theorem dX9_sleepers_43 : decode μX9_sleepers.2.1 43 = .ok (.ior, 1) := by decide +kernel
theorem dX9_sleepers_44 : decode μX9_sleepers.2.1 44 = .ok (.istore_n 1, 1) := by decide +kernel
theorem dX9_sleepers_45 : decode μX9_sleepers.2.1 45 = .ok (.iinc 2 1, 3) := by decide +kernel
theorem dX9_sleepers_48 : decode μX9_sleepers.2.1 48 = .ok (.goto (-40), 3) := by decide +kernel
theorem dX9_sleepers_51 : decode μX9_sleepers.2.1 51 = .ok (.iload_n 1, 1) := by decide +kernel
theorem dX9_sleepers_52 : decode μX9_sleepers.2.1 52 = .ok (.ireturn, 1) := by decide +kernel
set_option maxRecDepth 20000 in
theorem sg_X9_sleepers_0 {d : Nat}  {M : Mem} {K : (Int32 → Mem → Prop)}  (h : (CV d μX9_fill [.ref 58] M (fun M1 => RI (d + 1) μX9_sleepers 8 [(0, .ref 58), (1, .int 0), (2, .int 0)] [] M1 K))) : CI (d + 1) μX9_sleepers [.ref 58] M K := by
  show Rn (d + 1) μX9_sleepers 0 [(0, .ref 58)] [] M _
  refine rn_aload_n (i := 0) (x := 58) dX9_sleepers_0 rfl (by simp) ?_
  refine rn_callVv (as := []) (st := []) dX9_sleepers_1 mf_X9_fill lk_X9_424 im_X9_fill rfl rfl rfl rfl (Nat.le_of_ble_eq_true rfl) (Nat.le_of_ble_eq_true rfl) rfl (RV.mono h (fun M1 h => ?_))
  refine rn_iconst (v := 0) dX9_sleepers_4 rfl ?_
  refine rn_istore_n (lv' := [(0, .ref 58), (1, .int 0)]) (hd := dX9_sleepers_5) (i := 1) (hi := rfl) (hn := by decide) (hf := rfl) (hl := rfl) ?_
  refine rn_iconst (v := 0) dX9_sleepers_6 rfl ?_
  refine rn_istore_n (lv' := [(0, .ref 58), (1, .int 0), (2, .int 0)]) (hd := dX9_sleepers_7) (i := 2) (hi := rfl) (hn := by decide) (hf := rfl) (hl := rfl) ?_
  exact h
set_option maxRecDepth 20000 in
theorem sg_X9_sleepers_8 {d : Nat} {x1 : Int32} {x2 : Int32} {M : Mem} {K : (Int32 → Mem → Prop)}  (h : (if ri M 58 35 ≤ x2 then K x1 M else (CI d μX9_isThere [.ref 58, .int x2] M (fun r2 M1 => (if r2 = 0 then (CI d μX9_truth [.int 0] M1 (fun r4 M3 => RI (d + 1) μX9_sleepers 8 [(0, .ref 58), (1, .int (x1 ||| (r4 <<< (x2 &&& 31)))), (2, .int (x2 + 1))] [] M3 K)) else (CI d μX9_growth [.ref 58, .int x2] M1 (fun r6 M5 => (if r6 = 0 then (CI d μX9_truth [.int 1] M5 (fun r8 M7 => RI (d + 1) μX9_sleepers 8 [(0, .ref 58), (1, .int (x1 ||| (r8 <<< (x2 &&& 31)))), (2, .int (x2 + 1))] [] M7 K)) else (CI d μX9_truth [.int 0] M5 (fun r10 M9 => RI (d + 1) μX9_sleepers 8 [(0, .ref 58), (1, .int (x1 ||| (r10 <<< (x2 &&& 31)))), (2, .int (x2 + 1))] [] M9 K)))))))))) : RI (d + 1) μX9_sleepers 8 [(0, .ref 58), (1, .int x1), (2, .int x2)] [] M K := by
  show Rn (d + 1) μX9_sleepers 8 [(0, .ref 58), (1, .int x1), (2, .int x2)] [] M _
  refine rn_iload_n (i := 2) (x := x2) dX9_sleepers_8 rfl (by simp) ?_
  refine rn_aload_n (i := 0) (x := 58) dX9_sleepers_9 rfl (by simp) ?_
  refine rn_geti dX9_sleepers_10 rfl gf_X9_326 (by decide) ?_
  refine rn_icmp_ge (tgt := 51) dX9_sleepers_13 (by decide) (ite_go h (fun hc h => ?_) (fun hc h => ?_))
  · refine rn_iload_n (i := 1) (x := x1) dX9_sleepers_51 rfl (by simp) ?_
    exact rn_iret dX9_sleepers_52 rfl ⟨_, rfl, h⟩
  · refine rn_iload_n (i := 1) (x := x1) dX9_sleepers_16 rfl (by simp) ?_
    refine rn_aload_n (i := 0) (x := 58) dX9_sleepers_17 rfl (by simp) ?_
    refine rn_iload_n (i := 2) (x := x2) dX9_sleepers_18 rfl (by simp) ?_
    refine rn_callVi (as := [.int x2]) (st := [.int x1]) dX9_sleepers_19 mf_X9_isThere lk_X9_335 im_X9_isThere rfl rfl rfl rfl (Nat.le_of_ble_eq_true rfl) (Nat.le_of_ble_eq_true rfl) rfl (RI.mono h (fun r2 M1 h => ?_))
    refine rn_if_eq (tgt := 37) dX9_sleepers_22 (by decide) (ite_go h (fun hc h => ?_) (fun hc h => ?_))
    · refine rn_iconst (v := 0) dX9_sleepers_37 rfl ?_
      refine rn_callSi (as := [.int 0]) (st := [.int x1]) dX9_sleepers_38 mf_X9_truth lk_X9_261 sm_X9_truth rfl (Nat.le_of_ble_eq_true rfl) (Nat.le_of_ble_eq_true rfl) rfl (RI.mono h (fun r4 M3 h => ?_))
      refine rn_iload_n (i := 2) (x := x2) dX9_sleepers_41 rfl (by simp) ?_
      refine rn_ishl dX9_sleepers_42 ?_
      refine rn_ior dX9_sleepers_43 ?_
      refine rn_istore_n (lv' := [(0, .ref 58), (1, .int (x1 ||| (r4 <<< (x2 &&& 31)))), (2, .int x2)]) (hd := dX9_sleepers_44) (i := 1) (hi := rfl) (hn := by decide) (hf := rfl) (hl := rfl) ?_
      refine rn_iinc (x := x2) (v := x2 + 1) (lv' := [(0, .ref 58), (1, .int (x1 ||| (r4 <<< (x2 &&& 31)))), (2, .int (x2 + 1))]) dX9_sleepers_45 (by simp) rfl (by decide) rfl rfl ?_
      refine rn_goto (tgt := 8) dX9_sleepers_48 (by decide) ?_
      exact h
    · refine rn_aload_n (i := 0) (x := 58) dX9_sleepers_25 rfl (by simp) ?_
      refine rn_iload_n (i := 2) (x := x2) dX9_sleepers_26 rfl (by simp) ?_
      refine rn_callVi (as := [.int x2]) (st := [.int x1]) dX9_sleepers_27 mf_X9_growth lk_X9_338 im_X9_growth rfl rfl rfl rfl (Nat.le_of_ble_eq_true rfl) (Nat.le_of_ble_eq_true rfl) rfl (RI.mono h (fun r6 M5 h => ?_))
      refine rn_if_ne (tgt := 37) dX9_sleepers_30 (by decide) (ite_go h (fun hc h => ?_) (fun hc h => ?_))
      · refine rn_iconst (v := 1) dX9_sleepers_33 rfl ?_
        refine rn_goto (tgt := 38) dX9_sleepers_34 (by decide) ?_
        refine rn_callSi (as := [.int 1]) (st := [.int x1]) dX9_sleepers_38 mf_X9_truth lk_X9_261 sm_X9_truth rfl (Nat.le_of_ble_eq_true rfl) (Nat.le_of_ble_eq_true rfl) rfl (RI.mono h (fun r8 M7 h => ?_))
        refine rn_iload_n (i := 2) (x := x2) dX9_sleepers_41 rfl (by simp) ?_
        refine rn_ishl dX9_sleepers_42 ?_
        refine rn_ior dX9_sleepers_43 ?_
        refine rn_istore_n (lv' := [(0, .ref 58), (1, .int (x1 ||| (r8 <<< (x2 &&& 31)))), (2, .int x2)]) (hd := dX9_sleepers_44) (i := 1) (hi := rfl) (hn := by decide) (hf := rfl) (hl := rfl) ?_
        refine rn_iinc (x := x2) (v := x2 + 1) (lv' := [(0, .ref 58), (1, .int (x1 ||| (r8 <<< (x2 &&& 31)))), (2, .int (x2 + 1))]) dX9_sleepers_45 (by simp) rfl (by decide) rfl rfl ?_
        refine rn_goto (tgt := 8) dX9_sleepers_48 (by decide) ?_
        exact h
      · refine rn_iconst (v := 0) dX9_sleepers_37 rfl ?_
        refine rn_callSi (as := [.int 0]) (st := [.int x1]) dX9_sleepers_38 mf_X9_truth lk_X9_261 sm_X9_truth rfl (Nat.le_of_ble_eq_true rfl) (Nat.le_of_ble_eq_true rfl) rfl (RI.mono h (fun r10 M9 h => ?_))
        refine rn_iload_n (i := 2) (x := x2) dX9_sleepers_41 rfl (by simp) ?_
        refine rn_ishl dX9_sleepers_42 ?_
        refine rn_ior dX9_sleepers_43 ?_
        refine rn_istore_n (lv' := [(0, .ref 58), (1, .int (x1 ||| (r10 <<< (x2 &&& 31)))), (2, .int x2)]) (hd := dX9_sleepers_44) (i := 1) (hi := rfl) (hn := by decide) (hf := rfl) (hl := rfl) ?_
        refine rn_iinc (x := x2) (v := x2 + 1) (lv' := [(0, .ref 58), (1, .int (x1 ||| (r10 <<< (x2 &&& 31)))), (2, .int (x2 + 1))]) dX9_sleepers_45 (by simp) rfl (by decide) rfl rfl ?_
        refine rn_goto (tgt := 8) dX9_sleepers_48 (by decide) ?_
        exact h
theorem dX9_king_0 : decode μX9_king.2.1 0 = .ok (.aload_n 0, 1) := by decide +kernel
theorem dX9_king_1 : decode μX9_king.2.1 1 = .ok (.invokevirtual 424, 3) := by decide +kernel
theorem dX9_king_4 : decode μX9_king.2.1 4 = .ok (.iconst (-1), 1) := by decide +kernel
theorem dX9_king_5 : decode μX9_king.2.1 5 = .ok (.istore_n 1, 1) := by decide +kernel
theorem dX9_king_6 : decode μX9_king.2.1 6 = .ok (.iconst 0, 1) := by decide +kernel
theorem dX9_king_7 : decode μX9_king.2.1 7 = .ok (.istore_n 2, 1) := by decide +kernel
theorem dX9_king_8 : decode μX9_king.2.1 8 = .ok (.iload_n 2, 1) := by decide +kernel
theorem dX9_king_9 : decode μX9_king.2.1 9 = .ok (.aload_n 0, 1) := by decide +kernel
theorem dX9_king_10 : decode μX9_king.2.1 10 = .ok (.getfield 326, 3) := by decide +kernel
theorem dX9_king_13 : decode μX9_king.2.1 13 = .ok (.if_icmp .ge 36, 3) := by decide +kernel
theorem dX9_king_16 : decode μX9_king.2.1 16 = .ok (.aload_n 0, 1) := by decide +kernel
theorem dX9_king_17 : decode μX9_king.2.1 17 = .ok (.iload_n 2, 1) := by decide +kernel
theorem dX9_king_18 : decode μX9_king.2.1 18 = .ok (.invokevirtual 335, 3) := by decide +kernel
theorem dX9_king_21 : decode μX9_king.2.1 21 = .ok (.ifCond .eq 22, 3) := by decide +kernel
theorem dX9_king_24 : decode μX9_king.2.1 24 = .ok (.iload_n 1, 1) := by decide +kernel
theorem dX9_king_25 : decode μX9_king.2.1 25 = .ok (.ifCond .lt 16, 3) := by decide +kernel
theorem dX9_king_28 : decode μX9_king.2.1 28 = .ok (.aload_n 0, 1) := by decide +kernel
theorem dX9_king_29 : decode μX9_king.2.1 29 = .ok (.iload_n 2, 1) := by decide +kernel
theorem dX9_king_30 : decode μX9_king.2.1 30 = .ok (.invokevirtual 265, 3) := by decide +kernel
theorem dX9_king_33 : decode μX9_king.2.1 33 = .ok (.aload_n 0, 1) := by decide +kernel
theorem dX9_king_34 : decode μX9_king.2.1 34 = .ok (.iload_n 1, 1) := by decide +kernel
theorem dX9_king_35 : decode μX9_king.2.1 35 = .ok (.invokevirtual 265, 3) := by decide +kernel
theorem dX9_king_38 : decode μX9_king.2.1 38 = .ok (.if_icmp .le 5, 3) := by decide +kernel
theorem dX9_king_41 : decode μX9_king.2.1 41 = .ok (.iload_n 2, 1) := by decide +kernel
theorem dX9_king_42 : decode μX9_king.2.1 42 = .ok (.istore_n 1, 1) := by decide +kernel
theorem dX9_king_43 : decode μX9_king.2.1 43 = .ok (.iinc 2 1, 3) := by decide +kernel
theorem dX9_king_46 : decode μX9_king.2.1 46 = .ok (.goto (-38), 3) := by decide +kernel
theorem dX9_king_49 : decode μX9_king.2.1 49 = .ok (.iload_n 1, 1) := by decide +kernel
theorem dX9_king_50 : decode μX9_king.2.1 50 = .ok (.ireturn, 1) := by decide +kernel
set_option maxRecDepth 20000 in
theorem sg_X9_king_0 {d : Nat}  {M : Mem} {K : (Int32 → Mem → Prop)}  (h : (CV d μX9_fill [.ref 58] M (fun M1 => RI (d + 1) μX9_king 8 [(0, .ref 58), (1, .int ((-1))), (2, .int 0)] [] M1 K))) : CI (d + 1) μX9_king [.ref 58] M K := by
  show Rn (d + 1) μX9_king 0 [(0, .ref 58)] [] M _
  refine rn_aload_n (i := 0) (x := 58) dX9_king_0 rfl (by simp) ?_
  refine rn_callVv (as := []) (st := []) dX9_king_1 mf_X9_fill lk_X9_424 im_X9_fill rfl rfl rfl rfl (Nat.le_of_ble_eq_true rfl) (Nat.le_of_ble_eq_true rfl) rfl (RV.mono h (fun M1 h => ?_))
  refine rn_iconst (v := -1) dX9_king_4 rfl ?_
  refine rn_istore_n (lv' := [(0, .ref 58), (1, .int ((-1)))]) (hd := dX9_king_5) (i := 1) (hi := rfl) (hn := by decide) (hf := rfl) (hl := rfl) ?_
  refine rn_iconst (v := 0) dX9_king_6 rfl ?_
  refine rn_istore_n (lv' := [(0, .ref 58), (1, .int ((-1))), (2, .int 0)]) (hd := dX9_king_7) (i := 2) (hi := rfl) (hn := by decide) (hf := rfl) (hl := rfl) ?_
  exact h
set_option maxRecDepth 20000 in
theorem sg_X9_king_8 {d : Nat} {x1 : Int32} {x2 : Int32} {M : Mem} {K : (Int32 → Mem → Prop)}  (h : (if ri M 58 35 ≤ x2 then K x1 M else (CI d μX9_isThere [.ref 58, .int x2] M (fun r2 M1 => (if r2 = 0 then RI (d + 1) μX9_king 8 [(0, .ref 58), (1, .int x1), (2, .int (x2 + 1))] [] M1 K else (if x1 < 0 then RI (d + 1) μX9_king 8 [(0, .ref 58), (1, .int x2), (2, .int (x2 + 1))] [] M1 K else (CI d μX9_sidesOf [.ref 58, .int x2] M1 (fun r4 M3 => (CI d μX9_sidesOf [.ref 58, .int x1] M3 (fun r6 M5 => (if r4 ≤ r6 then RI (d + 1) μX9_king 8 [(0, .ref 58), (1, .int x1), (2, .int (x2 + 1))] [] M5 K else RI (d + 1) μX9_king 8 [(0, .ref 58), (1, .int x2), (2, .int (x2 + 1))] [] M5 K))))))))))) : RI (d + 1) μX9_king 8 [(0, .ref 58), (1, .int x1), (2, .int x2)] [] M K := by
  show Rn (d + 1) μX9_king 8 [(0, .ref 58), (1, .int x1), (2, .int x2)] [] M _
  refine rn_iload_n (i := 2) (x := x2) dX9_king_8 rfl (by simp) ?_
  refine rn_aload_n (i := 0) (x := 58) dX9_king_9 rfl (by simp) ?_
  refine rn_geti dX9_king_10 rfl gf_X9_326 (by decide) ?_
  refine rn_icmp_ge (tgt := 49) dX9_king_13 (by decide) (ite_go h (fun hc h => ?_) (fun hc h => ?_))
  · refine rn_iload_n (i := 1) (x := x1) dX9_king_49 rfl (by simp) ?_
    exact rn_iret dX9_king_50 rfl ⟨_, rfl, h⟩
  · refine rn_aload_n (i := 0) (x := 58) dX9_king_16 rfl (by simp) ?_
    refine rn_iload_n (i := 2) (x := x2) dX9_king_17 rfl (by simp) ?_
    refine rn_callVi (as := [.int x2]) (st := []) dX9_king_18 mf_X9_isThere lk_X9_335 im_X9_isThere rfl rfl rfl rfl (Nat.le_of_ble_eq_true rfl) (Nat.le_of_ble_eq_true rfl) rfl (RI.mono h (fun r2 M1 h => ?_))
    refine rn_if_eq (tgt := 43) dX9_king_21 (by decide) (ite_go h (fun hc h => ?_) (fun hc h => ?_))
    · refine rn_iinc (x := x2) (v := x2 + 1) (lv' := [(0, .ref 58), (1, .int x1), (2, .int (x2 + 1))]) dX9_king_43 (by simp) rfl (by decide) rfl rfl ?_
      refine rn_goto (tgt := 8) dX9_king_46 (by decide) ?_
      exact h
    · refine rn_iload_n (i := 1) (x := x1) dX9_king_24 rfl (by simp) ?_
      refine rn_if_lt (tgt := 41) dX9_king_25 (by decide) (ite_go h (fun hc h => ?_) (fun hc h => ?_))
      · refine rn_iload_n (i := 2) (x := x2) dX9_king_41 rfl (by simp) ?_
        refine rn_istore_n (lv' := [(0, .ref 58), (1, .int x2), (2, .int x2)]) (hd := dX9_king_42) (i := 1) (hi := rfl) (hn := by decide) (hf := rfl) (hl := rfl) ?_
        refine rn_iinc (x := x2) (v := x2 + 1) (lv' := [(0, .ref 58), (1, .int x2), (2, .int (x2 + 1))]) dX9_king_43 (by simp) rfl (by decide) rfl rfl ?_
        refine rn_goto (tgt := 8) dX9_king_46 (by decide) ?_
        exact h
      · refine rn_aload_n (i := 0) (x := 58) dX9_king_28 rfl (by simp) ?_
        refine rn_iload_n (i := 2) (x := x2) dX9_king_29 rfl (by simp) ?_
        refine rn_callVi (as := [.int x2]) (st := []) dX9_king_30 mf_X9_sidesOf lk_X9_265 im_X9_sidesOf rfl rfl rfl rfl (Nat.le_of_ble_eq_true rfl) (Nat.le_of_ble_eq_true rfl) rfl (RI.mono h (fun r4 M3 h => ?_))
        refine rn_aload_n (i := 0) (x := 58) dX9_king_33 rfl (by simp) ?_
        refine rn_iload_n (i := 1) (x := x1) dX9_king_34 rfl (by simp) ?_
        refine rn_callVi (as := [.int x1]) (st := [.int r4]) dX9_king_35 mf_X9_sidesOf lk_X9_265 im_X9_sidesOf rfl rfl rfl rfl (Nat.le_of_ble_eq_true rfl) (Nat.le_of_ble_eq_true rfl) rfl (RI.mono h (fun r6 M5 h => ?_))
        refine rn_icmp_le (tgt := 43) dX9_king_38 (by decide) (ite_go h (fun hc h => ?_) (fun hc h => ?_))
        · refine rn_iinc (x := x2) (v := x2 + 1) (lv' := [(0, .ref 58), (1, .int x1), (2, .int (x2 + 1))]) dX9_king_43 (by simp) rfl (by decide) rfl rfl ?_
          refine rn_goto (tgt := 8) dX9_king_46 (by decide) ?_
          exact h
        · refine rn_iload_n (i := 2) (x := x2) dX9_king_41 rfl (by simp) ?_
          refine rn_istore_n (lv' := [(0, .ref 58), (1, .int x2), (2, .int x2)]) (hd := dX9_king_42) (i := 1) (hi := rfl) (hn := by decide) (hf := rfl) (hl := rfl) ?_
          refine rn_iinc (x := x2) (v := x2 + 1) (lv' := [(0, .ref 58), (1, .int x2), (2, .int (x2 + 1))]) dX9_king_43 (by simp) rfl (by decide) rfl rfl ?_
          refine rn_goto (tgt := 8) dX9_king_46 (by decide) ?_
          exact h
theorem dX9_restless_0 : decode μX9_restless.2.1 0 = .ok (.aload_n 0, 1) := by decide +kernel
theorem dX9_restless_1 : decode μX9_restless.2.1 1 = .ok (.invokevirtual 424, 3) := by decide +kernel
theorem dX9_restless_4 : decode μX9_restless.2.1 4 = .ok (.iconst 0, 1) := by decide +kernel
theorem dX9_restless_5 : decode μX9_restless.2.1 5 = .ok (.istore_n 1, 1) := by decide +kernel
theorem dX9_restless_6 : decode μX9_restless.2.1 6 = .ok (.iconst 0, 1) := by decide +kernel
theorem dX9_restless_7 : decode μX9_restless.2.1 7 = .ok (.istore_n 2, 1) := by decide +kernel
theorem dX9_restless_8 : decode μX9_restless.2.1 8 = .ok (.iload_n 2, 1) := by decide +kernel
theorem dX9_restless_9 : decode μX9_restless.2.1 9 = .ok (.aload_n 0, 1) := by decide +kernel
theorem dX9_restless_10 : decode μX9_restless.2.1 10 = .ok (.getfield 326, 3) := by decide +kernel
theorem dX9_restless_13 : decode μX9_restless.2.1 13 = .ok (.if_icmp .ge 39, 3) := by decide +kernel
theorem dX9_restless_16 : decode μX9_restless.2.1 16 = .ok (.iload_n 2, 1) := by decide +kernel
theorem dX9_restless_17 : decode μX9_restless.2.1 17 = .ok (.iconst 1, 1) := by decide +kernel
theorem dX9_restless_18 : decode μX9_restless.2.1 18 = .ok (.iadd, 1) := by decide +kernel
theorem dX9_restless_19 : decode μX9_restless.2.1 19 = .ok (.istore_n 3, 1) := by decide +kernel
theorem dX9_restless_20 : decode μX9_restless.2.1 20 = .ok (.iload_n 3, 1) := by decide +kernel
theorem dX9_restless_21 : decode μX9_restless.2.1 21 = .ok (.aload_n 0, 1) := by decide +kernel
theorem dX9_restless_22 : decode μX9_restless.2.1 22 = .ok (.getfield 326, 3) := by decide +kernel
theorem dX9_restless_25 : decode μX9_restless.2.1 25 = .ok (.if_icmp .ge 21, 3) := by decide +kernel
theorem dX9_restless_28 : decode μX9_restless.2.1 28 = .ok (.iload_n 1, 1) := by decide +kernel
theorem dX9_restless_29 : decode μX9_restless.2.1 29 = .ok (.aload_n 0, 1) := by decide +kernel
theorem dX9_restless_30 : decode μX9_restless.2.1 30 = .ok (.iload_n 2, 1) := by decide +kernel
theorem dX9_restless_31 : decode μX9_restless.2.1 31 = .ok (.iload_n 3, 1) := by decide +kernel
theorem dX9_restless_32 : decode μX9_restless.2.1 32 = .ok (.invokevirtual 329, 3) := by decide +kernel
theorem dX9_restless_35 : decode μX9_restless.2.1 35 = .ok (.invokestatic 261, 3) := by decide +kernel
theorem dX9_restless_38 : decode μX9_restless.2.1 38 = .ok (.iadd, 1) := by decide +kernel
theorem dX9_restless_39 : decode μX9_restless.2.1 39 = .ok (.istore_n 1, 1) := by decide +kernel
theorem dX9_restless_40 : decode μX9_restless.2.1 40 = .ok (.iinc 3 1, 3) := by decide +kernel
theorem dX9_restless_43 : decode μX9_restless.2.1 43 = .ok (.goto (-23), 3) := by decide +kernel
theorem dX9_restless_46 : decode μX9_restless.2.1 46 = .ok (.iinc 2 1, 3) := by decide +kernel
theorem dX9_restless_49 : decode μX9_restless.2.1 49 = .ok (.goto (-41), 3) := by decide +kernel
theorem dX9_restless_52 : decode μX9_restless.2.1 52 = .ok (.iload_n 1, 1) := by decide +kernel
theorem dX9_restless_53 : decode μX9_restless.2.1 53 = .ok (.ireturn, 1) := by decide +kernel
set_option maxRecDepth 20000 in
theorem sg_X9_restless_0 {d : Nat}  {M : Mem} {K : (Int32 → Mem → Prop)}  (h : (CV d μX9_fill [.ref 58] M (fun M1 => RI (d + 1) μX9_restless 8 [(0, .ref 58), (1, .int 0), (2, .int 0)] [] M1 K))) : CI (d + 1) μX9_restless [.ref 58] M K := by
  show Rn (d + 1) μX9_restless 0 [(0, .ref 58)] [] M _
  refine rn_aload_n (i := 0) (x := 58) dX9_restless_0 rfl (by simp) ?_
  refine rn_callVv (as := []) (st := []) dX9_restless_1 mf_X9_fill lk_X9_424 im_X9_fill rfl rfl rfl rfl (Nat.le_of_ble_eq_true rfl) (Nat.le_of_ble_eq_true rfl) rfl (RV.mono h (fun M1 h => ?_))
  refine rn_iconst (v := 0) dX9_restless_4 rfl ?_
  refine rn_istore_n (lv' := [(0, .ref 58), (1, .int 0)]) (hd := dX9_restless_5) (i := 1) (hi := rfl) (hn := by decide) (hf := rfl) (hl := rfl) ?_
  refine rn_iconst (v := 0) dX9_restless_6 rfl ?_
  refine rn_istore_n (lv' := [(0, .ref 58), (1, .int 0), (2, .int 0)]) (hd := dX9_restless_7) (i := 2) (hi := rfl) (hn := by decide) (hf := rfl) (hl := rfl) ?_
  exact h
set_option maxRecDepth 20000 in
theorem sg_X9_restless_8 {d : Nat} {x1 : Int32} {x2 : Int32} {M : Mem} {K : (Int32 → Mem → Prop)}  (h : (if ri M 58 35 ≤ x2 then K x1 M else RI (d + 1) μX9_restless 20 [(0, .ref 58), (1, .int x1), (2, .int x2), (3, .int (x2 + 1))] [] M K)) : RI (d + 1) μX9_restless 8 [(0, .ref 58), (1, .int x1), (2, .int x2)] [] M K := by
  show Rn (d + 1) μX9_restless 8 [(0, .ref 58), (1, .int x1), (2, .int x2)] [] M _
  refine rn_iload_n (i := 2) (x := x2) dX9_restless_8 rfl (by simp) ?_
  refine rn_aload_n (i := 0) (x := 58) dX9_restless_9 rfl (by simp) ?_
  refine rn_geti dX9_restless_10 rfl gf_X9_326 (by decide) ?_
  refine rn_icmp_ge (tgt := 52) dX9_restless_13 (by decide) (ite_go h (fun hc h => ?_) (fun hc h => ?_))
  · refine rn_iload_n (i := 1) (x := x1) dX9_restless_52 rfl (by simp) ?_
    exact rn_iret dX9_restless_53 rfl ⟨_, rfl, h⟩
  · refine rn_iload_n (i := 2) (x := x2) dX9_restless_16 rfl (by simp) ?_
    refine rn_iconst (v := 1) dX9_restless_17 rfl ?_
    refine rn_iadd dX9_restless_18 ?_
    refine rn_istore_n (lv' := [(0, .ref 58), (1, .int x1), (2, .int x2), (3, .int (x2 + 1))]) (hd := dX9_restless_19) (i := 3) (hi := rfl) (hn := by decide) (hf := rfl) (hl := rfl) ?_
    exact h
set_option maxRecDepth 20000 in
theorem sg_X9_restless_20 {d : Nat} {x1 : Int32} {x2 : Int32} {x3 : Int32} {M : Mem} {K : (Int32 → Mem → Prop)}  (h : (if ri M 58 35 ≤ x3 then RI (d + 1) μX9_restless 8 [(0, .ref 58), (1, .int x1), (2, .int (x2 + 1))] [] M K else (CI d μX9_canFlip [.ref 58, .int x2, .int x3] M (fun r2 M1 => (CI d μX9_truth [.int r2] M1 (fun r4 M3 => RI (d + 1) μX9_restless 20 [(0, .ref 58), (1, .int (x1 + r4)), (2, .int x2), (3, .int (x3 + 1))] [] M3 K)))))) : RI (d + 1) μX9_restless 20 [(0, .ref 58), (1, .int x1), (2, .int x2), (3, .int x3)] [] M K := by
  show Rn (d + 1) μX9_restless 20 [(0, .ref 58), (1, .int x1), (2, .int x2), (3, .int x3)] [] M _
  refine rn_iload_n (i := 3) (x := x3) dX9_restless_20 rfl (by simp) ?_
  refine rn_aload_n (i := 0) (x := 58) dX9_restless_21 rfl (by simp) ?_
  refine rn_geti dX9_restless_22 rfl gf_X9_326 (by decide) ?_
  refine rn_icmp_ge (tgt := 46) dX9_restless_25 (by decide) (ite_go h (fun hc h => ?_) (fun hc h => ?_))
  · refine rn_iinc (x := x2) (v := x2 + 1) (lv' := [(0, .ref 58), (1, .int x1), (2, .int (x2 + 1)), (3, .int x3)]) dX9_restless_46 (by simp) rfl (by decide) rfl rfl ?_
    refine rn_goto (tgt := 8) dX9_restless_49 (by decide) ?_
    refine Rn.sub (lv' := [(0, .ref 58), (1, .int x1), (2, .int (x2 + 1))]) (by simp) ?_
    exact h
  · refine rn_iload_n (i := 1) (x := x1) dX9_restless_28 rfl (by simp) ?_
    refine rn_aload_n (i := 0) (x := 58) dX9_restless_29 rfl (by simp) ?_
    refine rn_iload_n (i := 2) (x := x2) dX9_restless_30 rfl (by simp) ?_
    refine rn_iload_n (i := 3) (x := x3) dX9_restless_31 rfl (by simp) ?_
    refine rn_callVi (as := [.int x2, .int x3]) (st := [.int x1]) dX9_restless_32 mf_X9_canFlip lk_X9_329 im_X9_canFlip rfl rfl rfl rfl (Nat.le_of_ble_eq_true rfl) (Nat.le_of_ble_eq_true rfl) rfl (RI.mono h (fun r2 M1 h => ?_))
    refine rn_callSi (as := [.int r2]) (st := [.int x1]) dX9_restless_35 mf_X9_truth lk_X9_261 sm_X9_truth rfl (Nat.le_of_ble_eq_true rfl) (Nat.le_of_ble_eq_true rfl) rfl (RI.mono h (fun r4 M3 h => ?_))
    refine rn_iadd dX9_restless_38 ?_
    refine rn_istore_n (lv' := [(0, .ref 58), (1, .int (x1 + r4)), (2, .int x2), (3, .int x3)]) (hd := dX9_restless_39) (i := 1) (hi := rfl) (hn := by decide) (hf := rfl) (hl := rfl) ?_
    refine rn_iinc (x := x3) (v := x3 + 1) (lv' := [(0, .ref 58), (1, .int (x1 + r4)), (2, .int x2), (3, .int (x3 + 1))]) dX9_restless_40 (by simp) rfl (by decide) rfl rfl ?_
    refine rn_goto (tgt := 20) dX9_restless_43 (by decide) ?_
    exact h
theorem dX9_brides_0 : decode μX9_brides.2.1 0 = .ok (.aload_n 0, 1) := by decide +kernel
theorem dX9_brides_1 : decode μX9_brides.2.1 1 = .ok (.invokevirtual 424, 3) := by decide +kernel
theorem dX9_brides_4 : decode μX9_brides.2.1 4 = .ok (.iconst 0, 1) := by decide +kernel
theorem dX9_brides_5 : decode μX9_brides.2.1 5 = .ok (.istore_n 1, 1) := by decide +kernel
theorem dX9_brides_6 : decode μX9_brides.2.1 6 = .ok (.iconst 0, 1) := by decide +kernel
theorem dX9_brides_7 : decode μX9_brides.2.1 7 = .ok (.istore_n 2, 1) := by decide +kernel
theorem dX9_brides_8 : decode μX9_brides.2.1 8 = .ok (.iload_n 2, 1) := by decide +kernel
theorem dX9_brides_9 : decode μX9_brides.2.1 9 = .ok (.aload_n 0, 1) := by decide +kernel
theorem dX9_brides_10 : decode μX9_brides.2.1 10 = .ok (.getfield 326, 3) := by decide +kernel
theorem dX9_brides_13 : decode μX9_brides.2.1 13 = .ok (.if_icmp .ge 39, 3) := by decide +kernel
theorem dX9_brides_16 : decode μX9_brides.2.1 16 = .ok (.iload_n 2, 1) := by decide +kernel
theorem dX9_brides_17 : decode μX9_brides.2.1 17 = .ok (.iconst 1, 1) := by decide +kernel
theorem dX9_brides_18 : decode μX9_brides.2.1 18 = .ok (.iadd, 1) := by decide +kernel
theorem dX9_brides_19 : decode μX9_brides.2.1 19 = .ok (.istore_n 3, 1) := by decide +kernel
theorem dX9_brides_20 : decode μX9_brides.2.1 20 = .ok (.iload_n 3, 1) := by decide +kernel
theorem dX9_brides_21 : decode μX9_brides.2.1 21 = .ok (.aload_n 0, 1) := by decide +kernel
theorem dX9_brides_22 : decode μX9_brides.2.1 22 = .ok (.getfield 326, 3) := by decide +kernel
theorem dX9_brides_25 : decode μX9_brides.2.1 25 = .ok (.if_icmp .ge 21, 3) := by decide +kernel
theorem dX9_brides_28 : decode μX9_brides.2.1 28 = .ok (.iload_n 1, 1) := by decide +kernel
theorem dX9_brides_29 : decode μX9_brides.2.1 29 = .ok (.aload_n 0, 1) := by decide +kernel
theorem dX9_brides_30 : decode μX9_brides.2.1 30 = .ok (.iload_n 2, 1) := by decide +kernel
theorem dX9_brides_31 : decode μX9_brides.2.1 31 = .ok (.iload_n 3, 1) := by decide +kernel
theorem dX9_brides_32 : decode μX9_brides.2.1 32 = .ok (.invokevirtual 433, 3) := by decide +kernel
theorem dX9_brides_35 : decode μX9_brides.2.1 35 = .ok (.invokestatic 261, 3) := by decide +kernel
theorem dX9_brides_38 : decode μX9_brides.2.1 38 = .ok (.iadd, 1) := by decide +kernel
theorem dX9_brides_39 : decode μX9_brides.2.1 39 = .ok (.istore_n 1, 1) := by decide +kernel
theorem dX9_brides_40 : decode μX9_brides.2.1 40 = .ok (.iinc 3 1, 3) := by decide +kernel
theorem dX9_brides_43 : decode μX9_brides.2.1 43 = .ok (.goto (-23), 3) := by decide +kernel
theorem dX9_brides_46 : decode μX9_brides.2.1 46 = .ok (.iinc 2 1, 3) := by decide +kernel
theorem dX9_brides_49 : decode μX9_brides.2.1 49 = .ok (.goto (-41), 3) := by decide +kernel
theorem dX9_brides_52 : decode μX9_brides.2.1 52 = .ok (.iload_n 1, 1) := by decide +kernel
theorem dX9_brides_53 : decode μX9_brides.2.1 53 = .ok (.ireturn, 1) := by decide +kernel
set_option maxRecDepth 20000 in
theorem sg_X9_brides_0 {d : Nat}  {M : Mem} {K : (Int32 → Mem → Prop)}  (h : (CV d μX9_fill [.ref 58] M (fun M1 => RI (d + 1) μX9_brides 8 [(0, .ref 58), (1, .int 0), (2, .int 0)] [] M1 K))) : CI (d + 1) μX9_brides [.ref 58] M K := by
  show Rn (d + 1) μX9_brides 0 [(0, .ref 58)] [] M _
  refine rn_aload_n (i := 0) (x := 58) dX9_brides_0 rfl (by simp) ?_
  refine rn_callVv (as := []) (st := []) dX9_brides_1 mf_X9_fill lk_X9_424 im_X9_fill rfl rfl rfl rfl (Nat.le_of_ble_eq_true rfl) (Nat.le_of_ble_eq_true rfl) rfl (RV.mono h (fun M1 h => ?_))
  refine rn_iconst (v := 0) dX9_brides_4 rfl ?_
  refine rn_istore_n (lv' := [(0, .ref 58), (1, .int 0)]) (hd := dX9_brides_5) (i := 1) (hi := rfl) (hn := by decide) (hf := rfl) (hl := rfl) ?_
  refine rn_iconst (v := 0) dX9_brides_6 rfl ?_
  refine rn_istore_n (lv' := [(0, .ref 58), (1, .int 0), (2, .int 0)]) (hd := dX9_brides_7) (i := 2) (hi := rfl) (hn := by decide) (hf := rfl) (hl := rfl) ?_
  exact h
set_option maxRecDepth 20000 in
theorem sg_X9_brides_8 {d : Nat} {x1 : Int32} {x2 : Int32} {M : Mem} {K : (Int32 → Mem → Prop)}  (h : (if ri M 58 35 ≤ x2 then K x1 M else RI (d + 1) μX9_brides 20 [(0, .ref 58), (1, .int x1), (2, .int x2), (3, .int (x2 + 1))] [] M K)) : RI (d + 1) μX9_brides 8 [(0, .ref 58), (1, .int x1), (2, .int x2)] [] M K := by
  show Rn (d + 1) μX9_brides 8 [(0, .ref 58), (1, .int x1), (2, .int x2)] [] M _
  refine rn_iload_n (i := 2) (x := x2) dX9_brides_8 rfl (by simp) ?_
  refine rn_aload_n (i := 0) (x := 58) dX9_brides_9 rfl (by simp) ?_
  refine rn_geti dX9_brides_10 rfl gf_X9_326 (by decide) ?_
  refine rn_icmp_ge (tgt := 52) dX9_brides_13 (by decide) (ite_go h (fun hc h => ?_) (fun hc h => ?_))
  · refine rn_iload_n (i := 1) (x := x1) dX9_brides_52 rfl (by simp) ?_
    exact rn_iret dX9_brides_53 rfl ⟨_, rfl, h⟩
  · refine rn_iload_n (i := 2) (x := x2) dX9_brides_16 rfl (by simp) ?_
    refine rn_iconst (v := 1) dX9_brides_17 rfl ?_
    refine rn_iadd dX9_brides_18 ?_
    refine rn_istore_n (lv' := [(0, .ref 58), (1, .int x1), (2, .int x2), (3, .int (x2 + 1))]) (hd := dX9_brides_19) (i := 3) (hi := rfl) (hn := by decide) (hf := rfl) (hl := rfl) ?_
    exact h
set_option maxRecDepth 20000 in
theorem sg_X9_brides_20 {d : Nat} {x1 : Int32} {x2 : Int32} {x3 : Int32} {M : Mem} {K : (Int32 → Mem → Prop)}  (h : (if ri M 58 35 ≤ x3 then RI (d + 1) μX9_brides 8 [(0, .ref 58), (1, .int x1), (2, .int (x2 + 1))] [] M K else (CI d μX9_canPop [.ref 58, .int x2, .int x3] M (fun r2 M1 => (CI d μX9_truth [.int r2] M1 (fun r4 M3 => RI (d + 1) μX9_brides 20 [(0, .ref 58), (1, .int (x1 + r4)), (2, .int x2), (3, .int (x3 + 1))] [] M3 K)))))) : RI (d + 1) μX9_brides 20 [(0, .ref 58), (1, .int x1), (2, .int x2), (3, .int x3)] [] M K := by
  show Rn (d + 1) μX9_brides 20 [(0, .ref 58), (1, .int x1), (2, .int x2), (3, .int x3)] [] M _
  refine rn_iload_n (i := 3) (x := x3) dX9_brides_20 rfl (by simp) ?_
  refine rn_aload_n (i := 0) (x := 58) dX9_brides_21 rfl (by simp) ?_
  refine rn_geti dX9_brides_22 rfl gf_X9_326 (by decide) ?_
  refine rn_icmp_ge (tgt := 46) dX9_brides_25 (by decide) (ite_go h (fun hc h => ?_) (fun hc h => ?_))
  · refine rn_iinc (x := x2) (v := x2 + 1) (lv' := [(0, .ref 58), (1, .int x1), (2, .int (x2 + 1)), (3, .int x3)]) dX9_brides_46 (by simp) rfl (by decide) rfl rfl ?_
    refine rn_goto (tgt := 8) dX9_brides_49 (by decide) ?_
    refine Rn.sub (lv' := [(0, .ref 58), (1, .int x1), (2, .int (x2 + 1))]) (by simp) ?_
    exact h
  · refine rn_iload_n (i := 1) (x := x1) dX9_brides_28 rfl (by simp) ?_
    refine rn_aload_n (i := 0) (x := 58) dX9_brides_29 rfl (by simp) ?_
    refine rn_iload_n (i := 2) (x := x2) dX9_brides_30 rfl (by simp) ?_
    refine rn_iload_n (i := 3) (x := x3) dX9_brides_31 rfl (by simp) ?_
    refine rn_callVi (as := [.int x2, .int x3]) (st := [.int x1]) dX9_brides_32 mf_X9_canPop lk_X9_433 im_X9_canPop rfl rfl rfl rfl (Nat.le_of_ble_eq_true rfl) (Nat.le_of_ble_eq_true rfl) rfl (RI.mono h (fun r2 M1 h => ?_))
    refine rn_callSi (as := [.int r2]) (st := [.int x1]) dX9_brides_35 mf_X9_truth lk_X9_261 sm_X9_truth rfl (Nat.le_of_ble_eq_true rfl) (Nat.le_of_ble_eq_true rfl) rfl (RI.mono h (fun r4 M3 h => ?_))
    refine rn_iadd dX9_brides_38 ?_
    refine rn_istore_n (lv' := [(0, .ref 58), (1, .int (x1 + r4)), (2, .int x2), (3, .int x3)]) (hd := dX9_brides_39) (i := 1) (hi := rfl) (hn := by decide) (hf := rfl) (hl := rfl) ?_
    refine rn_iinc (x := x3) (v := x3 + 1) (lv' := [(0, .ref 58), (1, .int (x1 + r4)), (2, .int x2), (3, .int (x3 + 1))]) dX9_brides_40 (by simp) rfl (by decide) rfl rfl ?_
    refine rn_goto (tgt := 20) dX9_brides_43 (by decide) ?_
    exact h
theorem dX9_acres_0 : decode μX9_acres.2.1 0 = .ok (.aload_n 0, 1) := by decide +kernel
theorem dX9_acres_1 : decode μX9_acres.2.1 1 = .ok (.invokevirtual 424, 3) := by decide +kernel
theorem dX9_acres_4 : decode μX9_acres.2.1 4 = .ok (.aload_n 0, 1) := by decide +kernel
theorem dX9_acres_5 : decode μX9_acres.2.1 5 = .ok (.aload_n 0, 1) := by decide +kernel
theorem dX9_acres_6 : decode μX9_acres.2.1 6 = .ok (.getfield 45, 3) := by decide +kernel
theorem dX9_acres_9 : decode μX9_acres.2.1 9 = .ok (.bipush 13, 2) := by decide +kernel
theorem dX9_acres_11 : decode μX9_acres.2.1 11 = .ok (.iaload, 1) := by decide +kernel
theorem dX9_acres_12 : decode μX9_acres.2.1 12 = .ok (.invokevirtual 271, 3) := by decide +kernel
theorem dX9_acres_15 : decode μX9_acres.2.1 15 = .ok (.ireturn, 1) := by decide +kernel
set_option maxRecDepth 20000 in
theorem sg_X9_acres_0 {d : Nat}  {M : Mem} {K : (Int32 → Mem → Prop)}  (h : (CV d μX9_fill [.ref 58] M (fun M1 => (CI d μX9_sizesOf [.ref 58, .int (ri M1 69 (nx 13))] M1 (fun r3 M2 => K r3 M2))))) : CI (d + 1) μX9_acres [.ref 58] M K := by
  show Rn (d + 1) μX9_acres 0 [(0, .ref 58)] [] M _
  refine rn_aload_n (i := 0) (x := 58) dX9_acres_0 rfl (by simp) ?_
  refine rn_callVv (as := []) (st := []) dX9_acres_1 mf_X9_fill lk_X9_424 im_X9_fill rfl rfl rfl rfl (Nat.le_of_ble_eq_true rfl) (Nat.le_of_ble_eq_true rfl) rfl (RV.mono h (fun M1 h => ?_))
  refine rn_aload_n (i := 0) (x := 58) dX9_acres_4 rfl (by simp) ?_
  refine rn_aload_n (i := 0) (x := 58) dX9_acres_5 rfl (by simp) ?_
  refine rn_getr (t := 69) dX9_acres_6 rfl gf_X9_45 rfl rfl ?_
  refine rn_bipush (v := 13) dX9_acres_9 rfl ?_
  refine rn_iaload dX9_acres_11 rfl (by unfold vp_in; decide) ?_
  refine rn_callVi (as := [.int (ri M1 69 (nx 13))]) (st := []) dX9_acres_12 mf_X9_sizesOf lk_X9_271 im_X9_sizesOf rfl rfl rfl rfl (Nat.le_of_ble_eq_true rfl) (Nat.le_of_ble_eq_true rfl) rfl (RI.mono h (fun r3 M2 h => ?_))
  exact rn_iret dX9_acres_15 rfl ⟨_, rfl, h⟩
theorem dX9_law_0 : decode μX9_law.2.1 0 = .ok (.iload_n 1, 1) := by decide +kernel
theorem dX9_law_1 : decode μX9_law.2.1 1 = .ok (.iconst 0, 1) := by decide +kernel
theorem dX9_law_2 : decode μX9_law.2.1 2 = .ok (.sipush 999, 3) := by decide +kernel
theorem dX9_law_5 : decode μX9_law.2.1 5 = .ok (.invokestatic 420, 3) := by decide +kernel
theorem dX9_law_8 : decode μX9_law.2.1 8 = .ok (.ifCond .ne 5, 3) := by decide +kernel
theorem dX9_law_11 : decode μX9_law.2.1 11 = .ok (.iconst (-1), 1) := by decide +kernel
theorem dX9_law_12 : decode μX9_law.2.1 12 = .ok (.ireturn, 1) := by decide +kernel
theorem dX9_law_13 : decode μX9_law.2.1 13 = .ok (.aload_n 0, 1) := by decide +kernel
theorem dX9_law_14 : decode μX9_law.2.1 14 = .ok (.invokevirtual 424, 3) := by decide +kernel
theorem dX9_law_17 : decode μX9_law.2.1 17 = .ok (.iconst 0, 1) := by decide +kernel
theorem dX9_law_18 : decode μX9_law.2.1 18 = .ok (.istore_n 2, 1) := by decide +kernel
theorem dX9_law_19 : decode μX9_law.2.1 19 = .ok (.iload_n 2, 1) := by decide +kernel
theorem dX9_law_20 : decode μX9_law.2.1 20 = .ok (.aload_n 0, 1) := by decide +kernel
theorem dX9_law_21 : decode μX9_law.2.1 21 = .ok (.getfield 326, 3) := by decide +kernel
theorem dX9_law_24 : decode μX9_law.2.1 24 = .ok (.if_icmp .ge 31, 3) := by decide +kernel
theorem dX9_law_27 : decode μX9_law.2.1 27 = .ok (.aload_n 0, 1) := by decide +kernel
theorem dX9_law_28 : decode μX9_law.2.1 28 = .ok (.getfield 45, 3) := by decide +kernel
theorem dX9_law_31 : decode μX9_law.2.1 31 = .ok (.bipush 14, 2) := by decide +kernel
theorem dX9_law_33 : decode μX9_law.2.1 33 = .ok (.iload_n 2, 1) := by decide +kernel
theorem dX9_law_34 : decode μX9_law.2.1 34 = .ok (.iadd, 1) := by decide +kernel
theorem dX9_law_35 : decode μX9_law.2.1 35 = .ok (.aload_n 0, 1) := by decide +kernel
theorem dX9_law_36 : decode μX9_law.2.1 36 = .ok (.iload_n 2, 1) := by decide +kernel
theorem dX9_law_37 : decode μX9_law.2.1 37 = .ok (.invokevirtual 335, 3) := by decide +kernel
theorem dX9_law_40 : decode μX9_law.2.1 40 = .ok (.ifCond .eq 7, 3) := by decide +kernel
theorem dX9_law_43 : decode μX9_law.2.1 43 = .ok (.iload_n 1, 1) := by decide +kernel
theorem dX9_law_44 : decode μX9_law.2.1 44 = .ok (.goto 4, 3) := by decide +kernel
theorem dX9_law_47 : decode μX9_law.2.1 47 = .ok (.iconst 0, 1) := by decide +kernel
theorem dX9_law_48 : decode μX9_law.2.1 48 = .ok (.iastore, 1) := by decide +kernel
theorem dX9_law_49 : decode μX9_law.2.1 49 = .ok (.iinc 2 1, 3) := by decide +kernel
theorem dX9_law_52 : decode μX9_law.2.1 52 = .ok (.goto (-33), 3) := by decide +kernel
theorem dX9_law_55 : decode μX9_law.2.1 55 = .ok (.iconst 0, 1) := by decide +kernel
theorem dX9_law_56 : decode μX9_law.2.1 56 = .ok (.istore_n 2, 1) := by decide +kernel
theorem dX9_law_57 : decode μX9_law.2.1 57 = .ok (.iconst 0, 1) := by decide +kernel
theorem dX9_law_58 : decode μX9_law.2.1 58 = .ok (.istore_n 3, 1) := by decide +kernel
theorem dX9_law_59 : decode μX9_law.2.1 59 = .ok (.iload_n 3, 1) := by decide +kernel
theorem dX9_law_60 : decode μX9_law.2.1 60 = .ok (.aload_n 0, 1) := by decide +kernel
theorem dX9_law_61 : decode μX9_law.2.1 61 = .ok (.getfield 326, 3) := by decide +kernel
theorem dX9_law_64 : decode μX9_law.2.1 64 = .ok (.if_icmp .ge 36, 3) := by decide +kernel
theorem dX9_law_67 : decode μX9_law.2.1 67 = .ok (.iload_n 2, 1) := by decide +kernel
theorem dX9_law_68 : decode μX9_law.2.1 68 = .ok (.aload_n 0, 1) := by decide +kernel
theorem dX9_law_69 : decode μX9_law.2.1 69 = .ok (.iload_n 3, 1) := by decide +kernel
theorem dX9_law_70 : decode μX9_law.2.1 70 = .ok (.invokevirtual 335, 3) := by decide +kernel
theorem dX9_law_73 : decode μX9_law.2.1 73 = .ok (.ifCond .eq 15, 3) := by decide +kernel
theorem dX9_law_76 : decode μX9_law.2.1 76 = .ok (.aload_n 0, 1) := by decide +kernel
theorem dX9_law_77 : decode μX9_law.2.1 77 = .ok (.iload_n 3, 1) := by decide +kernel
theorem dX9_law_78 : decode μX9_law.2.1 78 = .ok (.invokevirtual 338, 3) := by decide +kernel
theorem dX9_law_81 : decode μX9_law.2.1 81 = .ok (.ifCond .le 7, 3) := by decide +kernel
theorem dX9_law_84 : decode μX9_law.2.1 84 = .ok (.iconst 1, 1) := by decide +kernel
theorem dX9_law_85 : decode μX9_law.2.1 85 = .ok (.goto 4, 3) := by decide +kernel
theorem dX9_law_88 : decode μX9_law.2.1 88 = .ok (.iconst 0, 1) := by decide +kernel
theorem dX9_law_89 : decode μX9_law.2.1 89 = .ok (.invokestatic 261, 3) := by decide +kernel
theorem dX9_law_92 : decode μX9_law.2.1 92 = .ok (.iadd, 1) := by decide +kernel
theorem dX9_law_93 : decode μX9_law.2.1 93 = .ok (.istore_n 2, 1) := by decide +kernel
theorem dX9_law_94 : decode μX9_law.2.1 94 = .ok (.iinc 3 1, 3) := by decide +kernel
theorem dX9_law_97 : decode μX9_law.2.1 97 = .ok (.goto (-38), 3) := by decide +kernel
theorem dX9_law_100 : decode μX9_law.2.1 100 = .ok (.iload_n 2, 1) := by decide +kernel
theorem dX9_law_101 : decode μX9_law.2.1 101 = .ok (.ireturn, 1) := by decide +kernel
set_option maxRecDepth 20000 in
theorem sg_X9_law_0 {d : Nat} {x1 : Int32} {M : Mem} {K : (Int32 → Mem → Prop)}  (h : (CI d μX9_isIn [.int x1, .int 0, .int 999] M (fun r2 M1 => (if r2 = 0 then K ((-1)) M1 else (CV d μX9_fill [.ref 58] M1 (fun M3 => RI (d + 1) μX9_law 19 [(0, .ref 58), (1, .int x1), (2, .int 0)] [] M3 K)))))) : CI (d + 1) μX9_law [.ref 58, .int x1] M K := by
  show Rn (d + 1) μX9_law 0 [(0, .ref 58), (1, .int x1)] [] M _
  refine rn_iload_n (i := 1) (x := x1) dX9_law_0 rfl (by simp) ?_
  refine rn_iconst (v := 0) dX9_law_1 rfl ?_
  refine rn_sipush (v := 999) dX9_law_2 rfl ?_
  refine rn_callSi (as := [.int x1, .int 0, .int 999]) (st := []) dX9_law_5 mf_X9_isIn lk_X9_420 sm_X9_isIn rfl (Nat.le_of_ble_eq_true rfl) (Nat.le_of_ble_eq_true rfl) rfl (RI.mono h (fun r2 M1 h => ?_))
  refine rn_if_ne (tgt := 13) dX9_law_8 (by decide) (ite_go h (fun hc h => ?_) (fun hc h => ?_))
  · refine rn_iconst (v := -1) dX9_law_11 rfl ?_
    exact rn_iret dX9_law_12 rfl ⟨_, rfl, h⟩
  · refine rn_aload_n (i := 0) (x := 58) dX9_law_13 rfl (by simp) ?_
    refine rn_callVv (as := []) (st := []) dX9_law_14 mf_X9_fill lk_X9_424 im_X9_fill rfl rfl rfl rfl (Nat.le_of_ble_eq_true rfl) (Nat.le_of_ble_eq_true rfl) rfl (RV.mono h (fun M3 h => ?_))
    refine rn_iconst (v := 0) dX9_law_17 rfl ?_
    refine rn_istore_n (lv' := [(0, .ref 58), (1, .int x1), (2, .int 0)]) (hd := dX9_law_18) (i := 2) (hi := rfl) (hn := by decide) (hf := rfl) (hl := rfl) ?_
    exact h
set_option maxRecDepth 20000 in
theorem sg_X9_law_19 {d : Nat} {x1 : Int32} {x2 : Int32} {M : Mem} {K : (Int32 → Mem → Prop)}  (h : (if ri M 58 35 ≤ x2 then RI (d + 1) μX9_law 59 [(0, .ref 58), (1, .int x1), (2, .int 0), (3, .int 0)] [] M K else (CI d μX9_isThere [.ref 58, .int x2] M (fun r2 M1 => (if r2 = 0 then (vp_in (14 + x2) 24 ∧ ∀ M3, M3 = wi M1 69 (nx (14 + x2)) 0 → RI (d + 1) μX9_law 19 [(0, .ref 58), (1, .int x1), (2, .int (x2 + 1))] [] M3 K) else (vp_in (14 + x2) 24 ∧ ∀ M4, M4 = wi M1 69 (nx (14 + x2)) x1 → RI (d + 1) μX9_law 19 [(0, .ref 58), (1, .int x1), (2, .int (x2 + 1))] [] M4 K)))))) : RI (d + 1) μX9_law 19 [(0, .ref 58), (1, .int x1), (2, .int x2)] [] M K := by
  show Rn (d + 1) μX9_law 19 [(0, .ref 58), (1, .int x1), (2, .int x2)] [] M _
  refine rn_iload_n (i := 2) (x := x2) dX9_law_19 rfl (by simp) ?_
  refine rn_aload_n (i := 0) (x := 58) dX9_law_20 rfl (by simp) ?_
  refine rn_geti dX9_law_21 rfl gf_X9_326 (by decide) ?_
  refine rn_icmp_ge (tgt := 55) dX9_law_24 (by decide) (ite_go h (fun hc h => ?_) (fun hc h => ?_))
  · refine rn_iconst (v := 0) dX9_law_55 rfl ?_
    refine rn_istore_n (lv' := [(0, .ref 58), (1, .int x1), (2, .int 0)]) (hd := dX9_law_56) (i := 2) (hi := rfl) (hn := by decide) (hf := rfl) (hl := rfl) ?_
    refine rn_iconst (v := 0) dX9_law_57 rfl ?_
    refine rn_istore_n (lv' := [(0, .ref 58), (1, .int x1), (2, .int 0), (3, .int 0)]) (hd := dX9_law_58) (i := 3) (hi := rfl) (hn := by decide) (hf := rfl) (hl := rfl) ?_
    exact h
  · refine rn_aload_n (i := 0) (x := 58) dX9_law_27 rfl (by simp) ?_
    refine rn_getr (t := 69) dX9_law_28 rfl gf_X9_45 rfl rfl ?_
    refine rn_bipush (v := 14) dX9_law_31 rfl ?_
    refine rn_iload_n (i := 2) (x := x2) dX9_law_33 rfl (by simp) ?_
    refine rn_iadd dX9_law_34 ?_
    refine rn_aload_n (i := 0) (x := 58) dX9_law_35 rfl (by simp) ?_
    refine rn_iload_n (i := 2) (x := x2) dX9_law_36 rfl (by simp) ?_
    refine rn_callVi (as := [.int x2]) (st := [.int (14 + x2), .ref 69]) dX9_law_37 mf_X9_isThere lk_X9_335 im_X9_isThere rfl rfl rfl rfl (Nat.le_of_ble_eq_true rfl) (Nat.le_of_ble_eq_true rfl) rfl (RI.mono h (fun r2 M1 h => ?_))
    refine rn_if_eq (tgt := 47) dX9_law_40 (by decide) (ite_go h (fun hc h => ?_) (fun hc h => ?_))
    · refine rn_iconst (v := 0) dX9_law_47 rfl ?_
      obtain ⟨hi, h⟩ := h
      have h := h _ rfl
      refine rn_iastore dX9_law_48 rfl hi ?_
      generalize wi M1 69 (nx (14 + x2)) 0 = M3 at h ⊢
      refine rn_iinc (x := x2) (v := x2 + 1) (lv' := [(0, .ref 58), (1, .int x1), (2, .int (x2 + 1))]) dX9_law_49 (by simp) rfl (by decide) rfl rfl ?_
      refine rn_goto (tgt := 19) dX9_law_52 (by decide) ?_
      exact h
    · refine rn_iload_n (i := 1) (x := x1) dX9_law_43 rfl (by simp) ?_
      refine rn_goto (tgt := 48) dX9_law_44 (by decide) ?_
      obtain ⟨hi, h⟩ := h
      have h := h _ rfl
      refine rn_iastore dX9_law_48 rfl hi ?_
      generalize wi M1 69 (nx (14 + x2)) x1 = M4 at h ⊢
      refine rn_iinc (x := x2) (v := x2 + 1) (lv' := [(0, .ref 58), (1, .int x1), (2, .int (x2 + 1))]) dX9_law_49 (by simp) rfl (by decide) rfl rfl ?_
      refine rn_goto (tgt := 19) dX9_law_52 (by decide) ?_
      exact h
set_option maxRecDepth 20000 in
theorem sg_X9_law_59 {d : Nat} {x1 : Int32} {x2 : Int32} {x3 : Int32} {M : Mem} {K : (Int32 → Mem → Prop)}  (h : (if ri M 58 35 ≤ x3 then K x2 M else (CI d μX9_isThere [.ref 58, .int x3] M (fun r2 M1 => (if r2 = 0 then (CI d μX9_truth [.int 0] M1 (fun r4 M3 => RI (d + 1) μX9_law 59 [(0, .ref 58), (1, .int x1), (2, .int (x2 + r4)), (3, .int (x3 + 1))] [] M3 K)) else (CI d μX9_growth [.ref 58, .int x3] M1 (fun r6 M5 => (if r6 ≤ 0 then (CI d μX9_truth [.int 0] M5 (fun r8 M7 => RI (d + 1) μX9_law 59 [(0, .ref 58), (1, .int x1), (2, .int (x2 + r8)), (3, .int (x3 + 1))] [] M7 K)) else (CI d μX9_truth [.int 1] M5 (fun r10 M9 => RI (d + 1) μX9_law 59 [(0, .ref 58), (1, .int x1), (2, .int (x2 + r10)), (3, .int (x3 + 1))] [] M9 K)))))))))) : RI (d + 1) μX9_law 59 [(0, .ref 58), (1, .int x1), (2, .int x2), (3, .int x3)] [] M K := by
  show Rn (d + 1) μX9_law 59 [(0, .ref 58), (1, .int x1), (2, .int x2), (3, .int x3)] [] M _
  refine rn_iload_n (i := 3) (x := x3) dX9_law_59 rfl (by simp) ?_
  refine rn_aload_n (i := 0) (x := 58) dX9_law_60 rfl (by simp) ?_
  refine rn_geti dX9_law_61 rfl gf_X9_326 (by decide) ?_
  refine rn_icmp_ge (tgt := 100) dX9_law_64 (by decide) (ite_go h (fun hc h => ?_) (fun hc h => ?_))
  · refine rn_iload_n (i := 2) (x := x2) dX9_law_100 rfl (by simp) ?_
    exact rn_iret dX9_law_101 rfl ⟨_, rfl, h⟩
  · refine rn_iload_n (i := 2) (x := x2) dX9_law_67 rfl (by simp) ?_
    refine rn_aload_n (i := 0) (x := 58) dX9_law_68 rfl (by simp) ?_
    refine rn_iload_n (i := 3) (x := x3) dX9_law_69 rfl (by simp) ?_
    refine rn_callVi (as := [.int x3]) (st := [.int x2]) dX9_law_70 mf_X9_isThere lk_X9_335 im_X9_isThere rfl rfl rfl rfl (Nat.le_of_ble_eq_true rfl) (Nat.le_of_ble_eq_true rfl) rfl (RI.mono h (fun r2 M1 h => ?_))
    refine rn_if_eq (tgt := 88) dX9_law_73 (by decide) (ite_go h (fun hc h => ?_) (fun hc h => ?_))
    · refine rn_iconst (v := 0) dX9_law_88 rfl ?_
      refine rn_callSi (as := [.int 0]) (st := [.int x2]) dX9_law_89 mf_X9_truth lk_X9_261 sm_X9_truth rfl (Nat.le_of_ble_eq_true rfl) (Nat.le_of_ble_eq_true rfl) rfl (RI.mono h (fun r4 M3 h => ?_))
      refine rn_iadd dX9_law_92 ?_
      refine rn_istore_n (lv' := [(0, .ref 58), (1, .int x1), (2, .int (x2 + r4)), (3, .int x3)]) (hd := dX9_law_93) (i := 2) (hi := rfl) (hn := by decide) (hf := rfl) (hl := rfl) ?_
      refine rn_iinc (x := x3) (v := x3 + 1) (lv' := [(0, .ref 58), (1, .int x1), (2, .int (x2 + r4)), (3, .int (x3 + 1))]) dX9_law_94 (by simp) rfl (by decide) rfl rfl ?_
      refine rn_goto (tgt := 59) dX9_law_97 (by decide) ?_
      exact h
    · refine rn_aload_n (i := 0) (x := 58) dX9_law_76 rfl (by simp) ?_
      refine rn_iload_n (i := 3) (x := x3) dX9_law_77 rfl (by simp) ?_
      refine rn_callVi (as := [.int x3]) (st := [.int x2]) dX9_law_78 mf_X9_growth lk_X9_338 im_X9_growth rfl rfl rfl rfl (Nat.le_of_ble_eq_true rfl) (Nat.le_of_ble_eq_true rfl) rfl (RI.mono h (fun r6 M5 h => ?_))
      refine rn_if_le (tgt := 88) dX9_law_81 (by decide) (ite_go h (fun hc h => ?_) (fun hc h => ?_))
      · refine rn_iconst (v := 0) dX9_law_88 rfl ?_
        refine rn_callSi (as := [.int 0]) (st := [.int x2]) dX9_law_89 mf_X9_truth lk_X9_261 sm_X9_truth rfl (Nat.le_of_ble_eq_true rfl) (Nat.le_of_ble_eq_true rfl) rfl (RI.mono h (fun r8 M7 h => ?_))
        refine rn_iadd dX9_law_92 ?_
        refine rn_istore_n (lv' := [(0, .ref 58), (1, .int x1), (2, .int (x2 + r8)), (3, .int x3)]) (hd := dX9_law_93) (i := 2) (hi := rfl) (hn := by decide) (hf := rfl) (hl := rfl) ?_
        refine rn_iinc (x := x3) (v := x3 + 1) (lv' := [(0, .ref 58), (1, .int x1), (2, .int (x2 + r8)), (3, .int (x3 + 1))]) dX9_law_94 (by simp) rfl (by decide) rfl rfl ?_
        refine rn_goto (tgt := 59) dX9_law_97 (by decide) ?_
        exact h
      · refine rn_iconst (v := 1) dX9_law_84 rfl ?_
        refine rn_goto (tgt := 89) dX9_law_85 (by decide) ?_
        refine rn_callSi (as := [.int 1]) (st := [.int x2]) dX9_law_89 mf_X9_truth lk_X9_261 sm_X9_truth rfl (Nat.le_of_ble_eq_true rfl) (Nat.le_of_ble_eq_true rfl) rfl (RI.mono h (fun r10 M9 h => ?_))
        refine rn_iadd dX9_law_92 ?_
        refine rn_istore_n (lv' := [(0, .ref 58), (1, .int x1), (2, .int (x2 + r10)), (3, .int x3)]) (hd := dX9_law_93) (i := 2) (hi := rfl) (hn := by decide) (hf := rfl) (hl := rfl) ?_
        refine rn_iinc (x := x3) (v := x3 + 1) (lv' := [(0, .ref 58), (1, .int x1), (2, .int (x2 + r10)), (3, .int (x3 + 1))]) dX9_law_94 (by simp) rfl (by decide) rfl rfl ?_
        refine rn_goto (tgt := 59) dX9_law_97 (by decide) ?_
        exact h
theorem dX9_aunts_0 : decode μX9_aunts.2.1 0 = .ok (.iload_n 1, 1) := by decide +kernel
theorem dX9_aunts_1 : decode μX9_aunts.2.1 1 = .ok (.iload_n 2, 1) := by decide +kernel
theorem dX9_aunts_2 : decode μX9_aunts.2.1 2 = .ok (.if_icmp .eq 36, 3) := by decide +kernel
theorem dX9_aunts_5 : decode μX9_aunts.2.1 5 = .ok (.aload_n 0, 1) := by decide +kernel
theorem dX9_aunts_6 : decode μX9_aunts.2.1 6 = .ok (.iload_n 1, 1) := by decide +kernel
theorem dX9_aunts_7 : decode μX9_aunts.2.1 7 = .ok (.invokevirtual 430, 3) := by decide +kernel
theorem dX9_aunts_10 : decode μX9_aunts.2.1 10 = .ok (.ifCond .eq 28, 3) := by decide +kernel
theorem dX9_aunts_13 : decode μX9_aunts.2.1 13 = .ok (.aload_n 0, 1) := by decide +kernel
theorem dX9_aunts_14 : decode μX9_aunts.2.1 14 = .ok (.iload_n 2, 1) := by decide +kernel
theorem dX9_aunts_15 : decode μX9_aunts.2.1 15 = .ok (.invokevirtual 430, 3) := by decide +kernel
theorem dX9_aunts_18 : decode μX9_aunts.2.1 18 = .ok (.ifCond .eq 20, 3) := by decide +kernel
theorem dX9_aunts_21 : decode μX9_aunts.2.1 21 = .ok (.aload_n 0, 1) := by decide +kernel
theorem dX9_aunts_22 : decode μX9_aunts.2.1 22 = .ok (.iload_n 1, 1) := by decide +kernel
theorem dX9_aunts_23 : decode μX9_aunts.2.1 23 = .ok (.invokevirtual 268, 3) := by decide +kernel
theorem dX9_aunts_26 : decode μX9_aunts.2.1 26 = .ok (.aload_n 0, 1) := by decide +kernel
theorem dX9_aunts_27 : decode μX9_aunts.2.1 27 = .ok (.iload_n 2, 1) := by decide +kernel
theorem dX9_aunts_28 : decode μX9_aunts.2.1 28 = .ok (.invokevirtual 268, 3) := by decide +kernel
theorem dX9_aunts_31 : decode μX9_aunts.2.1 31 = .ok (.iand, 1) := by decide +kernel
theorem dX9_aunts_32 : decode μX9_aunts.2.1 32 = .ok (.invokestatic 274, 3) := by decide +kernel
theorem dX9_aunts_35 : decode μX9_aunts.2.1 35 = .ok (.goto 4, 3) := by decide +kernel
theorem dX9_aunts_38 : decode μX9_aunts.2.1 38 = .ok (.iconst (-1), 1) := by decide +kernel
theorem dX9_aunts_39 : decode μX9_aunts.2.1 39 = .ok (.ireturn, 1) := by decide +kernel
set_option maxRecDepth 20000 in
theorem sg_X9_aunts_0 {d : Nat} {x1 : Int32} {x2 : Int32} {M : Mem} {K : (Int32 → Mem → Prop)}  (h : (if x1 = x2 then K ((-1)) M else (CI d μX9_isThereNow [.ref 58, .int x1] M (fun r2 M1 => (if r2 = 0 then K ((-1)) M1 else (CI d μX9_isThereNow [.ref 58, .int x2] M1 (fun r4 M3 => (if r4 = 0 then K ((-1)) M3 else (CI d μX9_bordersOf [.ref 58, .int x1] M3 (fun r6 M5 => (CI d μX9_bordersOf [.ref 58, .int x2] M5 (fun r8 M7 => (CI d μX9_members [.int (r6 &&& r8)] M7 (fun r10 M9 => K r10 M9)))))))))))))) : CI (d + 1) μX9_aunts [.ref 58, .int x1, .int x2] M K := by
  show Rn (d + 1) μX9_aunts 0 [(0, .ref 58), (1, .int x1), (2, .int x2)] [] M _
  refine rn_iload_n (i := 1) (x := x1) dX9_aunts_0 rfl (by simp) ?_
  refine rn_iload_n (i := 2) (x := x2) dX9_aunts_1 rfl (by simp) ?_
  refine rn_icmp_eq (tgt := 38) dX9_aunts_2 (by decide) (ite_go h (fun hc h => ?_) (fun hc h => ?_))
  · refine rn_iconst (v := -1) dX9_aunts_38 rfl ?_
    exact rn_iret dX9_aunts_39 rfl ⟨_, rfl, h⟩
  · refine rn_aload_n (i := 0) (x := 58) dX9_aunts_5 rfl (by simp) ?_
    refine rn_iload_n (i := 1) (x := x1) dX9_aunts_6 rfl (by simp) ?_
    refine rn_callVi (as := [.int x1]) (st := []) dX9_aunts_7 mf_X9_isThereNow lk_X9_430 im_X9_isThereNow rfl rfl rfl rfl (Nat.le_of_ble_eq_true rfl) (Nat.le_of_ble_eq_true rfl) rfl (RI.mono h (fun r2 M1 h => ?_))
    refine rn_if_eq (tgt := 38) dX9_aunts_10 (by decide) (ite_go h (fun hc h => ?_) (fun hc h => ?_))
    · refine rn_iconst (v := -1) dX9_aunts_38 rfl ?_
      exact rn_iret dX9_aunts_39 rfl ⟨_, rfl, h⟩
    · refine rn_aload_n (i := 0) (x := 58) dX9_aunts_13 rfl (by simp) ?_
      refine rn_iload_n (i := 2) (x := x2) dX9_aunts_14 rfl (by simp) ?_
      refine rn_callVi (as := [.int x2]) (st := []) dX9_aunts_15 mf_X9_isThereNow lk_X9_430 im_X9_isThereNow rfl rfl rfl rfl (Nat.le_of_ble_eq_true rfl) (Nat.le_of_ble_eq_true rfl) rfl (RI.mono h (fun r4 M3 h => ?_))
      refine rn_if_eq (tgt := 38) dX9_aunts_18 (by decide) (ite_go h (fun hc h => ?_) (fun hc h => ?_))
      · refine rn_iconst (v := -1) dX9_aunts_38 rfl ?_
        exact rn_iret dX9_aunts_39 rfl ⟨_, rfl, h⟩
      · refine rn_aload_n (i := 0) (x := 58) dX9_aunts_21 rfl (by simp) ?_
        refine rn_iload_n (i := 1) (x := x1) dX9_aunts_22 rfl (by simp) ?_
        refine rn_callVi (as := [.int x1]) (st := []) dX9_aunts_23 mf_X9_bordersOf lk_X9_268 im_X9_bordersOf rfl rfl rfl rfl (Nat.le_of_ble_eq_true rfl) (Nat.le_of_ble_eq_true rfl) rfl (RI.mono h (fun r6 M5 h => ?_))
        refine rn_aload_n (i := 0) (x := 58) dX9_aunts_26 rfl (by simp) ?_
        refine rn_iload_n (i := 2) (x := x2) dX9_aunts_27 rfl (by simp) ?_
        refine rn_callVi (as := [.int x2]) (st := [.int r6]) dX9_aunts_28 mf_X9_bordersOf lk_X9_268 im_X9_bordersOf rfl rfl rfl rfl (Nat.le_of_ble_eq_true rfl) (Nat.le_of_ble_eq_true rfl) rfl (RI.mono h (fun r8 M7 h => ?_))
        refine rn_iand dX9_aunts_31 ?_
        refine rn_callSi (as := [.int (r6 &&& r8)]) (st := []) dX9_aunts_32 mf_X9_members lk_X9_274 sm_X9_members rfl (Nat.le_of_ble_eq_true rfl) (Nat.le_of_ble_eq_true rfl) rfl (RI.mono h (fun r10 M9 h => ?_))
        refine rn_goto (tgt := 39) dX9_aunts_35 (by decide) ?_
        exact rn_iret dX9_aunts_39 rfl ⟨_, rfl, h⟩
theorem dX9_walls_0 : decode μX9_walls.2.1 0 = .ok (.aload_n 0, 1) := by decide +kernel
theorem dX9_walls_1 : decode μX9_walls.2.1 1 = .ok (.invokevirtual 424, 3) := by decide +kernel
theorem dX9_walls_4 : decode μX9_walls.2.1 4 = .ok (.iconst 0, 1) := by decide +kernel
theorem dX9_walls_5 : decode μX9_walls.2.1 5 = .ok (.istore_n 1, 1) := by decide +kernel
theorem dX9_walls_6 : decode μX9_walls.2.1 6 = .ok (.iconst 0, 1) := by decide +kernel
theorem dX9_walls_7 : decode μX9_walls.2.1 7 = .ok (.istore_n 2, 1) := by decide +kernel
theorem dX9_walls_8 : decode μX9_walls.2.1 8 = .ok (.iload_n 2, 1) := by decide +kernel
theorem dX9_walls_9 : decode μX9_walls.2.1 9 = .ok (.aload_n 0, 1) := by decide +kernel
theorem dX9_walls_10 : decode μX9_walls.2.1 10 = .ok (.getfield 326, 3) := by decide +kernel
theorem dX9_walls_13 : decode μX9_walls.2.1 13 = .ok (.if_icmp .ge 20, 3) := by decide +kernel
theorem dX9_walls_16 : decode μX9_walls.2.1 16 = .ok (.iload_n 1, 1) := by decide +kernel
theorem dX9_walls_17 : decode μX9_walls.2.1 17 = .ok (.aload_n 0, 1) := by decide +kernel
theorem dX9_walls_18 : decode μX9_walls.2.1 18 = .ok (.iload_n 2, 1) := by decide +kernel
theorem dX9_walls_19 : decode μX9_walls.2.1 19 = .ok (.invokevirtual 268, 3) := by decide +kernel
theorem dX9_walls_22 : decode μX9_walls.2.1 22 = .ok (.invokestatic 274, 3) := by decide +kernel
theorem dX9_walls_25 : decode μX9_walls.2.1 25 = .ok (.iadd, 1) := by decide +kernel
theorem dX9_walls_26 : decode μX9_walls.2.1 26 = .ok (.istore_n 1, 1) := by decide +kernel
theorem dX9_walls_27 : decode μX9_walls.2.1 27 = .ok (.iinc 2 1, 3) := by decide +kernel
theorem dX9_walls_30 : decode μX9_walls.2.1 30 = .ok (.goto (-22), 3) := by decide +kernel
theorem dX9_walls_33 : decode μX9_walls.2.1 33 = .ok (.iload_n 1, 1) := by decide +kernel
theorem dX9_walls_34 : decode μX9_walls.2.1 34 = .ok (.iconst 2, 1) := by decide +kernel
theorem dX9_walls_35 : decode μX9_walls.2.1 35 = .ok (.idiv, 1) := by decide +kernel
theorem dX9_walls_36 : decode μX9_walls.2.1 36 = .ok (.ireturn, 1) := by decide +kernel
set_option maxRecDepth 20000 in
theorem sg_X9_walls_0 {d : Nat}  {M : Mem} {K : (Int32 → Mem → Prop)}  (h : (CV d μX9_fill [.ref 58] M (fun M1 => RI (d + 1) μX9_walls 8 [(0, .ref 58), (1, .int 0), (2, .int 0)] [] M1 K))) : CI (d + 1) μX9_walls [.ref 58] M K := by
  show Rn (d + 1) μX9_walls 0 [(0, .ref 58)] [] M _
  refine rn_aload_n (i := 0) (x := 58) dX9_walls_0 rfl (by simp) ?_
  refine rn_callVv (as := []) (st := []) dX9_walls_1 mf_X9_fill lk_X9_424 im_X9_fill rfl rfl rfl rfl (Nat.le_of_ble_eq_true rfl) (Nat.le_of_ble_eq_true rfl) rfl (RV.mono h (fun M1 h => ?_))
  refine rn_iconst (v := 0) dX9_walls_4 rfl ?_
  refine rn_istore_n (lv' := [(0, .ref 58), (1, .int 0)]) (hd := dX9_walls_5) (i := 1) (hi := rfl) (hn := by decide) (hf := rfl) (hl := rfl) ?_
  refine rn_iconst (v := 0) dX9_walls_6 rfl ?_
  refine rn_istore_n (lv' := [(0, .ref 58), (1, .int 0), (2, .int 0)]) (hd := dX9_walls_7) (i := 2) (hi := rfl) (hn := by decide) (hf := rfl) (hl := rfl) ?_
  exact h
set_option maxRecDepth 20000 in
theorem sg_X9_walls_8 {d : Nat} {x1 : Int32} {x2 : Int32} {M : Mem} {K : (Int32 → Mem → Prop)}  (h : (if ri M 58 35 ≤ x2 then K (x1 / 2) M else (CI d μX9_bordersOf [.ref 58, .int x2] M (fun r2 M1 => (CI d μX9_members [.int r2] M1 (fun r4 M3 => RI (d + 1) μX9_walls 8 [(0, .ref 58), (1, .int (x1 + r4)), (2, .int (x2 + 1))] [] M3 K)))))) : RI (d + 1) μX9_walls 8 [(0, .ref 58), (1, .int x1), (2, .int x2)] [] M K := by
  show Rn (d + 1) μX9_walls 8 [(0, .ref 58), (1, .int x1), (2, .int x2)] [] M _
  refine rn_iload_n (i := 2) (x := x2) dX9_walls_8 rfl (by simp) ?_
  refine rn_aload_n (i := 0) (x := 58) dX9_walls_9 rfl (by simp) ?_
  refine rn_geti dX9_walls_10 rfl gf_X9_326 (by decide) ?_
  refine rn_icmp_ge (tgt := 33) dX9_walls_13 (by decide) (ite_go h (fun hc h => ?_) (fun hc h => ?_))
  · refine rn_iload_n (i := 1) (x := x1) dX9_walls_33 rfl (by simp) ?_
    refine rn_iconst (v := 2) dX9_walls_34 rfl ?_
    refine rn_idiv dX9_walls_35 (by decide) ?_
    exact rn_iret dX9_walls_36 rfl ⟨_, rfl, h⟩
  · refine rn_iload_n (i := 1) (x := x1) dX9_walls_16 rfl (by simp) ?_
    refine rn_aload_n (i := 0) (x := 58) dX9_walls_17 rfl (by simp) ?_
    refine rn_iload_n (i := 2) (x := x2) dX9_walls_18 rfl (by simp) ?_
    refine rn_callVi (as := [.int x2]) (st := [.int x1]) dX9_walls_19 mf_X9_bordersOf lk_X9_268 im_X9_bordersOf rfl rfl rfl rfl (Nat.le_of_ble_eq_true rfl) (Nat.le_of_ble_eq_true rfl) rfl (RI.mono h (fun r2 M1 h => ?_))
    refine rn_callSi (as := [.int r2]) (st := [.int x1]) dX9_walls_22 mf_X9_members lk_X9_274 sm_X9_members rfl (Nat.le_of_ble_eq_true rfl) (Nat.le_of_ble_eq_true rfl) rfl (RI.mono h (fun r4 M3 h => ?_))
    refine rn_iadd dX9_walls_25 ?_
    refine rn_istore_n (lv' := [(0, .ref 58), (1, .int (x1 + r4)), (2, .int x2)]) (hd := dX9_walls_26) (i := 1) (hi := rfl) (hn := by decide) (hf := rfl) (hl := rfl) ?_
    refine rn_iinc (x := x2) (v := x2 + 1) (lv' := [(0, .ref 58), (1, .int (x1 + r4)), (2, .int (x2 + 1))]) dX9_walls_27 (by simp) rfl (by decide) rfl rfl ?_
    refine rn_goto (tgt := 8) dX9_walls_30 (by decide) ?_
    exact h
theorem dX9_divisor_0 : decode μX9_divisor.2.1 0 = .ok (.iload_n 0, 1) := by decide +kernel
theorem dX9_divisor_1 : decode μX9_divisor.2.1 1 = .ok (.istore_n 2, 1) := by decide +kernel
theorem dX9_divisor_2 : decode μX9_divisor.2.1 2 = .ok (.iload_n 1, 1) := by decide +kernel
theorem dX9_divisor_3 : decode μX9_divisor.2.1 3 = .ok (.istore_n 3, 1) := by decide +kernel
theorem dX9_divisor_4 : decode μX9_divisor.2.1 4 = .ok (.iload_n 3, 1) := by decide +kernel
theorem dX9_divisor_5 : decode μX9_divisor.2.1 5 = .ok (.ifCond .le 16, 3) := by decide +kernel
theorem dX9_divisor_8 : decode μX9_divisor.2.1 8 = .ok (.iload_n 2, 1) := by decide +kernel
theorem dX9_divisor_9 : decode μX9_divisor.2.1 9 = .ok (.iload_n 3, 1) := by decide +kernel
theorem dX9_divisor_10 : decode μX9_divisor.2.1 10 = .ok (.irem, 1) := by decide +kernel
theorem dX9_divisor_11 : decode μX9_divisor.2.1 11 = .ok (.istore 4, 2) := by decide +kernel
theorem dX9_divisor_13 : decode μX9_divisor.2.1 13 = .ok (.iload_n 3, 1) := by decide +kernel
theorem dX9_divisor_14 : decode μX9_divisor.2.1 14 = .ok (.istore_n 2, 1) := by decide +kernel
theorem dX9_divisor_15 : decode μX9_divisor.2.1 15 = .ok (.iload 4, 2) := by decide +kernel
theorem dX9_divisor_17 : decode μX9_divisor.2.1 17 = .ok (.istore_n 3, 1) := by decide +kernel
theorem dX9_divisor_18 : decode μX9_divisor.2.1 18 = .ok (.goto (-14), 3) := by decide +kernel
theorem dX9_divisor_21 : decode μX9_divisor.2.1 21 = .ok (.iload_n 2, 1) := by decide +kernel
theorem dX9_divisor_22 : decode μX9_divisor.2.1 22 = .ok (.ireturn, 1) := by decide +kernel
set_option maxRecDepth 20000 in
theorem sg_X9_divisor_0 {d : Nat} {x0 : Int32} {x1 : Int32} {M : Mem} {K : (Int32 → Mem → Prop)}  (h : RI d μX9_divisor 4 [(0, .int x0), (1, .int x1), (2, .int x0), (3, .int x1)] [] M K) : CI d μX9_divisor [.int x0, .int x1] M K := by
  show Rn d μX9_divisor 0 [(0, .int x0), (1, .int x1)] [] M _
  refine rn_iload_n (i := 0) (x := x0) dX9_divisor_0 rfl (by simp) ?_
  refine rn_istore_n (lv' := [(0, .int x0), (1, .int x1), (2, .int x0)]) (hd := dX9_divisor_1) (i := 2) (hi := rfl) (hn := by decide) (hf := rfl) (hl := rfl) ?_
  refine rn_iload_n (i := 1) (x := x1) dX9_divisor_2 rfl (by simp) ?_
  refine rn_istore_n (lv' := [(0, .int x0), (1, .int x1), (2, .int x0), (3, .int x1)]) (hd := dX9_divisor_3) (i := 3) (hi := rfl) (hn := by decide) (hf := rfl) (hl := rfl) ?_
  exact h
set_option maxRecDepth 20000 in
theorem sg_X9_divisor_4 {d : Nat} {x0 : Int32} {x1 : Int32} {x2 : Int32} {x3 : Int32} {M : Mem} {K : (Int32 → Mem → Prop)}  (h : (if x3 ≤ 0 then K x2 M else (¬ x3 = 0 ∧ RI d μX9_divisor 4 [(0, .int x0), (1, .int x1), (2, .int x3), (3, .int (x2 - x2 / x3 * x3))] [] M K))) : RI d μX9_divisor 4 [(0, .int x0), (1, .int x1), (2, .int x2), (3, .int x3)] [] M K := by
  show Rn d μX9_divisor 4 [(0, .int x0), (1, .int x1), (2, .int x2), (3, .int x3)] [] M _
  refine rn_iload_n (i := 3) (x := x3) dX9_divisor_4 rfl (by simp) ?_
  refine rn_if_le (tgt := 21) dX9_divisor_5 (by decide) (ite_go h (fun hc h => ?_) (fun hc h => ?_))
  · refine rn_iload_n (i := 2) (x := x2) dX9_divisor_21 rfl (by simp) ?_
    exact rn_iret dX9_divisor_22 rfl ⟨_, rfl, h⟩
  · refine rn_iload_n (i := 2) (x := x2) dX9_divisor_8 rfl (by simp) ?_
    refine rn_iload_n (i := 3) (x := x3) dX9_divisor_9 rfl (by simp) ?_
    obtain ⟨hne, h⟩ := h
    refine rn_irem dX9_divisor_10 hne ?_
    refine rn_istore (lv' := [(0, .int x0), (1, .int x1), (2, .int x2), (3, .int x3), (4, .int (x2 - x2 / x3 * x3))]) (hd := dX9_divisor_11) (hn := by decide) (hf := rfl) (hl := rfl) ?_
    refine rn_iload_n (i := 3) (x := x3) dX9_divisor_13 rfl (by simp) ?_
    refine rn_istore_n (lv' := [(0, .int x0), (1, .int x1), (2, .int x3), (3, .int x3), (4, .int (x2 - x2 / x3 * x3))]) (hd := dX9_divisor_14) (i := 2) (hi := rfl) (hn := by decide) (hf := rfl) (hl := rfl) ?_
    refine rn_iload (x := x2 - x2 / x3 * x3) dX9_divisor_15 (by simp) ?_
    refine rn_istore_n (lv' := [(0, .int x0), (1, .int x1), (2, .int x3), (3, .int (x2 - x2 / x3 * x3)), (4, .int (x2 - x2 / x3 * x3))]) (hd := dX9_divisor_17) (i := 3) (hi := rfl) (hn := by decide) (hf := rfl) (hl := rfl) ?_
    refine rn_goto (tgt := 4) dX9_divisor_18 (by decide) ?_
    refine Rn.sub (lv' := [(0, .int x0), (1, .int x1), (2, .int x3), (3, .int (x2 - x2 / x3 * x3))]) (by simp) ?_
    exact h
theorem dX9_odds_0 : decode μX9_odds.2.1 0 = .ok (.iload_n 1, 1) := by decide +kernel
theorem dX9_odds_1 : decode μX9_odds.2.1 1 = .ok (.iconst 0, 1) := by decide +kernel
theorem dX9_odds_2 : decode μX9_odds.2.1 2 = .ok (.iconst 4, 1) := by decide +kernel
theorem dX9_odds_3 : decode μX9_odds.2.1 3 = .ok (.invokestatic 420, 3) := by decide +kernel
theorem dX9_odds_6 : decode μX9_odds.2.1 6 = .ok (.ifCond .eq 12, 3) := by decide +kernel
theorem dX9_odds_9 : decode μX9_odds.2.1 9 = .ok (.iload_n 2, 1) := by decide +kernel
theorem dX9_odds_10 : decode μX9_odds.2.1 10 = .ok (.iconst 0, 1) := by decide +kernel
theorem dX9_odds_11 : decode μX9_odds.2.1 11 = .ok (.iconst 1, 1) := by decide +kernel
theorem dX9_odds_12 : decode μX9_odds.2.1 12 = .ok (.invokestatic 420, 3) := by decide +kernel
theorem dX9_odds_15 : decode μX9_odds.2.1 15 = .ok (.ifCond .ne 5, 3) := by decide +kernel
theorem dX9_odds_18 : decode μX9_odds.2.1 18 = .ok (.iconst (-1), 1) := by decide +kernel
theorem dX9_odds_19 : decode μX9_odds.2.1 19 = .ok (.ireturn, 1) := by decide +kernel
theorem dX9_odds_20 : decode μX9_odds.2.1 20 = .ok (.bipush 100, 2) := by decide +kernel
theorem dX9_odds_22 : decode μX9_odds.2.1 22 = .ok (.aload_n 0, 1) := by decide +kernel
theorem dX9_odds_23 : decode μX9_odds.2.1 23 = .ok (.getfield 353, 3) := by decide +kernel
theorem dX9_odds_26 : decode μX9_odds.2.1 26 = .ok (.isub, 1) := by decide +kernel
theorem dX9_odds_27 : decode μX9_odds.2.1 27 = .ok (.iload_n 1, 1) := by decide +kernel
theorem dX9_odds_28 : decode μX9_odds.2.1 28 = .ok (.invokestatic 459, 3) := by decide +kernel
theorem dX9_odds_31 : decode μX9_odds.2.1 31 = .ok (.istore_n 3, 1) := by decide +kernel
theorem dX9_odds_32 : decode μX9_odds.2.1 32 = .ok (.bipush 100, 2) := by decide +kernel
theorem dX9_odds_34 : decode μX9_odds.2.1 34 = .ok (.iload_n 1, 1) := by decide +kernel
theorem dX9_odds_35 : decode μX9_odds.2.1 35 = .ok (.invokestatic 459, 3) := by decide +kernel
theorem dX9_odds_38 : decode μX9_odds.2.1 38 = .ok (.istore 4, 2) := by decide +kernel
theorem dX9_odds_40 : decode μX9_odds.2.1 40 = .ok (.iload 4, 2) := by decide +kernel
theorem dX9_odds_42 : decode μX9_odds.2.1 42 = .ok (.iload_n 3, 1) := by decide +kernel
theorem dX9_odds_43 : decode μX9_odds.2.1 43 = .ok (.invokestatic 495, 3) := by decide +kernel
theorem dX9_odds_46 : decode μX9_odds.2.1 46 = .ok (.istore 5, 2) := by decide +kernel
theorem dX9_odds_48 : decode μX9_odds.2.1 48 = .ok (.iload_n 2, 1) := by decide +kernel
theorem dX9_odds_49 : decode μX9_odds.2.1 49 = .ok (.ifCond .ne 10, 3) := by decide +kernel
theorem dX9_odds_52 : decode μX9_odds.2.1 52 = .ok (.iload_n 3, 1) := by decide +kernel
theorem dX9_odds_53 : decode μX9_odds.2.1 53 = .ok (.iload 5, 2) := by decide +kernel
theorem dX9_odds_55 : decode μX9_odds.2.1 55 = .ok (.idiv, 1) := by decide +kernel
theorem dX9_odds_56 : decode μX9_odds.2.1 56 = .ok (.goto 8, 3) := by decide +kernel
theorem dX9_odds_59 : decode μX9_odds.2.1 59 = .ok (.iload 4, 2) := by decide +kernel
theorem dX9_odds_61 : decode μX9_odds.2.1 61 = .ok (.iload 5, 2) := by decide +kernel
theorem dX9_odds_63 : decode μX9_odds.2.1 63 = .ok (.idiv, 1) := by decide +kernel
theorem dX9_odds_64 : decode μX9_odds.2.1 64 = .ok (.ireturn, 1) := by decide +kernel
set_option maxRecDepth 20000 in
theorem sg_X9_odds_0 {d : Nat} {x1 : Int32} {x2 : Int32} {M : Mem} {K : (Int32 → Mem → Prop)}  (h : (CI d μX9_isIn [.int x1, .int 0, .int 4] M (fun r2 M1 => (if r2 = 0 then K ((-1)) M1 else (CI d μX9_isIn [.int x2, .int 0, .int 1] M1 (fun r4 M3 => (if r4 = 0 then K ((-1)) M3 else (CI d μX9_power [.int (100 - (ri M3 58 36)), .int x1] M3 (fun r6 M5 => (CI d μX9_power [.int 100, .int x1] M5 (fun r8 M7 => (CI d μX9_divisor [.int r8, .int r6] M7 (fun r10 M9 => (if x2 = 0 then (¬ r10 = 0 ∧ K (r6 / r10) M9) else (¬ r10 = 0 ∧ K (r8 / r10) M9))))))))))))))) : CI (d + 1) μX9_odds [.ref 58, .int x1, .int x2] M K := by
  show Rn (d + 1) μX9_odds 0 [(0, .ref 58), (1, .int x1), (2, .int x2)] [] M _
  refine rn_iload_n (i := 1) (x := x1) dX9_odds_0 rfl (by simp) ?_
  refine rn_iconst (v := 0) dX9_odds_1 rfl ?_
  refine rn_iconst (v := 4) dX9_odds_2 rfl ?_
  refine rn_callSi (as := [.int x1, .int 0, .int 4]) (st := []) dX9_odds_3 mf_X9_isIn lk_X9_420 sm_X9_isIn rfl (Nat.le_of_ble_eq_true rfl) (Nat.le_of_ble_eq_true rfl) rfl (RI.mono h (fun r2 M1 h => ?_))
  refine rn_if_eq (tgt := 18) dX9_odds_6 (by decide) (ite_go h (fun hc h => ?_) (fun hc h => ?_))
  · refine rn_iconst (v := -1) dX9_odds_18 rfl ?_
    exact rn_iret dX9_odds_19 rfl ⟨_, rfl, h⟩
  · refine rn_iload_n (i := 2) (x := x2) dX9_odds_9 rfl (by simp) ?_
    refine rn_iconst (v := 0) dX9_odds_10 rfl ?_
    refine rn_iconst (v := 1) dX9_odds_11 rfl ?_
    refine rn_callSi (as := [.int x2, .int 0, .int 1]) (st := []) dX9_odds_12 mf_X9_isIn lk_X9_420 sm_X9_isIn rfl (Nat.le_of_ble_eq_true rfl) (Nat.le_of_ble_eq_true rfl) rfl (RI.mono h (fun r4 M3 h => ?_))
    refine rn_if_ne (tgt := 20) dX9_odds_15 (by decide) (ite_go h (fun hc h => ?_) (fun hc h => ?_))
    · refine rn_iconst (v := -1) dX9_odds_18 rfl ?_
      exact rn_iret dX9_odds_19 rfl ⟨_, rfl, h⟩
    · refine rn_bipush (v := 100) dX9_odds_20 rfl ?_
      refine rn_aload_n (i := 0) (x := 58) dX9_odds_22 rfl (by simp) ?_
      refine rn_geti dX9_odds_23 rfl gf_X9_353 (by decide) ?_
      refine rn_isub dX9_odds_26 ?_
      refine rn_iload_n (i := 1) (x := x1) dX9_odds_27 rfl (by simp) ?_
      refine rn_callSi (as := [.int (100 - (ri M3 58 36)), .int x1]) (st := []) dX9_odds_28 mf_X9_power lk_X9_459 sm_X9_power rfl (Nat.le_of_ble_eq_true rfl) (Nat.le_of_ble_eq_true rfl) rfl (RI.mono h (fun r6 M5 h => ?_))
      refine rn_istore_n (lv' := [(0, .ref 58), (1, .int x1), (2, .int x2), (3, .int r6)]) (hd := dX9_odds_31) (i := 3) (hi := rfl) (hn := by decide) (hf := rfl) (hl := rfl) ?_
      refine rn_bipush (v := 100) dX9_odds_32 rfl ?_
      refine rn_iload_n (i := 1) (x := x1) dX9_odds_34 rfl (by simp) ?_
      refine rn_callSi (as := [.int 100, .int x1]) (st := []) dX9_odds_35 mf_X9_power lk_X9_459 sm_X9_power rfl (Nat.le_of_ble_eq_true rfl) (Nat.le_of_ble_eq_true rfl) rfl (RI.mono h (fun r8 M7 h => ?_))
      refine rn_istore (lv' := [(0, .ref 58), (1, .int x1), (2, .int x2), (3, .int r6), (4, .int r8)]) (hd := dX9_odds_38) (hn := by decide) (hf := rfl) (hl := rfl) ?_
      refine rn_iload (x := r8) dX9_odds_40 (by simp) ?_
      refine rn_iload_n (i := 3) (x := r6) dX9_odds_42 rfl (by simp) ?_
      refine rn_callSi (as := [.int r8, .int r6]) (st := []) dX9_odds_43 mf_X9_divisor lk_X9_495 sm_X9_divisor rfl (Nat.le_of_ble_eq_true rfl) (Nat.le_of_ble_eq_true rfl) rfl (RI.mono h (fun r10 M9 h => ?_))
      refine rn_istore (lv' := [(0, .ref 58), (1, .int x1), (2, .int x2), (3, .int r6), (4, .int r8), (5, .int r10)]) (hd := dX9_odds_46) (hn := by decide) (hf := rfl) (hl := rfl) ?_
      refine rn_iload_n (i := 2) (x := x2) dX9_odds_48 rfl (by simp) ?_
      refine rn_if_ne (tgt := 59) dX9_odds_49 (by decide) (ite_go h (fun hc h => ?_) (fun hc h => ?_))
      · refine rn_iload_n (i := 3) (x := r6) dX9_odds_52 rfl (by simp) ?_
        refine rn_iload (x := r10) dX9_odds_53 (by simp) ?_
        obtain ⟨hne, h⟩ := h
        refine rn_idiv dX9_odds_55 hne ?_
        refine rn_goto (tgt := 64) dX9_odds_56 (by decide) ?_
        exact rn_iret dX9_odds_64 rfl ⟨_, rfl, h⟩
      · refine rn_iload (x := r8) dX9_odds_59 (by simp) ?_
        refine rn_iload (x := r10) dX9_odds_61 (by simp) ?_
        obtain ⟨hne, h⟩ := h
        refine rn_idiv dX9_odds_63 hne ?_
        exact rn_iret dX9_odds_64 rfl ⟨_, rfl, h⟩
theorem dX9_lies_0 : decode μX9_lies.2.1 0 = .ok (.iload_n 1, 1) := by decide +kernel
theorem dX9_lies_1 : decode μX9_lies.2.1 1 = .ok (.iconst 0, 1) := by decide +kernel
theorem dX9_lies_2 : decode μX9_lies.2.1 2 = .ok (.aload_n 0, 1) := by decide +kernel
theorem dX9_lies_3 : decode μX9_lies.2.1 3 = .ok (.getfield 417, 3) := by decide +kernel
theorem dX9_lies_6 : decode μX9_lies.2.1 6 = .ok (.iconst 1, 1) := by decide +kernel
theorem dX9_lies_7 : decode μX9_lies.2.1 7 = .ok (.isub, 1) := by decide +kernel
theorem dX9_lies_8 : decode μX9_lies.2.1 8 = .ok (.invokestatic 420, 3) := by decide +kernel
theorem dX9_lies_11 : decode μX9_lies.2.1 11 = .ok (.ifCond .eq 12, 3) := by decide +kernel
theorem dX9_lies_14 : decode μX9_lies.2.1 14 = .ok (.aload_n 0, 1) := by decide +kernel
theorem dX9_lies_15 : decode μX9_lies.2.1 15 = .ok (.getfield 57, 3) := by decide +kernel
theorem dX9_lies_18 : decode μX9_lies.2.1 18 = .ok (.iload_n 1, 1) := by decide +kernel
theorem dX9_lies_19 : decode μX9_lies.2.1 19 = .ok (.iaload, 1) := by decide +kernel
theorem dX9_lies_20 : decode μX9_lies.2.1 20 = .ok (.goto 5, 3) := by decide +kernel
theorem dX9_lies_23 : decode μX9_lies.2.1 23 = .ok (.bipush (-2), 2) := by decide +kernel
theorem dX9_lies_25 : decode μX9_lies.2.1 25 = .ok (.ireturn, 1) := by decide +kernel
set_option maxRecDepth 20000 in
theorem sg_X9_lies_0 {d : Nat} {x1 : Int32} {M : Mem} {K : (Int32 → Mem → Prop)}  (h : (CI d μX9_isIn [.int x1, .int 0, .int ((ri M 58 45) - 1)] M (fun r2 M1 => (if r2 = 0 then K ((-2)) M1 else (vp_in x1 8 ∧ K (ri M1 73 (nx x1)) M1))))) : CI (d + 1) μX9_lies [.ref 58, .int x1] M K := by
  show Rn (d + 1) μX9_lies 0 [(0, .ref 58), (1, .int x1)] [] M _
  refine rn_iload_n (i := 1) (x := x1) dX9_lies_0 rfl (by simp) ?_
  refine rn_iconst (v := 0) dX9_lies_1 rfl ?_
  refine rn_aload_n (i := 0) (x := 58) dX9_lies_2 rfl (by simp) ?_
  refine rn_geti dX9_lies_3 rfl gf_X9_417 (by decide) ?_
  refine rn_iconst (v := 1) dX9_lies_6 rfl ?_
  refine rn_isub dX9_lies_7 ?_
  refine rn_callSi (as := [.int x1, .int 0, .int ((ri M 58 45) - 1)]) (st := []) dX9_lies_8 mf_X9_isIn lk_X9_420 sm_X9_isIn rfl (Nat.le_of_ble_eq_true rfl) (Nat.le_of_ble_eq_true rfl) rfl (RI.mono h (fun r2 M1 h => ?_))
  refine rn_if_eq (tgt := 23) dX9_lies_11 (by decide) (ite_go h (fun hc h => ?_) (fun hc h => ?_))
  · refine rn_bipush (v := -2) dX9_lies_23 rfl ?_
    exact rn_iret dX9_lies_25 rfl ⟨_, rfl, h⟩
  · refine rn_aload_n (i := 0) (x := 58) dX9_lies_14 rfl (by simp) ?_
    refine rn_getr (t := 73) dX9_lies_15 rfl gf_X9_57 rfl rfl ?_
    refine rn_iload_n (i := 1) (x := x1) dX9_lies_18 rfl (by simp) ?_
    obtain ⟨hi, h⟩ := h
    refine rn_iaload dX9_lies_19 rfl hi ?_
    refine rn_goto (tgt := 25) dX9_lies_20 (by decide) ?_
    exact rn_iret dX9_lies_25 rfl ⟨_, rfl, h⟩
theorem dX9_seen_0 : decode μX9_seen.2.1 0 = .ok (.iload_n 1, 1) := by decide +kernel
theorem dX9_seen_1 : decode μX9_seen.2.1 1 = .ok (.iconst 0, 1) := by decide +kernel
theorem dX9_seen_2 : decode μX9_seen.2.1 2 = .ok (.bipush 12, 2) := by decide +kernel
theorem dX9_seen_4 : decode μX9_seen.2.1 4 = .ok (.invokestatic 420, 3) := by decide +kernel
theorem dX9_seen_7 : decode μX9_seen.2.1 7 = .ok (.ifCond .eq 29, 3) := by decide +kernel
theorem dX9_seen_10 : decode μX9_seen.2.1 10 = .ok (.iload_n 2, 1) := by decide +kernel
theorem dX9_seen_11 : decode μX9_seen.2.1 11 = .ok (.iconst 0, 1) := by decide +kernel
theorem dX9_seen_12 : decode μX9_seen.2.1 12 = .ok (.bipush 8, 2) := by decide +kernel
theorem dX9_seen_14 : decode μX9_seen.2.1 14 = .ok (.invokestatic 420, 3) := by decide +kernel
theorem dX9_seen_17 : decode μX9_seen.2.1 17 = .ok (.ifCond .eq 19, 3) := by decide +kernel
theorem dX9_seen_20 : decode μX9_seen.2.1 20 = .ok (.aload_n 0, 1) := by decide +kernel
theorem dX9_seen_21 : decode μX9_seen.2.1 21 = .ok (.getfield 326, 3) := by decide +kernel
theorem dX9_seen_24 : decode μX9_seen.2.1 24 = .ok (.ifCond .eq 12, 3) := by decide +kernel
theorem dX9_seen_27 : decode μX9_seen.2.1 27 = .ok (.aload_n 0, 1) := by decide +kernel
theorem dX9_seen_28 : decode μX9_seen.2.1 28 = .ok (.getfield 414, 3) := by decide +kernel
theorem dX9_seen_31 : decode μX9_seen.2.1 31 = .ok (.bipush 30, 2) := by decide +kernel
theorem dX9_seen_33 : decode μX9_seen.2.1 33 = .ok (.if_icmp .ne 5, 3) := by decide +kernel
theorem dX9_seen_36 : decode μX9_seen.2.1 36 = .ok (.iconst (-1), 1) := by decide +kernel
theorem dX9_seen_37 : decode μX9_seen.2.1 37 = .ok (.ireturn, 1) := by decide +kernel
theorem dX9_seen_38 : decode μX9_seen.2.1 38 = .ok (.aload_n 0, 1) := by decide +kernel
theorem dX9_seen_39 : decode μX9_seen.2.1 39 = .ok (.getfield 72, 3) := by decide +kernel
theorem dX9_seen_42 : decode μX9_seen.2.1 42 = .ok (.aload_n 0, 1) := by decide +kernel
theorem dX9_seen_43 : decode μX9_seen.2.1 43 = .ok (.getfield 414, 3) := by decide +kernel
theorem dX9_seen_46 : decode μX9_seen.2.1 46 = .ok (.iload_n 1, 1) := by decide +kernel
theorem dX9_seen_47 : decode μX9_seen.2.1 47 = .ok (.iastore, 1) := by decide +kernel
theorem dX9_seen_48 : decode μX9_seen.2.1 48 = .ok (.aload_n 0, 1) := by decide +kernel
theorem dX9_seen_49 : decode μX9_seen.2.1 49 = .ok (.getfield 75, 3) := by decide +kernel
theorem dX9_seen_52 : decode μX9_seen.2.1 52 = .ok (.aload_n 0, 1) := by decide +kernel
theorem dX9_seen_53 : decode μX9_seen.2.1 53 = .ok (.getfield 414, 3) := by decide +kernel
theorem dX9_seen_56 : decode μX9_seen.2.1 56 = .ok (.iload_n 2, 1) := by decide +kernel
theorem dX9_seen_57 : decode μX9_seen.2.1 57 = .ok (.iastore, 1) := by decide +kernel
theorem dX9_seen_58 : decode μX9_seen.2.1 58 = .ok (.aload_n 0, 1) := by decide +kernel
theorem dX9_seen_59 : decode μX9_seen.2.1 59 = .ok (.getfield 84, 3) := by decide +kernel
theorem dX9_seen_62 : decode μX9_seen.2.1 62 = .ok (.aload_n 0, 1) := by decide +kernel
theorem dX9_seen_63 : decode μX9_seen.2.1 63 = .ok (.getfield 414, 3) := by decide +kernel
theorem dX9_seen_66 : decode μX9_seen.2.1 66 = .ok (.iload_n 3, 1) := by decide +kernel
theorem dX9_seen_67 : decode μX9_seen.2.1 67 = .ok (.bastore, 1) := by decide +kernel
theorem dX9_seen_68 : decode μX9_seen.2.1 68 = .ok (.aload_n 0, 1) := by decide +kernel
theorem dX9_seen_69 : decode μX9_seen.2.1 69 = .ok (.getfield 78, 3) := by decide +kernel
theorem dX9_seen_72 : decode μX9_seen.2.1 72 = .ok (.aload_n 0, 1) := by decide +kernel
theorem dX9_seen_73 : decode μX9_seen.2.1 73 = .ok (.getfield 414, 3) := by decide +kernel
theorem dX9_seen_76 : decode μX9_seen.2.1 76 = .ok (.aload_n 0, 1) := by decide +kernel
theorem dX9_seen_77 : decode μX9_seen.2.1 77 = .ok (.getfield 498, 3) := by decide +kernel
theorem dX9_seen_80 : decode μX9_seen.2.1 80 = .ok (.iastore, 1) := by decide +kernel
theorem dX9_seen_81 : decode μX9_seen.2.1 81 = .ok (.aload_n 0, 1) := by decide +kernel
theorem dX9_seen_82 : decode μX9_seen.2.1 82 = .ok (.getfield 81, 3) := by decide +kernel
theorem dX9_seen_85 : decode μX9_seen.2.1 85 = .ok (.aload_n 0, 1) := by decide +kernel
theorem dX9_seen_86 : decode μX9_seen.2.1 86 = .ok (.getfield 414, 3) := by decide +kernel
theorem dX9_seen_89 : decode μX9_seen.2.1 89 = .ok (.iconst (-1), 1) := by decide +kernel
theorem dX9_seen_90 : decode μX9_seen.2.1 90 = .ok (.iastore, 1) := by decide +kernel
theorem dX9_seen_91 : decode μX9_seen.2.1 91 = .ok (.aload_n 0, 1) := by decide +kernel
theorem dX9_seen_92 : decode μX9_seen.2.1 92 = .ok (.dup, 1) := by decide +kernel
theorem dX9_seen_93 : decode μX9_seen.2.1 93 = .ok (.getfield 414, 3) := by decide +kernel
theorem dX9_seen_96 : decode μX9_seen.2.1 96 = .ok (.iconst 1, 1) := by decide +kernel
theorem dX9_seen_97 : decode μX9_seen.2.1 97 = .ok (.iadd, 1) := by decide +kernel
theorem dX9_seen_98 : decode μX9_seen.2.1 98 = .ok (.putfield 414, 3) := by decide +kernel
theorem dX9_seen_101 : decode μX9_seen.2.1 101 = .ok (.aload_n 0, 1) := by decide +kernel
theorem dX9_seen_102 : decode μX9_seen.2.1 102 = .ok (.getfield 414, 3) := by decide +kernel
theorem dX9_seen_105 : decode μX9_seen.2.1 105 = .ok (.iconst 1, 1) := by decide +kernel
theorem dX9_seen_106 : decode μX9_seen.2.1 106 = .ok (.isub, 1) := by decide +kernel
theorem dX9_seen_107 : decode μX9_seen.2.1 107 = .ok (.ireturn, 1) := by decide +kernel
set_option maxRecDepth 20000 in
theorem sg_X9_seen_0 {d : Nat} {x1 : Int32} {x2 : Int32} {x3 : Int32} {M : Mem} {K : (Int32 → Mem → Prop)}  (h : (CI d μX9_isIn [.int x1, .int 0, .int 12] M (fun r2 M1 => (if r2 = 0 then K ((-1)) M1 else (CI d μX9_isIn [.int x2, .int 0, .int 8] M1 (fun r4 M3 => (if r4 = 0 then K ((-1)) M3 else (if ri M3 58 35 = 0 then K ((-1)) M3 else (if ri M3 58 55 = 30 then K ((-1)) M3 else (vp_in (ri M3 58 55) 30 ∧ ∀ M5, M5 = wi M3 78 (nx (ri M3 58 55)) x1 → (vp_in (ri M5 58 55) 30 ∧ ∀ M6, M6 = wi M5 79 (nx (ri M5 58 55)) x2 → (vp_in (ri M6 58 55) 30 ∧ ∀ M7, M7 = wi M6 82 (nx (ri M6 58 55)) (vp_nar .boolean x3) → (vp_in (ri M7 58 55) 30 ∧ ∀ M8, M8 = wi M7 80 (nx (ri M7 58 55)) (ri M7 58 56) → (vp_in (ri M8 58 55) 30 ∧ ∀ M9, M9 = wi M8 81 (nx (ri M8 58 55)) ((-1)) → (∀ M10, M10 = wi M9 58 55 ((ri M9 58 55) + 1) → K ((ri M10 58 55) - 1) M10))))))))))))))) : CI (d + 1) μX9_seen [.ref 58, .int x1, .int x2, .int x3] M K := by
  show Rn (d + 1) μX9_seen 0 [(0, .ref 58), (1, .int x1), (2, .int x2), (3, .int x3)] [] M _
  refine rn_iload_n (i := 1) (x := x1) dX9_seen_0 rfl (by simp) ?_
  refine rn_iconst (v := 0) dX9_seen_1 rfl ?_
  refine rn_bipush (v := 12) dX9_seen_2 rfl ?_
  refine rn_callSi (as := [.int x1, .int 0, .int 12]) (st := []) dX9_seen_4 mf_X9_isIn lk_X9_420 sm_X9_isIn rfl (Nat.le_of_ble_eq_true rfl) (Nat.le_of_ble_eq_true rfl) rfl (RI.mono h (fun r2 M1 h => ?_))
  refine rn_if_eq (tgt := 36) dX9_seen_7 (by decide) (ite_go h (fun hc h => ?_) (fun hc h => ?_))
  · refine rn_iconst (v := -1) dX9_seen_36 rfl ?_
    exact rn_iret dX9_seen_37 rfl ⟨_, rfl, h⟩
  · refine rn_iload_n (i := 2) (x := x2) dX9_seen_10 rfl (by simp) ?_
    refine rn_iconst (v := 0) dX9_seen_11 rfl ?_
    refine rn_bipush (v := 8) dX9_seen_12 rfl ?_
    refine rn_callSi (as := [.int x2, .int 0, .int 8]) (st := []) dX9_seen_14 mf_X9_isIn lk_X9_420 sm_X9_isIn rfl (Nat.le_of_ble_eq_true rfl) (Nat.le_of_ble_eq_true rfl) rfl (RI.mono h (fun r4 M3 h => ?_))
    refine rn_if_eq (tgt := 36) dX9_seen_17 (by decide) (ite_go h (fun hc h => ?_) (fun hc h => ?_))
    · refine rn_iconst (v := -1) dX9_seen_36 rfl ?_
      exact rn_iret dX9_seen_37 rfl ⟨_, rfl, h⟩
    · refine rn_aload_n (i := 0) (x := 58) dX9_seen_20 rfl (by simp) ?_
      refine rn_geti dX9_seen_21 rfl gf_X9_326 (by decide) ?_
      refine rn_if_eq (tgt := 36) dX9_seen_24 (by decide) (ite_go h (fun hc h => ?_) (fun hc h => ?_))
      · refine rn_iconst (v := -1) dX9_seen_36 rfl ?_
        exact rn_iret dX9_seen_37 rfl ⟨_, rfl, h⟩
      · refine rn_aload_n (i := 0) (x := 58) dX9_seen_27 rfl (by simp) ?_
        refine rn_geti dX9_seen_28 rfl gf_X9_414 (by decide) ?_
        refine rn_bipush (v := 30) dX9_seen_31 rfl ?_
        refine rn_icmp_ne (tgt := 38) dX9_seen_33 (by decide) (ite_go h (fun hc h => ?_) (fun hc h => ?_))
        · refine rn_iconst (v := -1) dX9_seen_36 rfl ?_
          exact rn_iret dX9_seen_37 rfl ⟨_, rfl, h⟩
        · refine rn_aload_n (i := 0) (x := 58) dX9_seen_38 rfl (by simp) ?_
          refine rn_getr (t := 78) dX9_seen_39 rfl gf_X9_72 rfl rfl ?_
          refine rn_aload_n (i := 0) (x := 58) dX9_seen_42 rfl (by simp) ?_
          refine rn_geti dX9_seen_43 rfl gf_X9_414 (by decide) ?_
          refine rn_iload_n (i := 1) (x := x1) dX9_seen_46 rfl (by simp) ?_
          obtain ⟨hi, h⟩ := h
          have h := h _ rfl
          refine rn_iastore dX9_seen_47 rfl hi ?_
          generalize wi M3 78 (nx (ri M3 58 55)) x1 = M5 at h ⊢
          refine rn_aload_n (i := 0) (x := 58) dX9_seen_48 rfl (by simp) ?_
          refine rn_getr (t := 79) dX9_seen_49 rfl gf_X9_75 rfl rfl ?_
          refine rn_aload_n (i := 0) (x := 58) dX9_seen_52 rfl (by simp) ?_
          refine rn_geti dX9_seen_53 rfl gf_X9_414 (by decide) ?_
          refine rn_iload_n (i := 2) (x := x2) dX9_seen_56 rfl (by simp) ?_
          obtain ⟨hi, h⟩ := h
          have h := h _ rfl
          refine rn_iastore dX9_seen_57 rfl hi ?_
          generalize wi M5 79 (nx (ri M5 58 55)) x2 = M6 at h ⊢
          refine rn_aload_n (i := 0) (x := 58) dX9_seen_58 rfl (by simp) ?_
          refine rn_getr (t := 82) dX9_seen_59 rfl gf_X9_84 rfl rfl ?_
          refine rn_aload_n (i := 0) (x := 58) dX9_seen_62 rfl (by simp) ?_
          refine rn_geti dX9_seen_63 rfl gf_X9_414 (by decide) ?_
          refine rn_iload_n (i := 3) (x := x3) dX9_seen_66 rfl (by simp) ?_
          obtain ⟨hi, h⟩ := h
          have h := h _ rfl
          refine rn_zastore dX9_seen_67 rfl hi ?_
          generalize wi M6 82 (nx (ri M6 58 55)) (vp_nar .boolean x3) = M7 at h ⊢
          refine rn_aload_n (i := 0) (x := 58) dX9_seen_68 rfl (by simp) ?_
          refine rn_getr (t := 80) dX9_seen_69 rfl gf_X9_78 rfl rfl ?_
          refine rn_aload_n (i := 0) (x := 58) dX9_seen_72 rfl (by simp) ?_
          refine rn_geti dX9_seen_73 rfl gf_X9_414 (by decide) ?_
          refine rn_aload_n (i := 0) (x := 58) dX9_seen_76 rfl (by simp) ?_
          refine rn_geti dX9_seen_77 rfl gf_X9_498 (by decide) ?_
          obtain ⟨hi, h⟩ := h
          have h := h _ rfl
          refine rn_iastore dX9_seen_80 rfl hi ?_
          generalize wi M7 80 (nx (ri M7 58 55)) (ri M7 58 56) = M8 at h ⊢
          refine rn_aload_n (i := 0) (x := 58) dX9_seen_81 rfl (by simp) ?_
          refine rn_getr (t := 81) dX9_seen_82 rfl gf_X9_81 rfl rfl ?_
          refine rn_aload_n (i := 0) (x := 58) dX9_seen_85 rfl (by simp) ?_
          refine rn_geti dX9_seen_86 rfl gf_X9_414 (by decide) ?_
          refine rn_iconst (v := -1) dX9_seen_89 rfl ?_
          obtain ⟨hi, h⟩ := h
          have h := h _ rfl
          refine rn_iastore dX9_seen_90 rfl hi ?_
          generalize wi M8 81 (nx (ri M8 58 55)) ((-1)) = M9 at h ⊢
          refine rn_aload_n (i := 0) (x := 58) dX9_seen_91 rfl (by simp) ?_
          refine rn_dup dX9_seen_92 rfl ?_
          refine rn_geti dX9_seen_93 rfl gf_X9_414 (by decide) ?_
          refine rn_iconst (v := 1) dX9_seen_96 rfl ?_
          refine rn_iadd dX9_seen_97 ?_
          have h := h _ rfl
          refine rn_puti dX9_seen_98 rfl pf_X9_414 (by decide) rfl rfl ?_
          generalize wi M9 58 55 ((ri M9 58 55) + 1) = M10 at h ⊢
          refine rn_aload_n (i := 0) (x := 58) dX9_seen_101 rfl (by simp) ?_
          refine rn_geti dX9_seen_102 rfl gf_X9_414 (by decide) ?_
          refine rn_iconst (v := 1) dX9_seen_105 rfl ?_
          refine rn_isub dX9_seen_106 ?_
          exact rn_iret dX9_seen_107 rfl ⟨_, rfl, h⟩
theorem dX9_untell_0 : decode μX9_untell.2.1 0 = .ok (.iload_n 1, 1) := by decide +kernel
theorem dX9_untell_1 : decode μX9_untell.2.1 1 = .ok (.iconst 0, 1) := by decide +kernel
theorem dX9_untell_2 : decode μX9_untell.2.1 2 = .ok (.aload_n 0, 1) := by decide +kernel
theorem dX9_untell_3 : decode μX9_untell.2.1 3 = .ok (.getfield 414, 3) := by decide +kernel
theorem dX9_untell_6 : decode μX9_untell.2.1 6 = .ok (.iconst 1, 1) := by decide +kernel
theorem dX9_untell_7 : decode μX9_untell.2.1 7 = .ok (.isub, 1) := by decide +kernel
theorem dX9_untell_8 : decode μX9_untell.2.1 8 = .ok (.invokestatic 420, 3) := by decide +kernel
theorem dX9_untell_11 : decode μX9_untell.2.1 11 = .ok (.ifCond .eq 12, 3) := by decide +kernel
theorem dX9_untell_14 : decode μX9_untell.2.1 14 = .ok (.aload_n 0, 1) := by decide +kernel
theorem dX9_untell_15 : decode μX9_untell.2.1 15 = .ok (.getfield 81, 3) := by decide +kernel
theorem dX9_untell_18 : decode μX9_untell.2.1 18 = .ok (.iload_n 1, 1) := by decide +kernel
theorem dX9_untell_19 : decode μX9_untell.2.1 19 = .ok (.iaload, 1) := by decide +kernel
theorem dX9_untell_20 : decode μX9_untell.2.1 20 = .ok (.ifCond .lt 5, 3) := by decide +kernel
theorem dX9_untell_23 : decode μX9_untell.2.1 23 = .ok (.iconst 0, 1) := by decide +kernel
theorem dX9_untell_24 : decode μX9_untell.2.1 24 = .ok (.ireturn, 1) := by decide +kernel
theorem dX9_untell_25 : decode μX9_untell.2.1 25 = .ok (.aload_n 0, 1) := by decide +kernel
theorem dX9_untell_26 : decode μX9_untell.2.1 26 = .ok (.getfield 81, 3) := by decide +kernel
theorem dX9_untell_29 : decode μX9_untell.2.1 29 = .ok (.iload_n 1, 1) := by decide +kernel
theorem dX9_untell_30 : decode μX9_untell.2.1 30 = .ok (.aload_n 0, 1) := by decide +kernel
theorem dX9_untell_31 : decode μX9_untell.2.1 31 = .ok (.getfield 498, 3) := by decide +kernel
theorem dX9_untell_34 : decode μX9_untell.2.1 34 = .ok (.iastore, 1) := by decide +kernel
theorem dX9_untell_35 : decode μX9_untell.2.1 35 = .ok (.iconst 1, 1) := by decide +kernel
theorem dX9_untell_36 : decode μX9_untell.2.1 36 = .ok (.ireturn, 1) := by decide +kernel
set_option maxRecDepth 20000 in
theorem sg_X9_untell_0 {d : Nat} {x1 : Int32} {M : Mem} {K : (Int32 → Mem → Prop)}  (h : (CI d μX9_isIn [.int x1, .int 0, .int ((ri M 58 55) - 1)] M (fun r2 M1 => (if r2 = 0 then K 0 M1 else (vp_in x1 30 ∧ (if ri M1 81 (nx x1) < 0 then (vp_in x1 30 ∧ ∀ M3, M3 = wi M1 81 (nx x1) (ri M1 58 56) → K 1 M3) else K 0 M1)))))) : CI (d + 1) μX9_untell [.ref 58, .int x1] M K := by
  show Rn (d + 1) μX9_untell 0 [(0, .ref 58), (1, .int x1)] [] M _
  refine rn_iload_n (i := 1) (x := x1) dX9_untell_0 rfl (by simp) ?_
  refine rn_iconst (v := 0) dX9_untell_1 rfl ?_
  refine rn_aload_n (i := 0) (x := 58) dX9_untell_2 rfl (by simp) ?_
  refine rn_geti dX9_untell_3 rfl gf_X9_414 (by decide) ?_
  refine rn_iconst (v := 1) dX9_untell_6 rfl ?_
  refine rn_isub dX9_untell_7 ?_
  refine rn_callSi (as := [.int x1, .int 0, .int ((ri M 58 55) - 1)]) (st := []) dX9_untell_8 mf_X9_isIn lk_X9_420 sm_X9_isIn rfl (Nat.le_of_ble_eq_true rfl) (Nat.le_of_ble_eq_true rfl) rfl (RI.mono h (fun r2 M1 h => ?_))
  refine rn_if_eq (tgt := 23) dX9_untell_11 (by decide) (ite_go h (fun hc h => ?_) (fun hc h => ?_))
  · refine rn_iconst (v := 0) dX9_untell_23 rfl ?_
    exact rn_zret dX9_untell_24 rfl (by decide) ⟨_, rfl, h⟩
  · refine rn_aload_n (i := 0) (x := 58) dX9_untell_14 rfl (by simp) ?_
    refine rn_getr (t := 81) dX9_untell_15 rfl gf_X9_81 rfl rfl ?_
    refine rn_iload_n (i := 1) (x := x1) dX9_untell_18 rfl (by simp) ?_
    obtain ⟨hi, h⟩ := h
    refine rn_iaload dX9_untell_19 rfl hi ?_
    refine rn_if_lt (tgt := 25) dX9_untell_20 (by decide) (ite_go h (fun hc h => ?_) (fun hc h => ?_))
    · refine rn_aload_n (i := 0) (x := 58) dX9_untell_25 rfl (by simp) ?_
      refine rn_getr (t := 81) dX9_untell_26 rfl gf_X9_81 rfl rfl ?_
      refine rn_iload_n (i := 1) (x := x1) dX9_untell_29 rfl (by simp) ?_
      refine rn_aload_n (i := 0) (x := 58) dX9_untell_30 rfl (by simp) ?_
      refine rn_geti dX9_untell_31 rfl gf_X9_498 (by decide) ?_
      obtain ⟨hi, h⟩ := h
      have h := h _ rfl
      refine rn_iastore dX9_untell_34 rfl hi ?_
      generalize wi M1 81 (nx x1) (ri M1 58 56) = M3 at h ⊢
      refine rn_iconst (v := 1) dX9_untell_35 rfl ?_
      exact rn_zret dX9_untell_36 rfl (by decide) ⟨_, rfl, h⟩
    · refine rn_iconst (v := 0) dX9_untell_23 rfl ?_
      exact rn_zret dX9_untell_24 rfl (by decide) ⟨_, rfl, h⟩
