theorem dX8_ask_0 : decode μX8_ask.2.1 0 = .ok (.iload_n 1, 1) := by decide +kernel
theorem dX8_ask_1 : decode μX8_ask.2.1 1 = .ok (.ifCond .lt 27, 3) := by decide +kernel
theorem dX8_ask_4 : decode μX8_ask.2.1 4 = .ok (.iload_n 1, 1) := by decide +kernel
theorem dX8_ask_5 : decode μX8_ask.2.1 5 = .ok (.iconst 1, 1) := by decide +kernel
theorem dX8_ask_6 : decode μX8_ask.2.1 6 = .ok (.if_icmp .gt 22, 3) := by decide +kernel
theorem dX8_ask_9 : decode μX8_ask.2.1 9 = .ok (.aload_n 0, 1) := by decide +kernel
theorem dX8_ask_10 : decode μX8_ask.2.1 10 = .ok (.getfield 65, 3) := by decide +kernel
theorem dX8_ask_13 : decode μX8_ask.2.1 13 = .ok (.iload_n 2, 1) := by decide +kernel
theorem dX8_ask_14 : decode μX8_ask.2.1 14 = .ok (.aload_n 0, 1) := by decide +kernel
theorem dX8_ask_15 : decode μX8_ask.2.1 15 = .ok (.getfield 19, 3) := by decide +kernel
theorem dX8_ask_18 : decode μX8_ask.2.1 18 = .ok (.aload_n 0, 1) := by decide +kernel
theorem dX8_ask_19 : decode μX8_ask.2.1 19 = .ok (.getfield 30, 3) := by decide +kernel
theorem dX8_ask_22 : decode μX8_ask.2.1 22 = .ok (.invokevirtual 281, 3) := by decide +kernel
theorem dX8_ask_25 : decode μX8_ask.2.1 25 = .ok (.ifCond .ne 5, 3) := by decide +kernel
theorem dX8_ask_28 : decode μX8_ask.2.1 28 = .ok (.iconst (-1), 1) := by decide +kernel
theorem dX8_ask_29 : decode μX8_ask.2.1 29 = .ok (.ireturn, 1) := by decide +kernel
theorem dX8_ask_30 : decode μX8_ask.2.1 30 = .ok (.iconst 0, 1) := by decide +kernel
theorem dX8_ask_31 : decode μX8_ask.2.1 31 = .ok (.istore_n 3, 1) := by decide +kernel
theorem dX8_ask_32 : decode μX8_ask.2.1 32 = .ok (.aload_n 0, 1) := by decide +kernel
theorem dX8_ask_33 : decode μX8_ask.2.1 33 = .ok (.getfield 65, 3) := by decide +kernel
theorem dX8_ask_36 : decode μX8_ask.2.1 36 = .ok (.iconst 0, 1) := by decide +kernel
theorem dX8_ask_37 : decode μX8_ask.2.1 37 = .ok (.invokevirtual 291, 3) := by decide +kernel
theorem dX8_ask_40 : decode μX8_ask.2.1 40 = .ok (.istore 4, 2) := by decide +kernel
theorem dX8_ask_42 : decode μX8_ask.2.1 42 = .ok (.iconst 1, 1) := by decide +kernel
theorem dX8_ask_43 : decode μX8_ask.2.1 43 = .ok (.istore 5, 2) := by decide +kernel
theorem dX8_ask_45 : decode μX8_ask.2.1 45 = .ok (.iload 5, 2) := by decide +kernel
theorem dX8_ask_47 : decode μX8_ask.2.1 47 = .ok (.bipush 13, 2) := by decide +kernel
theorem dX8_ask_49 : decode μX8_ask.2.1 49 = .ok (.if_icmp .ge 34, 3) := by decide +kernel
theorem dX8_ask_52 : decode μX8_ask.2.1 52 = .ok (.aload_n 0, 1) := by decide +kernel
theorem dX8_ask_53 : decode μX8_ask.2.1 53 = .ok (.getfield 65, 3) := by decide +kernel
theorem dX8_ask_56 : decode μX8_ask.2.1 56 = .ok (.iload 5, 2) := by decide +kernel
theorem dX8_ask_58 : decode μX8_ask.2.1 58 = .ok (.invokevirtual 291, 3) := by decide +kernel
theorem dX8_ask_61 : decode μX8_ask.2.1 61 = .ok (.istore 6, 2) := by decide +kernel
theorem dX8_ask_63 : decode μX8_ask.2.1 63 = .ok (.iload 6, 2) := by decide +kernel
theorem dX8_ask_65 : decode μX8_ask.2.1 65 = .ok (.iload 4, 2) := by decide +kernel
theorem dX8_ask_67 : decode μX8_ask.2.1 67 = .ok (.if_icmp .ge 10, 3) := by decide +kernel
theorem dX8_ask_70 : decode μX8_ask.2.1 70 = .ok (.iload 6, 2) := by decide +kernel
theorem dX8_ask_72 : decode μX8_ask.2.1 72 = .ok (.istore 4, 2) := by decide +kernel
theorem dX8_ask_74 : decode μX8_ask.2.1 74 = .ok (.iload 5, 2) := by decide +kernel
theorem dX8_ask_76 : decode μX8_ask.2.1 76 = .ok (.istore_n 3, 1) := by decide +kernel
theorem dX8_ask_77 : decode μX8_ask.2.1 77 = .ok (.iinc 5 1, 3) := by decide +kernel
theorem dX8_ask_80 : decode μX8_ask.2.1 80 = .ok (.goto (-35), 3) := by decide +kernel
theorem dX8_ask_83 : decode μX8_ask.2.1 83 = .ok (.iload_n 1, 1) := by decide +kernel
theorem dX8_ask_84 : decode μX8_ask.2.1 84 = .ok (.ifCond .ne 7, 3) := by decide +kernel
theorem dX8_ask_87 : decode μX8_ask.2.1 87 = .ok (.iload_n 3, 1) := by decide +kernel
theorem dX8_ask_88 : decode μX8_ask.2.1 88 = .ok (.goto 5, 3) := by decide +kernel
theorem dX8_ask_91 : decode μX8_ask.2.1 91 = .ok (.iload 4, 2) := by decide +kernel
theorem dX8_ask_93 : decode μX8_ask.2.1 93 = .ok (.ireturn, 1) := by decide +kernel
set_option maxRecDepth 20000 in
theorem sg_X8_ask_0 {d : Nat} {x1 : Int32} {x2 : Int32} {M : Mem} {K : (Int32 → Mem → Prop)}  (h : (if x1 < 0 then K ((-1)) M else (if 1 < x1 then K ((-1)) M else (∃ t1, nx (ri M 0 1) = t1 ∧ kd t1 = (0, 7) ∧ (CI d μX4_findFits [.ref 48, .int x2, .ref t1, .ref 33] M (fun r3 M2 => (if r3 = 0 then K ((-1)) M2 else (CI d μX4_mostLeftBehind [.ref 48, .int 0] M2 (fun r5 M4 => RI (d + 1) μX8_ask 45 [(0, .ref 0), (1, .int x1), (2, .int x2), (3, .int 0), (4, .int r5), (5, .int 1)] [] M4 K))))))))) : CI (d + 1) μX8_ask [.ref 0, .int x1, .int x2] M K := by
  show Rn (d + 1) μX8_ask 0 [(0, .ref 0), (1, .int x1), (2, .int x2)] [] M _
  refine rn_iload_n (i := 1) (x := x1) dX8_ask_0 rfl (by simp) ?_
  refine rn_if_lt (tgt := 28) dX8_ask_1 (by decide) (ite_go h (fun hc h => ?_) (fun hc h => ?_))
  · refine rn_iconst (v := -1) dX8_ask_28 rfl ?_
    exact rn_iret dX8_ask_29 rfl ⟨_, rfl, h⟩
  · refine rn_iload_n (i := 1) (x := x1) dX8_ask_4 rfl (by simp) ?_
    refine rn_iconst (v := 1) dX8_ask_5 rfl ?_
    refine rn_icmp_gt (tgt := 28) dX8_ask_6 (by decide) (ite_go h (fun hc h => ?_) (fun hc h => ?_))
    · refine rn_iconst (v := -1) dX8_ask_28 rfl ?_
      exact rn_iret dX8_ask_29 rfl ⟨_, rfl, h⟩
    · refine rn_aload_n (i := 0) (x := 0) dX8_ask_9 rfl (by simp) ?_
      refine rn_getr (t := 48) dX8_ask_10 rfl gf_X8_65 rfl rfl ?_
      refine rn_iload_n (i := 2) (x := x2) dX8_ask_13 rfl (by simp) ?_
      refine rn_aload_n (i := 0) (x := 0) dX8_ask_14 rfl (by simp) ?_
      obtain ⟨t1, ht1e, ht1, h⟩ := h
      refine rn_getd dX8_ask_15 rfl gf_X8_19 rfl ht1e ?_
      refine rn_aload_n (i := 0) (x := 0) dX8_ask_18 rfl (by simp) ?_
      refine rn_getr (t := 33) dX8_ask_19 rfl gf_X8_30 rfl rfl ?_
      refine rn_callVi (as := [.int x2, .ref t1, .ref 33]) (st := []) dX8_ask_22 mf_X4_findFits lk_X8_281 im_X4_findFits rfl rfl rfl rfl (Nat.le_of_ble_eq_true rfl) (Nat.le_of_ble_eq_true rfl) rfl (RI.mono h (fun r3 M2 h => ?_))
      refine rn_if_ne (tgt := 30) dX8_ask_25 (by decide) (ite_go h (fun hc h => ?_) (fun hc h => ?_))
      · refine rn_iconst (v := -1) dX8_ask_28 rfl ?_
        exact rn_iret dX8_ask_29 rfl ⟨_, rfl, h⟩
      · refine rn_iconst (v := 0) dX8_ask_30 rfl ?_
        refine rn_istore_n (lv' := [(0, .ref 0), (1, .int x1), (2, .int x2), (3, .int 0)]) (hd := dX8_ask_31) (i := 3) (hi := rfl) (hn := by decide) (hf := rfl) (hl := rfl) ?_
        refine rn_aload_n (i := 0) (x := 0) dX8_ask_32 rfl (by simp) ?_
        refine rn_getr (t := 48) dX8_ask_33 rfl gf_X8_65 rfl rfl ?_
        refine rn_iconst (v := 0) dX8_ask_36 rfl ?_
        refine rn_callVi (as := [.int 0]) (st := []) dX8_ask_37 mf_X4_mostLeftBehind lk_X8_291 im_X4_mostLeftBehind rfl rfl rfl rfl (Nat.le_of_ble_eq_true rfl) (Nat.le_of_ble_eq_true rfl) rfl (RI.mono h (fun r5 M4 h => ?_))
        refine rn_istore (lv' := [(0, .ref 0), (1, .int x1), (2, .int x2), (3, .int 0), (4, .int r5)]) (hd := dX8_ask_40) (hn := by decide) (hf := rfl) (hl := rfl) ?_
        refine rn_iconst (v := 1) dX8_ask_42 rfl ?_
        refine rn_istore (lv' := [(0, .ref 0), (1, .int x1), (2, .int x2), (3, .int 0), (4, .int r5), (5, .int 1)]) (hd := dX8_ask_43) (hn := by decide) (hf := rfl) (hl := rfl) ?_
        exact h
set_option maxRecDepth 20000 in
theorem sg_X8_ask_45 {d : Nat} {x1 : Int32} {x2 : Int32} {x3 : Int32} {x4 : Int32} {x5 : Int32} {M : Mem} {K : (Int32 → Mem → Prop)}  (h : (if 13 ≤ x5 then (if x1 = 0 then K x3 M else K x4 M) else (CI d μX4_mostLeftBehind [.ref 48, .int x5] M (fun r2 M1 => (if x4 ≤ r2 then RI (d + 1) μX8_ask 45 [(0, .ref 0), (1, .int x1), (2, .int x2), (3, .int x3), (4, .int x4), (5, .int (x5 + 1))] [] M1 K else RI (d + 1) μX8_ask 45 [(0, .ref 0), (1, .int x1), (2, .int x2), (3, .int x5), (4, .int r2), (5, .int (x5 + 1))] [] M1 K))))) : RI (d + 1) μX8_ask 45 [(0, .ref 0), (1, .int x1), (2, .int x2), (3, .int x3), (4, .int x4), (5, .int x5)] [] M K := by
  show Rn (d + 1) μX8_ask 45 [(0, .ref 0), (1, .int x1), (2, .int x2), (3, .int x3), (4, .int x4), (5, .int x5)] [] M _
  refine rn_iload (x := x5) dX8_ask_45 (by simp) ?_
  refine rn_bipush (v := 13) dX8_ask_47 rfl ?_
  refine rn_icmp_ge (tgt := 83) dX8_ask_49 (by decide) (ite_go h (fun hc h => ?_) (fun hc h => ?_))
  · refine rn_iload_n (i := 1) (x := x1) dX8_ask_83 rfl (by simp) ?_
    refine rn_if_ne (tgt := 91) dX8_ask_84 (by decide) (ite_go h (fun hc h => ?_) (fun hc h => ?_))
    · refine rn_iload_n (i := 3) (x := x3) dX8_ask_87 rfl (by simp) ?_
      refine rn_goto (tgt := 93) dX8_ask_88 (by decide) ?_
      exact rn_iret dX8_ask_93 rfl ⟨_, rfl, h⟩
    · refine rn_iload (x := x4) dX8_ask_91 (by simp) ?_
      exact rn_iret dX8_ask_93 rfl ⟨_, rfl, h⟩
  · refine rn_aload_n (i := 0) (x := 0) dX8_ask_52 rfl (by simp) ?_
    refine rn_getr (t := 48) dX8_ask_53 rfl gf_X8_65 rfl rfl ?_
    refine rn_iload (x := x5) dX8_ask_56 (by simp) ?_
    refine rn_callVi (as := [.int x5]) (st := []) dX8_ask_58 mf_X4_mostLeftBehind lk_X8_291 im_X4_mostLeftBehind rfl rfl rfl rfl (Nat.le_of_ble_eq_true rfl) (Nat.le_of_ble_eq_true rfl) rfl (RI.mono h (fun r2 M1 h => ?_))
    refine rn_istore (lv' := [(0, .ref 0), (1, .int x1), (2, .int x2), (3, .int x3), (4, .int x4), (5, .int x5), (6, .int r2)]) (hd := dX8_ask_61) (hn := by decide) (hf := rfl) (hl := rfl) ?_
    refine rn_iload (x := r2) dX8_ask_63 (by simp) ?_
    refine rn_iload (x := x4) dX8_ask_65 (by simp) ?_
    refine rn_icmp_ge (tgt := 77) dX8_ask_67 (by decide) (ite_go h (fun hc h => ?_) (fun hc h => ?_))
    · refine rn_iinc (x := x5) (v := x5 + 1) (lv' := [(0, .ref 0), (1, .int x1), (2, .int x2), (3, .int x3), (4, .int x4), (5, .int (x5 + 1)), (6, .int r2)]) dX8_ask_77 (by simp) rfl (by decide) rfl rfl ?_
      refine rn_goto (tgt := 45) dX8_ask_80 (by decide) ?_
      refine Rn.sub (lv' := [(0, .ref 0), (1, .int x1), (2, .int x2), (3, .int x3), (4, .int x4), (5, .int (x5 + 1))]) (by simp) ?_
      exact h
    · refine rn_iload (x := r2) dX8_ask_70 (by simp) ?_
      refine rn_istore (lv' := [(0, .ref 0), (1, .int x1), (2, .int x2), (3, .int x3), (4, .int r2), (5, .int x5), (6, .int r2)]) (hd := dX8_ask_72) (hn := by decide) (hf := rfl) (hl := rfl) ?_
      refine rn_iload (x := x5) dX8_ask_74 (by simp) ?_
      refine rn_istore_n (lv' := [(0, .ref 0), (1, .int x1), (2, .int x2), (3, .int x5), (4, .int r2), (5, .int x5), (6, .int r2)]) (hd := dX8_ask_76) (i := 3) (hi := rfl) (hn := by decide) (hf := rfl) (hl := rfl) ?_
      refine rn_iinc (x := x5) (v := x5 + 1) (lv' := [(0, .ref 0), (1, .int x1), (2, .int x2), (3, .int x5), (4, .int r2), (5, .int (x5 + 1)), (6, .int r2)]) dX8_ask_77 (by simp) rfl (by decide) rfl rfl ?_
      refine rn_goto (tgt := 45) dX8_ask_80 (by decide) ?_
      refine Rn.sub (lv' := [(0, .ref 0), (1, .int x1), (2, .int x2), (3, .int x5), (4, .int r2), (5, .int (x5 + 1))]) (by simp) ?_
      exact h
theorem dX8_about_0 : decode μX8_about.2.1 0 = .ok (.iload_n 1, 1) := by decide +kernel
theorem dX8_about_1 : decode μX8_about.2.1 1 = .ok (.tableswitch 180 0 13 #[71, 79, 87, 95, 103, 111, 119, 127, 135, 143, 148, 156, 167, 172], 71) := by decide +kernel
theorem dX8_about_72 : decode μX8_about.2.1 72 = .ok (.aload_n 0, 1) := by decide +kernel
theorem dX8_about_73 : decode μX8_about.2.1 73 = .ok (.getfield 26, 3) := by decide +kernel
theorem dX8_about_76 : decode μX8_about.2.1 76 = .ok (.getfield 107, 3) := by decide +kernel
theorem dX8_about_79 : decode μX8_about.2.1 79 = .ok (.ireturn, 1) := by decide +kernel
theorem dX8_about_80 : decode μX8_about.2.1 80 = .ok (.aload_n 0, 1) := by decide +kernel
theorem dX8_about_81 : decode μX8_about.2.1 81 = .ok (.getfield 26, 3) := by decide +kernel
theorem dX8_about_84 : decode μX8_about.2.1 84 = .ok (.getfield 179, 3) := by decide +kernel
theorem dX8_about_87 : decode μX8_about.2.1 87 = .ok (.ireturn, 1) := by decide +kernel
theorem dX8_about_88 : decode μX8_about.2.1 88 = .ok (.aload_n 0, 1) := by decide +kernel
theorem dX8_about_89 : decode μX8_about.2.1 89 = .ok (.getfield 26, 3) := by decide +kernel
theorem dX8_about_92 : decode μX8_about.2.1 92 = .ok (.getfield 137, 3) := by decide +kernel
theorem dX8_about_95 : decode μX8_about.2.1 95 = .ok (.ireturn, 1) := by decide +kernel
theorem dX8_about_96 : decode μX8_about.2.1 96 = .ok (.aload_n 0, 1) := by decide +kernel
theorem dX8_about_97 : decode μX8_about.2.1 97 = .ok (.getfield 26, 3) := by decide +kernel
theorem dX8_about_100 : decode μX8_about.2.1 100 = .ok (.invokevirtual 294, 3) := by decide +kernel
theorem dX8_about_103 : decode μX8_about.2.1 103 = .ok (.ireturn, 1) := by decide +kernel
theorem dX8_about_104 : decode μX8_about.2.1 104 = .ok (.aload_n 0, 1) := by decide +kernel
theorem dX8_about_105 : decode μX8_about.2.1 105 = .ok (.getfield 26, 3) := by decide +kernel
theorem dX8_about_108 : decode μX8_about.2.1 108 = .ok (.getfield 170, 3) := by decide +kernel
theorem dX8_about_111 : decode μX8_about.2.1 111 = .ok (.ireturn, 1) := by decide +kernel
theorem dX8_about_112 : decode μX8_about.2.1 112 = .ok (.aload_n 0, 1) := by decide +kernel
theorem dX8_about_113 : decode μX8_about.2.1 113 = .ok (.getfield 26, 3) := by decide +kernel
theorem dX8_about_116 : decode μX8_about.2.1 116 = .ok (.getfield 297, 3) := by decide +kernel
theorem dX8_about_119 : decode μX8_about.2.1 119 = .ok (.ireturn, 1) := by decide +kernel
theorem dX8_about_120 : decode μX8_about.2.1 120 = .ok (.aload_n 0, 1) := by decide +kernel
theorem dX8_about_121 : decode μX8_about.2.1 121 = .ok (.getfield 36, 3) := by decide +kernel
theorem dX8_about_124 : decode μX8_about.2.1 124 = .ok (.getfield 300, 3) := by decide +kernel
theorem dX8_about_127 : decode μX8_about.2.1 127 = .ok (.ireturn, 1) := by decide +kernel
theorem dX8_about_128 : decode μX8_about.2.1 128 = .ok (.aload_n 0, 1) := by decide +kernel
theorem dX8_about_129 : decode μX8_about.2.1 129 = .ok (.getfield 36, 3) := by decide +kernel
theorem dX8_about_132 : decode μX8_about.2.1 132 = .ok (.getfield 303, 3) := by decide +kernel
theorem dX8_about_135 : decode μX8_about.2.1 135 = .ok (.ireturn, 1) := by decide +kernel
theorem dX8_about_136 : decode μX8_about.2.1 136 = .ok (.aload_n 0, 1) := by decide +kernel
theorem dX8_about_137 : decode μX8_about.2.1 137 = .ok (.getfield 65, 3) := by decide +kernel
theorem dX8_about_140 : decode μX8_about.2.1 140 = .ok (.getfield 306, 3) := by decide +kernel
theorem dX8_about_143 : decode μX8_about.2.1 143 = .ok (.ireturn, 1) := by decide +kernel
theorem dX8_about_144 : decode μX8_about.2.1 144 = .ok (.aload_n 0, 1) := by decide +kernel
theorem dX8_about_145 : decode μX8_about.2.1 145 = .ok (.getfield 69, 3) := by decide +kernel
theorem dX8_about_148 : decode μX8_about.2.1 148 = .ok (.ireturn, 1) := by decide +kernel
theorem dX8_about_149 : decode μX8_about.2.1 149 = .ok (.aload_n 0, 1) := by decide +kernel
theorem dX8_about_150 : decode μX8_about.2.1 150 = .ok (.getfield 10, 3) := by decide +kernel
theorem dX8_about_153 : decode μX8_about.2.1 153 = .ok (.getfield 78, 3) := by decide +kernel
theorem dX8_about_156 : decode μX8_about.2.1 156 = .ok (.ireturn, 1) := by decide +kernel
theorem dX8_about_157 : decode μX8_about.2.1 157 = .ok (.aload_n 0, 1) := by decide +kernel
theorem dX8_about_158 : decode μX8_about.2.1 158 = .ok (.getfield 19, 3) := by decide +kernel
theorem dX8_about_161 : decode μX8_about.2.1 161 = .ok (.getfield 129, 3) := by decide +kernel
theorem dX8_about_164 : decode μX8_about.2.1 164 = .ok (.getfield 309, 3) := by decide +kernel
theorem dX8_about_167 : decode μX8_about.2.1 167 = .ok (.ireturn, 1) := by decide +kernel
theorem dX8_about_168 : decode μX8_about.2.1 168 = .ok (.aload_n 0, 1) := by decide +kernel
theorem dX8_about_169 : decode μX8_about.2.1 169 = .ok (.getfield 75, 3) := by decide +kernel
theorem dX8_about_172 : decode μX8_about.2.1 172 = .ok (.ireturn, 1) := by decide +kernel
theorem dX8_about_173 : decode μX8_about.2.1 173 = .ok (.aload_n 0, 1) := by decide +kernel
theorem dX8_about_174 : decode μX8_about.2.1 174 = .ok (.getfield 19, 3) := by decide +kernel
theorem dX8_about_177 : decode μX8_about.2.1 177 = .ok (.getfield 182, 3) := by decide +kernel
theorem dX8_about_180 : decode μX8_about.2.1 180 = .ok (.ireturn, 1) := by decide +kernel
theorem dX8_about_181 : decode μX8_about.2.1 181 = .ok (.iconst (-1), 1) := by decide +kernel
theorem dX8_about_182 : decode μX8_about.2.1 182 = .ok (.ireturn, 1) := by decide +kernel
set_option maxRecDepth 20000 in
theorem sg_X8_about_0 {d : Nat} {x1 : Int32} {M : Mem} {K : (Int32 → Mem → Prop)}  (h : ((x1 = 0 → K (ri M 27 0) M) ∧ (x1 = 1 → K (ri M 27 1) M) ∧ (x1 = 2 → K (ri M 27 4) M) ∧ (x1 = 3 → (CI d μX2_howManyWalls [.ref 27] M (fun r2 M1 => K r2 M1))) ∧ (x1 = 4 → K (ri M 27 2) M) ∧ (x1 = 5 → K (ri M 27 3) M) ∧ (x1 = 6 → K (ri M 39 0) M) ∧ (x1 = 7 → K (ri M 39 1) M) ∧ (x1 = 8 → K (ri M 48 0) M) ∧ (x1 = 9 → K (ri M 0 10) M) ∧ (x1 = 10 → K (ri M 1 2) M) ∧ (x1 = 11 → (∃ t3, nx (ri M 0 1) = t3 ∧ kd t3 = (0, 7) ∧ K (ri M (t3 + 7) 4) M)) ∧ (x1 = 12 → K (ri M 0 12) M) ∧ (x1 = 13 → (∃ t4, nx (ri M 0 1) = t4 ∧ kd t4 = (0, 7) ∧ K (ri M t4 3) M)) ∧ ((x1).toInt < 0 ∨ 13 < (x1).toInt → K ((-1)) M))) : CI (d + 1) μX8_about [.ref 0, .int x1] M K := by
  show Rn (d + 1) μX8_about 0 [(0, .ref 0), (1, .int x1)] [] M _
  refine rn_iload_n (i := 1) (x := x1) dX8_about_0 rfl (by simp) ?_
  by_cases hlo : (x1).toInt < 0
  · have h := h.2.2.2.2.2.2.2.2.2.2.2.2.2.2 (Or.inl hlo)
    refine rn_tswitch (tgt := 181) dX8_about_1 (Or.inl ⟨Or.inl hlo, by decide⟩) ?_
    refine rn_iconst (v := -1) dX8_about_181 rfl ?_
    exact rn_iret dX8_about_182 rfl ⟨_, rfl, h⟩
  by_cases hhi : 13 < (x1).toInt
  · have h := h.2.2.2.2.2.2.2.2.2.2.2.2.2.2 (Or.inr hhi)
    refine rn_tswitch (tgt := 181) dX8_about_1 (Or.inl ⟨Or.inr hhi, by decide⟩) ?_
    refine rn_iconst (v := -1) dX8_about_181 rfl ?_
    exact rn_iret dX8_about_182 rfl ⟨_, rfl, h⟩
  have hv : (x1).toInt = 0 ∨ (x1).toInt = 1 ∨ (x1).toInt = 2 ∨ (x1).toInt = 3 ∨ (x1).toInt = 4 ∨ (x1).toInt = 5 ∨ (x1).toInt = 6 ∨ (x1).toInt = 7 ∨ (x1).toInt = 8 ∨ (x1).toInt = 9 ∨ (x1).toInt = 10 ∨ (x1).toInt = 11 ∨ (x1).toInt = 12 ∨ (x1).toInt = 13 := by omega
  rcases hv with hv | hv | hv | hv | hv | hv | hv | hv | hv | hv | hv | hv | hv | hv
  · have h := h.1 (Int32.toInt_inj.mp hv)
    refine rn_tswitch (tgt := 72) dX8_about_1 (Or.inr ⟨hlo, hhi, _, by rw [hv]; rfl, by decide⟩) ?_
    refine rn_aload_n (i := 0) (x := 0) dX8_about_72 rfl (by simp) ?_
    refine rn_getr (t := 27) dX8_about_73 rfl gf_X8_26 rfl rfl ?_
    refine rn_geti dX8_about_76 rfl gf_X8_107 (by decide) ?_
    exact rn_iret dX8_about_79 rfl ⟨_, rfl, h⟩
  · have h := h.2.1 (Int32.toInt_inj.mp hv)
    refine rn_tswitch (tgt := 80) dX8_about_1 (Or.inr ⟨hlo, hhi, _, by rw [hv]; rfl, by decide⟩) ?_
    refine rn_aload_n (i := 0) (x := 0) dX8_about_80 rfl (by simp) ?_
    refine rn_getr (t := 27) dX8_about_81 rfl gf_X8_26 rfl rfl ?_
    refine rn_geti dX8_about_84 rfl gf_X8_179 (by decide) ?_
    exact rn_iret dX8_about_87 rfl ⟨_, rfl, h⟩
  · have h := h.2.2.1 (Int32.toInt_inj.mp hv)
    refine rn_tswitch (tgt := 88) dX8_about_1 (Or.inr ⟨hlo, hhi, _, by rw [hv]; rfl, by decide⟩) ?_
    refine rn_aload_n (i := 0) (x := 0) dX8_about_88 rfl (by simp) ?_
    refine rn_getr (t := 27) dX8_about_89 rfl gf_X8_26 rfl rfl ?_
    refine rn_geti dX8_about_92 rfl gf_X8_137 (by decide) ?_
    exact rn_iret dX8_about_95 rfl ⟨_, rfl, h⟩
  · have h := h.2.2.2.1 (Int32.toInt_inj.mp hv)
    refine rn_tswitch (tgt := 96) dX8_about_1 (Or.inr ⟨hlo, hhi, _, by rw [hv]; rfl, by decide⟩) ?_
    refine rn_aload_n (i := 0) (x := 0) dX8_about_96 rfl (by simp) ?_
    refine rn_getr (t := 27) dX8_about_97 rfl gf_X8_26 rfl rfl ?_
    refine rn_callVi (as := []) (st := []) dX8_about_100 mf_X2_howManyWalls lk_X8_294 im_X2_howManyWalls rfl rfl rfl rfl (Nat.le_of_ble_eq_true rfl) (Nat.le_of_ble_eq_true rfl) rfl (RI.mono h (fun r2 M1 h => ?_))
    exact rn_iret dX8_about_103 rfl ⟨_, rfl, h⟩
  · have h := h.2.2.2.2.1 (Int32.toInt_inj.mp hv)
    refine rn_tswitch (tgt := 104) dX8_about_1 (Or.inr ⟨hlo, hhi, _, by rw [hv]; rfl, by decide⟩) ?_
    refine rn_aload_n (i := 0) (x := 0) dX8_about_104 rfl (by simp) ?_
    refine rn_getr (t := 27) dX8_about_105 rfl gf_X8_26 rfl rfl ?_
    refine rn_geti dX8_about_108 rfl gf_X8_170 (by decide) ?_
    exact rn_iret dX8_about_111 rfl ⟨_, rfl, h⟩
  · have h := h.2.2.2.2.2.1 (Int32.toInt_inj.mp hv)
    refine rn_tswitch (tgt := 112) dX8_about_1 (Or.inr ⟨hlo, hhi, _, by rw [hv]; rfl, by decide⟩) ?_
    refine rn_aload_n (i := 0) (x := 0) dX8_about_112 rfl (by simp) ?_
    refine rn_getr (t := 27) dX8_about_113 rfl gf_X8_26 rfl rfl ?_
    refine rn_geti dX8_about_116 rfl gf_X8_297 (by decide) ?_
    exact rn_iret dX8_about_119 rfl ⟨_, rfl, h⟩
  · have h := h.2.2.2.2.2.2.1 (Int32.toInt_inj.mp hv)
    refine rn_tswitch (tgt := 120) dX8_about_1 (Or.inr ⟨hlo, hhi, _, by rw [hv]; rfl, by decide⟩) ?_
    refine rn_aload_n (i := 0) (x := 0) dX8_about_120 rfl (by simp) ?_
    refine rn_getr (t := 39) dX8_about_121 rfl gf_X8_36 rfl rfl ?_
    refine rn_geti dX8_about_124 rfl gf_X8_300 (by decide) ?_
    exact rn_iret dX8_about_127 rfl ⟨_, rfl, h⟩
  · have h := h.2.2.2.2.2.2.2.1 (Int32.toInt_inj.mp hv)
    refine rn_tswitch (tgt := 128) dX8_about_1 (Or.inr ⟨hlo, hhi, _, by rw [hv]; rfl, by decide⟩) ?_
    refine rn_aload_n (i := 0) (x := 0) dX8_about_128 rfl (by simp) ?_
    refine rn_getr (t := 39) dX8_about_129 rfl gf_X8_36 rfl rfl ?_
    refine rn_geti dX8_about_132 rfl gf_X8_303 (by decide) ?_
    exact rn_iret dX8_about_135 rfl ⟨_, rfl, h⟩
  · have h := h.2.2.2.2.2.2.2.2.1 (Int32.toInt_inj.mp hv)
    refine rn_tswitch (tgt := 136) dX8_about_1 (Or.inr ⟨hlo, hhi, _, by rw [hv]; rfl, by decide⟩) ?_
    refine rn_aload_n (i := 0) (x := 0) dX8_about_136 rfl (by simp) ?_
    refine rn_getr (t := 48) dX8_about_137 rfl gf_X8_65 rfl rfl ?_
    refine rn_geti dX8_about_140 rfl gf_X8_306 (by decide) ?_
    exact rn_iret dX8_about_143 rfl ⟨_, rfl, h⟩
  · have h := h.2.2.2.2.2.2.2.2.2.1 (Int32.toInt_inj.mp hv)
    refine rn_tswitch (tgt := 144) dX8_about_1 (Or.inr ⟨hlo, hhi, _, by rw [hv]; rfl, by decide⟩) ?_
    refine rn_aload_n (i := 0) (x := 0) dX8_about_144 rfl (by simp) ?_
    refine rn_geti dX8_about_145 rfl gf_X8_69 (by decide) ?_
    exact rn_iret dX8_about_148 rfl ⟨_, rfl, h⟩
  · have h := h.2.2.2.2.2.2.2.2.2.2.1 (Int32.toInt_inj.mp hv)
    refine rn_tswitch (tgt := 149) dX8_about_1 (Or.inr ⟨hlo, hhi, _, by rw [hv]; rfl, by decide⟩) ?_
    refine rn_aload_n (i := 0) (x := 0) dX8_about_149 rfl (by simp) ?_
    refine rn_getr (t := 1) dX8_about_150 rfl gf_X8_10 rfl rfl ?_
    refine rn_geti dX8_about_153 rfl gf_X8_78 (by decide) ?_
    exact rn_iret dX8_about_156 rfl ⟨_, rfl, h⟩
  · have h := h.2.2.2.2.2.2.2.2.2.2.2.1 (Int32.toInt_inj.mp hv)
    refine rn_tswitch (tgt := 157) dX8_about_1 (Or.inr ⟨hlo, hhi, _, by rw [hv]; rfl, by decide⟩) ?_
    refine rn_aload_n (i := 0) (x := 0) dX8_about_157 rfl (by simp) ?_
    obtain ⟨t3, ht3e, ht3, h⟩ := h
    refine rn_getd dX8_about_158 rfl gf_X8_19 rfl ht3e ?_
    refine rn_getr (t := t3 + 7) dX8_about_161 ht3 gf_X8_129 rfl (telling_refs _ ht3).2.1.1 ?_
    refine rn_geti dX8_about_164 (telling_refs _ ht3).2.1.2 gf_X8_309 (by decide) ?_
    exact rn_iret dX8_about_167 rfl ⟨_, rfl, h⟩
  · have h := h.2.2.2.2.2.2.2.2.2.2.2.2.1 (Int32.toInt_inj.mp hv)
    refine rn_tswitch (tgt := 168) dX8_about_1 (Or.inr ⟨hlo, hhi, _, by rw [hv]; rfl, by decide⟩) ?_
    refine rn_aload_n (i := 0) (x := 0) dX8_about_168 rfl (by simp) ?_
    refine rn_geti dX8_about_169 rfl gf_X8_75 (by decide) ?_
    exact rn_iret dX8_about_172 rfl ⟨_, rfl, h⟩
  · have h := h.2.2.2.2.2.2.2.2.2.2.2.2.2.1 (Int32.toInt_inj.mp hv)
    refine rn_tswitch (tgt := 173) dX8_about_1 (Or.inr ⟨hlo, hhi, _, by rw [hv]; rfl, by decide⟩) ?_
    refine rn_aload_n (i := 0) (x := 0) dX8_about_173 rfl (by simp) ?_
    obtain ⟨t4, ht4e, ht4, h⟩ := h
    refine rn_getd dX8_about_174 rfl gf_X8_19 rfl ht4e ?_
    refine rn_geti dX8_about_177 ht4 gf_X8_182 (by decide) ?_
    exact rn_iret dX8_about_180 rfl ⟨_, rfl, h⟩
theorem dX8_lowest_0 : decode μX8_lowest.2.1 0 = .ok (.iconst 0, 1) := by decide +kernel
theorem dX8_lowest_1 : decode μX8_lowest.2.1 1 = .ok (.istore_n 1, 1) := by decide +kernel
theorem dX8_lowest_2 : decode μX8_lowest.2.1 2 = .ok (.iload_n 1, 1) := by decide +kernel
theorem dX8_lowest_3 : decode μX8_lowest.2.1 3 = .ok (.bipush 8, 2) := by decide +kernel
theorem dX8_lowest_5 : decode μX8_lowest.2.1 5 = .ok (.if_icmp .ge 20, 3) := by decide +kernel
theorem dX8_lowest_8 : decode μX8_lowest.2.1 8 = .ok (.iload_n 0, 1) := by decide +kernel
theorem dX8_lowest_9 : decode μX8_lowest.2.1 9 = .ok (.iload_n 1, 1) := by decide +kernel
theorem dX8_lowest_10 : decode μX8_lowest.2.1 10 = .ok (.ishr, 1) := by decide +kernel
theorem dX8_lowest_11 : decode μX8_lowest.2.1 11 = .ok (.iconst 1, 1) := by decide +kernel
theorem dX8_lowest_12 : decode μX8_lowest.2.1 12 = .ok (.iand, 1) := by decide +kernel
theorem dX8_lowest_13 : decode μX8_lowest.2.1 13 = .ok (.iconst 1, 1) := by decide +kernel
theorem dX8_lowest_14 : decode μX8_lowest.2.1 14 = .ok (.if_icmp .ne 5, 3) := by decide +kernel
theorem dX8_lowest_17 : decode μX8_lowest.2.1 17 = .ok (.iload_n 1, 1) := by decide +kernel
theorem dX8_lowest_18 : decode μX8_lowest.2.1 18 = .ok (.ireturn, 1) := by decide +kernel
theorem dX8_lowest_19 : decode μX8_lowest.2.1 19 = .ok (.iinc 1 1, 3) := by decide +kernel
theorem dX8_lowest_22 : decode μX8_lowest.2.1 22 = .ok (.goto (-20), 3) := by decide +kernel
theorem dX8_lowest_25 : decode μX8_lowest.2.1 25 = .ok (.iconst (-1), 1) := by decide +kernel
theorem dX8_lowest_26 : decode μX8_lowest.2.1 26 = .ok (.ireturn, 1) := by decide +kernel
set_option maxRecDepth 20000 in
theorem sg_X8_lowest_0 {d : Nat} {x0 : Int32} {M : Mem} {K : (Int32 → Mem → Prop)}  (h : RI d μX8_lowest 2 [(0, .int x0), (1, .int 0)] [] M K) : CI d μX8_lowest [.int x0] M K := by
  show Rn d μX8_lowest 0 [(0, .int x0)] [] M _
  refine rn_iconst (v := 0) dX8_lowest_0 rfl ?_
  refine rn_istore_n (lv' := [(0, .int x0), (1, .int 0)]) (hd := dX8_lowest_1) (i := 1) (hi := rfl) (hn := by decide) (hf := rfl) (hl := rfl) ?_
  exact h
set_option maxRecDepth 20000 in
theorem sg_X8_lowest_2 {d : Nat} {x0 : Int32} {x1 : Int32} {M : Mem} {K : (Int32 → Mem → Prop)}  (h : (if 8 ≤ x1 then K ((-1)) M else (if (x0 >>> (x1 &&& 31)) &&& 1 = 1 then K x1 M else RI d μX8_lowest 2 [(0, .int x0), (1, .int (x1 + 1))] [] M K))) : RI d μX8_lowest 2 [(0, .int x0), (1, .int x1)] [] M K := by
  show Rn d μX8_lowest 2 [(0, .int x0), (1, .int x1)] [] M _
  refine rn_iload_n (i := 1) (x := x1) dX8_lowest_2 rfl (by simp) ?_
  refine rn_bipush (v := 8) dX8_lowest_3 rfl ?_
  refine rn_icmp_ge (tgt := 25) dX8_lowest_5 (by decide) (ite_go h (fun hc h => ?_) (fun hc h => ?_))
  · refine rn_iconst (v := -1) dX8_lowest_25 rfl ?_
    exact rn_iret dX8_lowest_26 rfl ⟨_, rfl, h⟩
  · refine rn_iload_n (i := 0) (x := x0) dX8_lowest_8 rfl (by simp) ?_
    refine rn_iload_n (i := 1) (x := x1) dX8_lowest_9 rfl (by simp) ?_
    refine rn_ishr dX8_lowest_10 ?_
    refine rn_iconst (v := 1) dX8_lowest_11 rfl ?_
    refine rn_iand dX8_lowest_12 ?_
    refine rn_iconst (v := 1) dX8_lowest_13 rfl ?_
    refine rn_icmp_ne (tgt := 19) dX8_lowest_14 (by decide) (ite_go h (fun hc h => ?_) (fun hc h => ?_))
    · refine rn_iload_n (i := 1) (x := x1) dX8_lowest_17 rfl (by simp) ?_
      exact rn_iret dX8_lowest_18 rfl ⟨_, rfl, h⟩
    · refine rn_iinc (x := x1) (v := x1 + 1) (lv' := [(0, .int x0), (1, .int (x1 + 1))]) dX8_lowest_19 (by simp) rfl (by decide) rfl rfl ?_
      refine rn_goto (tgt := 2) dX8_lowest_22 (by decide) ?_
      exact h
