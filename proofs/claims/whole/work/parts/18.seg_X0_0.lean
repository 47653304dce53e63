theorem dX0_countRests_0 : decode μX0_countRests.2.1 0 = .ok (.aload_n 0, 1) := by decide +kernel
theorem dX0_countRests_1 : decode μX0_countRests.2.1 1 = .ok (.aload_n 1, 1) := by decide +kernel
theorem dX0_countRests_2 : decode μX0_countRests.2.1 2 = .ok (.iload_n 3, 1) := by decide +kernel
theorem dX0_countRests_3 : decode μX0_countRests.2.1 3 = .ok (.iload 4, 2) := by decide +kernel
theorem dX0_countRests_5 : decode μX0_countRests.2.1 5 = .ok (.invokestatic 31, 3) := by decide +kernel
theorem dX0_countRests_8 : decode μX0_countRests.2.1 8 = .ok (.putfield 25, 3) := by decide +kernel
theorem dX0_countRests_11 : decode μX0_countRests.2.1 11 = .ok (.aload_n 0, 1) := by decide +kernel
theorem dX0_countRests_12 : decode μX0_countRests.2.1 12 = .ok (.aload_n 1, 1) := by decide +kernel
theorem dX0_countRests_13 : decode μX0_countRests.2.1 13 = .ok (.iload 4, 2) := by decide +kernel
theorem dX0_countRests_15 : decode μX0_countRests.2.1 15 = .ok (.iload_n 3, 1) := by decide +kernel
theorem dX0_countRests_16 : decode μX0_countRests.2.1 16 = .ok (.invokestatic 31, 3) := by decide +kernel
theorem dX0_countRests_19 : decode μX0_countRests.2.1 19 = .ok (.putfield 28, 3) := by decide +kernel
theorem dX0_countRests_22 : decode μX0_countRests.2.1 22 = .ok (.iconst 0, 1) := by decide +kernel
theorem dX0_countRests_23 : decode μX0_countRests.2.1 23 = .ok (.istore 5, 2) := by decide +kernel
theorem dX0_countRests_25 : decode μX0_countRests.2.1 25 = .ok (.iload 5, 2) := by decide +kernel
theorem dX0_countRests_27 : decode μX0_countRests.2.1 27 = .ok (.bipush 9, 2) := by decide +kernel
theorem dX0_countRests_29 : decode μX0_countRests.2.1 29 = .ok (.if_icmp .ge 101, 3) := by decide +kernel
theorem dX0_countRests_32 : decode μX0_countRests.2.1 32 = .ok (.iconst 0, 1) := by decide +kernel
theorem dX0_countRests_33 : decode μX0_countRests.2.1 33 = .ok (.istore 6, 2) := by decide +kernel
theorem dX0_countRests_35 : decode μX0_countRests.2.1 35 = .ok (.iload 6, 2) := by decide +kernel
theorem dX0_countRests_37 : decode μX0_countRests.2.1 37 = .ok (.bipush 9, 2) := by decide +kernel
theorem dX0_countRests_39 : decode μX0_countRests.2.1 39 = .ok (.if_icmp .ge 85, 3) := by decide +kernel
theorem dX0_countRests_42 : decode μX0_countRests.2.1 42 = .ok (.aload_n 0, 1) := by decide +kernel
theorem dX0_countRests_43 : decode μX0_countRests.2.1 43 = .ok (.iload 5, 2) := by decide +kernel
theorem dX0_countRests_45 : decode μX0_countRests.2.1 45 = .ok (.iload 6, 2) := by decide +kernel
theorem dX0_countRests_47 : decode μX0_countRests.2.1 47 = .ok (.invokevirtual 35, 3) := by decide +kernel
theorem dX0_countRests_50 : decode μX0_countRests.2.1 50 = .ok (.ifCond .eq 68, 3) := by decide +kernel
theorem dX0_countRests_53 : decode μX0_countRests.2.1 53 = .ok (.aload_n 2, 1) := by decide +kernel
theorem dX0_countRests_54 : decode μX0_countRests.2.1 54 = .ok (.aload_n 1, 1) := by decide +kernel
theorem dX0_countRests_55 : decode μX0_countRests.2.1 55 = .ok (.invokevirtual 39, 3) := by decide +kernel
theorem dX0_countRests_58 : decode μX0_countRests.2.1 58 = .ok (.aload_n 2, 1) := by decide +kernel
theorem dX0_countRests_59 : decode μX0_countRests.2.1 59 = .ok (.iload_n 3, 1) := by decide +kernel
theorem dX0_countRests_60 : decode μX0_countRests.2.1 60 = .ok (.iload 5, 2) := by decide +kernel
theorem dX0_countRests_62 : decode μX0_countRests.2.1 62 = .ok (.iconst 1, 1) := by decide +kernel
theorem dX0_countRests_63 : decode μX0_countRests.2.1 63 = .ok (.isub, 1) := by decide +kernel
theorem dX0_countRests_64 : decode μX0_countRests.2.1 64 = .ok (.invokevirtual 45, 3) := by decide +kernel
theorem dX0_countRests_67 : decode μX0_countRests.2.1 67 = .ok (.pop, 1) := by decide +kernel
theorem dX0_countRests_68 : decode μX0_countRests.2.1 68 = .ok (.aload_n 2, 1) := by decide +kernel
theorem dX0_countRests_69 : decode μX0_countRests.2.1 69 = .ok (.iload 4, 2) := by decide +kernel
theorem dX0_countRests_71 : decode μX0_countRests.2.1 71 = .ok (.iload 6, 2) := by decide +kernel
theorem dX0_countRests_73 : decode μX0_countRests.2.1 73 = .ok (.iconst 1, 1) := by decide +kernel
theorem dX0_countRests_74 : decode μX0_countRests.2.1 74 = .ok (.isub, 1) := by decide +kernel
theorem dX0_countRests_75 : decode μX0_countRests.2.1 75 = .ok (.invokevirtual 45, 3) := by decide +kernel
theorem dX0_countRests_78 : decode μX0_countRests.2.1 78 = .ok (.pop, 1) := by decide +kernel
theorem dX0_countRests_79 : decode μX0_countRests.2.1 79 = .ok (.aload_n 0, 1) := by decide +kernel
theorem dX0_countRests_80 : decode μX0_countRests.2.1 80 = .ok (.getfield 18, 3) := by decide +kernel
theorem dX0_countRests_83 : decode μX0_countRests.2.1 83 = .ok (.iload 5, 2) := by decide +kernel
theorem dX0_countRests_85 : decode μX0_countRests.2.1 85 = .ok (.bipush 9, 2) := by decide +kernel
theorem dX0_countRests_87 : decode μX0_countRests.2.1 87 = .ok (.imul, 1) := by decide +kernel
theorem dX0_countRests_88 : decode μX0_countRests.2.1 88 = .ok (.iload 6, 2) := by decide +kernel
theorem dX0_countRests_90 : decode μX0_countRests.2.1 90 = .ok (.iadd, 1) := by decide +kernel
theorem dX0_countRests_91 : decode μX0_countRests.2.1 91 = .ok (.aload_n 2, 1) := by decide +kernel
theorem dX0_countRests_92 : decode μX0_countRests.2.1 92 = .ok (.getfield 48, 3) := by decide +kernel
theorem dX0_countRests_95 : decode μX0_countRests.2.1 95 = .ok (.iload_n 3, 1) := by decide +kernel
theorem dX0_countRests_96 : decode μX0_countRests.2.1 96 = .ok (.iaload, 1) := by decide +kernel
theorem dX0_countRests_97 : decode μX0_countRests.2.1 97 = .ok (.iastore, 1) := by decide +kernel
theorem dX0_countRests_98 : decode μX0_countRests.2.1 98 = .ok (.aload_n 0, 1) := by decide +kernel
theorem dX0_countRests_99 : decode μX0_countRests.2.1 99 = .ok (.getfield 22, 3) := by decide +kernel
theorem dX0_countRests_102 : decode μX0_countRests.2.1 102 = .ok (.iload 5, 2) := by decide +kernel
theorem dX0_countRests_104 : decode μX0_countRests.2.1 104 = .ok (.bipush 9, 2) := by decide +kernel
theorem dX0_countRests_106 : decode μX0_countRests.2.1 106 = .ok (.imul, 1) := by decide +kernel
theorem dX0_countRests_107 : decode μX0_countRests.2.1 107 = .ok (.iload 6, 2) := by decide +kernel
theorem dX0_countRests_109 : decode μX0_countRests.2.1 109 = .ok (.iadd, 1) := by decide +kernel
theorem dX0_countRests_110 : decode μX0_countRests.2.1 110 = .ok (.aload_n 2, 1) := by decide +kernel
theorem dX0_countRests_111 : decode μX0_countRests.2.1 111 = .ok (.getfield 48, 3) := by decide +kernel
theorem dX0_countRests_114 : decode μX0_countRests.2.1 114 = .ok (.iload 4, 2) := by decide +kernel
theorem dX0_countRests_116 : decode μX0_countRests.2.1 116 = .ok (.iaload, 1) := by decide +kernel
theorem dX0_countRests_117 : decode μX0_countRests.2.1 117 = .ok (.iastore, 1) := by decide +kernel
theorem dX0_countRests_118 : decode μX0_countRests.2.1 118 = .ok (.iinc 6 1, 3) := by decide +kernel
theorem dX0_countRests_121 : decode μX0_countRests.2.1 121 = .ok (.goto (-86), 3) := by decide +kernel
theorem dX0_countRests_124 : decode μX0_countRests.2.1 124 = .ok (.iinc 5 1, 3) := by decide +kernel
theorem dX0_countRests_127 : decode μX0_countRests.2.1 127 = .ok (.goto (-102), 3) := by decide +kernel
theorem dX0_countRests_130 : decode μX0_countRests.2.1 130 = .ok (.iconst 0, 1) := by decide +kernel
theorem dX0_countRests_131 : decode μX0_countRests.2.1 131 = .ok (.istore 5, 2) := by decide +kernel
theorem dX0_countRests_133 : decode μX0_countRests.2.1 133 = .ok (.iconst 0, 1) := by decide +kernel
theorem dX0_countRests_134 : decode μX0_countRests.2.1 134 = .ok (.istore 6, 2) := by decide +kernel
theorem dX0_countRests_136 : decode μX0_countRests.2.1 136 = .ok (.iload 6, 2) := by decide +kernel
theorem dX0_countRests_138 : decode μX0_countRests.2.1 138 = .ok (.bipush 9, 2) := by decide +kernel
theorem dX0_countRests_140 : decode μX0_countRests.2.1 140 = .ok (.if_icmp .ge 71, 3) := by decide +kernel
theorem dX0_countRests_143 : decode μX0_countRests.2.1 143 = .ok (.iconst 0, 1) := by decide +kernel
theorem dX0_countRests_144 : decode μX0_countRests.2.1 144 = .ok (.istore 7, 2) := by decide +kernel
theorem dX0_countRests_146 : decode μX0_countRests.2.1 146 = .ok (.iload 7, 2) := by decide +kernel
theorem dX0_countRests_148 : decode μX0_countRests.2.1 148 = .ok (.bipush 9, 2) := by decide +kernel
theorem dX0_countRests_150 : decode μX0_countRests.2.1 150 = .ok (.if_icmp .ge 55, 3) := by decide +kernel
theorem dX0_countRests_153 : decode μX0_countRests.2.1 153 = .ok (.aload_n 0, 1) := by decide +kernel
theorem dX0_countRests_154 : decode μX0_countRests.2.1 154 = .ok (.iload 6, 2) := by decide +kernel
theorem dX0_countRests_156 : decode μX0_countRests.2.1 156 = .ok (.iload 7, 2) := by decide +kernel
theorem dX0_countRests_158 : decode μX0_countRests.2.1 158 = .ok (.invokevirtual 35, 3) := by decide +kernel
theorem dX0_countRests_161 : decode μX0_countRests.2.1 161 = .ok (.ifCond .eq 38, 3) := by decide +kernel
theorem dX0_countRests_164 : decode μX0_countRests.2.1 164 = .ok (.aload_n 0, 1) := by decide +kernel
theorem dX0_countRests_165 : decode μX0_countRests.2.1 165 = .ok (.iload 6, 2) := by decide +kernel
theorem dX0_countRests_167 : decode μX0_countRests.2.1 167 = .ok (.iload 7, 2) := by decide +kernel
theorem dX0_countRests_169 : decode μX0_countRests.2.1 169 = .ok (.invokevirtual 51, 3) := by decide +kernel
theorem dX0_countRests_172 : decode μX0_countRests.2.1 172 = .ok (.ifCond .eq 27, 3) := by decide +kernel
theorem dX0_countRests_175 : decode μX0_countRests.2.1 175 = .ok (.iload 5, 2) := by decide +kernel
theorem dX0_countRests_177 : decode μX0_countRests.2.1 177 = .ok (.ifCond .ne 19, 3) := by decide +kernel
theorem dX0_countRests_180 : decode μX0_countRests.2.1 180 = .ok (.aload_n 0, 1) := by decide +kernel
theorem dX0_countRests_181 : decode μX0_countRests.2.1 181 = .ok (.iload 6, 2) := by decide +kernel
theorem dX0_countRests_183 : decode μX0_countRests.2.1 183 = .ok (.iconst 1, 1) := by decide +kernel
theorem dX0_countRests_184 : decode μX0_countRests.2.1 184 = .ok (.isub, 1) := by decide +kernel
theorem dX0_countRests_185 : decode μX0_countRests.2.1 185 = .ok (.putfield 9, 3) := by decide +kernel
theorem dX0_countRests_188 : decode μX0_countRests.2.1 188 = .ok (.aload_n 0, 1) := by decide +kernel
theorem dX0_countRests_189 : decode μX0_countRests.2.1 189 = .ok (.iload 7, 2) := by decide +kernel
theorem dX0_countRests_191 : decode μX0_countRests.2.1 191 = .ok (.iconst 1, 1) := by decide +kernel
theorem dX0_countRests_192 : decode μX0_countRests.2.1 192 = .ok (.isub, 1) := by decide +kernel
theorem dX0_countRests_193 : decode μX0_countRests.2.1 193 = .ok (.putfield 15, 3) := by decide +kernel
theorem dX0_countRests_196 : decode μX0_countRests.2.1 196 = .ok (.iinc 5 1, 3) := by decide +kernel
theorem dX0_countRests_199 : decode μX0_countRests.2.1 199 = .ok (.iinc 7 1, 3) := by decide +kernel
theorem dX0_countRests_202 : decode μX0_countRests.2.1 202 = .ok (.goto (-56), 3) := by decide +kernel
theorem dX0_countRests_205 : decode μX0_countRests.2.1 205 = .ok (.iinc 6 1, 3) := by decide +kernel
theorem dX0_countRests_208 : decode μX0_countRests.2.1 208 = .ok (.goto (-72), 3) := by decide +kernel
theorem dX0_countRests_211 : decode μX0_countRests.2.1 211 = .ok (.iload 5, 2) := by decide +kernel
theorem dX0_countRests_213 : decode μX0_countRests.2.1 213 = .ok (.ireturn, 1) := by decide +kernel
set_option maxRecDepth 20000 in
theorem sg_X0_countRests_0 {d : Nat} {o : Nat} {o' : Nat} {x3 : Int32} {x4 : Int32} {M : Mem} {K : (Int32 → Mem → Prop)} (ho : kd o = (0, 2)) (ho' : kd o' = (0, 2)) (h : (CI d μX0_choicesOf [.ref o, .int x3, .int x4] M (fun r2 M1 => (∀ M3, M3 = wi M1 45 4 r2 → (CI d μX0_choicesOf [.ref o, .int x4, .int x3] M3 (fun r5 M4 => (∀ M6, M6 = wi M4 45 5 r5 → RI (d + 1) μX0_countRests 25 [(0, .ref 45), (1, .ref o), (2, .ref o'), (3, .int x3), (4, .int x4), (5, .int 0)] [] M6 K))))))) : CI (d + 1) μX0_countRests [.ref 45, .ref o, .ref o', .int x3, .int x4] M K := by
  show Rn (d + 1) μX0_countRests 0 [(0, .ref 45), (1, .ref o), (2, .ref o'), (3, .int x3), (4, .int x4)] [] M _
  refine rn_aload_n (i := 0) (x := 45) dX0_countRests_0 rfl (by simp) ?_
  refine rn_aload_n (i := 1) (x := o) dX0_countRests_1 rfl (by simp) ?_
  refine rn_iload_n (i := 3) (x := x3) dX0_countRests_2 rfl (by simp) ?_
  refine rn_iload (x := x4) dX0_countRests_3 (by simp) ?_
  refine rn_callSi (as := [.ref o, .int x3, .int x4]) (st := [.ref 45]) dX0_countRests_5 mf_X0_choicesOf lk_X0_31 sm_X0_choicesOf rfl (Nat.le_of_ble_eq_true rfl) (Nat.le_of_ble_eq_true rfl) rfl (RI.mono h (fun r2 M1 h => ?_))
  have h := h _ rfl
  refine rn_puti dX0_countRests_8 rfl pf_X0_25 (by decide) rfl rfl ?_
  generalize wi M1 45 4 r2 = M3 at h ⊢
  refine rn_aload_n (i := 0) (x := 45) dX0_countRests_11 rfl (by simp) ?_
  refine rn_aload_n (i := 1) (x := o) dX0_countRests_12 rfl (by simp) ?_
  refine rn_iload (x := x4) dX0_countRests_13 (by simp) ?_
  refine rn_iload_n (i := 3) (x := x3) dX0_countRests_15 rfl (by simp) ?_
  refine rn_callSi (as := [.ref o, .int x4, .int x3]) (st := [.ref 45]) dX0_countRests_16 mf_X0_choicesOf lk_X0_31 sm_X0_choicesOf rfl (Nat.le_of_ble_eq_true rfl) (Nat.le_of_ble_eq_true rfl) rfl (RI.mono h (fun r5 M4 h => ?_))
  have h := h _ rfl
  refine rn_puti dX0_countRests_19 rfl pf_X0_28 (by decide) rfl rfl ?_
  generalize wi M4 45 5 r5 = M6 at h ⊢
  refine rn_iconst (v := 0) dX0_countRests_22 rfl ?_
  refine rn_istore (lv' := [(0, .ref 45), (1, .ref o), (2, .ref o'), (3, .int x3), (4, .int x4), (5, .int 0)]) (hd := dX0_countRests_23) (hn := by decide) (hf := rfl) (hl := rfl) ?_
  exact h
set_option maxRecDepth 20000 in
theorem sg_X0_countRests_25 {d : Nat} {o : Nat} {o' : Nat} {x3 : Int32} {x4 : Int32} {x5 : Int32} {M : Mem} {K : (Int32 → Mem → Prop)} (ho : kd o = (0, 2)) (ho' : kd o' = (0, 2)) (h : (if 9 ≤ x5 then RI (d + 1) μX0_countRests 136 [(0, .ref 45), (1, .ref o), (2, .ref o'), (3, .int x3), (4, .int x4), (5, .int 0), (6, .int 0)] [] M K else RI (d + 1) μX0_countRests 35 [(0, .ref 45), (1, .ref o), (2, .ref o'), (3, .int x3), (4, .int x4), (5, .int x5), (6, .int 0)] [] M K)) : RI (d + 1) μX0_countRests 25 [(0, .ref 45), (1, .ref o), (2, .ref o'), (3, .int x3), (4, .int x4), (5, .int x5)] [] M K := by
  show Rn (d + 1) μX0_countRests 25 [(0, .ref 45), (1, .ref o), (2, .ref o'), (3, .int x3), (4, .int x4), (5, .int x5)] [] M _
  refine rn_iload (x := x5) dX0_countRests_25 (by simp) ?_
  refine rn_bipush (v := 9) dX0_countRests_27 rfl ?_
  refine rn_icmp_ge (tgt := 130) dX0_countRests_29 (by decide) (ite_go h (fun hc h => ?_) (fun hc h => ?_))
  · refine rn_iconst (v := 0) dX0_countRests_130 rfl ?_
    refine rn_istore (lv' := [(0, .ref 45), (1, .ref o), (2, .ref o'), (3, .int x3), (4, .int x4), (5, .int 0)]) (hd := dX0_countRests_131) (hn := by decide) (hf := rfl) (hl := rfl) ?_
    refine rn_iconst (v := 0) dX0_countRests_133 rfl ?_
    refine rn_istore (lv' := [(0, .ref 45), (1, .ref o), (2, .ref o'), (3, .int x3), (4, .int x4), (5, .int 0), (6, .int 0)]) (hd := dX0_countRests_134) (hn := by decide) (hf := rfl) (hl := rfl) ?_
    exact h
  · refine rn_iconst (v := 0) dX0_countRests_32 rfl ?_
    refine rn_istore (lv' := [(0, .ref 45), (1, .ref o), (2, .ref o'), (3, .int x3), (4, .int x4), (5, .int x5), (6, .int 0)]) (hd := dX0_countRests_33) (hn := by decide) (hf := rfl) (hl := rfl) ?_
    exact h
set_option maxRecDepth 20000 in
theorem sg_X0_countRests_35 {d : Nat} {o : Nat} {o' : Nat} {x3 : Int32} {x4 : Int32} {x5 : Int32} {x6 : Int32} {M : Mem} {K : (Int32 → Mem → Prop)} (ho : kd o = (0, 2)) (ho' : kd o' = (0, 2)) (h : (if 9 ≤ x6 then RI (d + 1) μX0_countRests 25 [(0, .ref 45), (1, .ref o), (2, .ref o'), (3, .int x3), (4, .int x4), (5, .int (x5 + 1))] [] M K else (CI d μX0_mayBe [.ref 45, .int x5, .int x6] M (fun r2 M1 => (if r2 = 0 then RI (d + 1) μX0_countRests 35 [(0, .ref 45), (1, .ref o), (2, .ref o'), (3, .int x3), (4, .int x4), (5, .int x5), (6, .int (x6 + 1))] [] M1 K else (CV d μX2_copyFrom [.ref o', .ref o] M1 (fun M3 => (CI d μX2_merge [.ref o', .int x3, .int (x5 - 1)] M3 (fun r5 M4 => (CI d μX2_merge [.ref o', .int x4, .int (x6 - 1)] M4 (fun r7 M6 => (vp_in x3 8 ∧ (vp_in ((x5 * 9) + x6) 81 ∧ ∀ M8, M8 = wi M6 46 (nx ((x5 * 9) + x6)) (ri M6 (o' + 4) (nx x3)) → (vp_in x4 8 ∧ (vp_in ((x5 * 9) + x6) 81 ∧ ∀ M9, M9 = wi M8 47 (nx ((x5 * 9) + x6)) (ri M8 (o' + 4) (nx x4)) → RI (d + 1) μX0_countRests 35 [(0, .ref 45), (1, .ref o), (2, .ref o'), (3, .int x3), (4, .int x4), (5, .int x5), (6, .int (x6 + 1))] [] M9 K))))))))))))))) : RI (d + 1) μX0_countRests 35 [(0, .ref 45), (1, .ref o), (2, .ref o'), (3, .int x3), (4, .int x4), (5, .int x5), (6, .int x6)] [] M K := by
  show Rn (d + 1) μX0_countRests 35 [(0, .ref 45), (1, .ref o), (2, .ref o'), (3, .int x3), (4, .int x4), (5, .int x5), (6, .int x6)] [] M _
  refine rn_iload (x := x6) dX0_countRests_35 (by simp) ?_
  refine rn_bipush (v := 9) dX0_countRests_37 rfl ?_
  refine rn_icmp_ge (tgt := 124) dX0_countRests_39 (by decide) (ite_go h (fun hc h => ?_) (fun hc h => ?_))
  · refine rn_iinc (x := x5) (v := x5 + 1) (lv' := [(0, .ref 45), (1, .ref o), (2, .ref o'), (3, .int x3), (4, .int x4), (5, .int (x5 + 1)), (6, .int x6)]) dX0_countRests_124 (by simp) rfl (by decide) rfl rfl ?_
    refine rn_goto (tgt := 25) dX0_countRests_127 (by decide) ?_
    refine Rn.sub (lv' := [(0, .ref 45), (1, .ref o), (2, .ref o'), (3, .int x3), (4, .int x4), (5, .int (x5 + 1))]) (by simp) ?_
    exact h
  · refine rn_aload_n (i := 0) (x := 45) dX0_countRests_42 rfl (by simp) ?_
    refine rn_iload (x := x5) dX0_countRests_43 (by simp) ?_
    refine rn_iload (x := x6) dX0_countRests_45 (by simp) ?_
    refine rn_callVi (as := [.int x5, .int x6]) (st := []) dX0_countRests_47 mf_X0_mayBe lk_X0_35 im_X0_mayBe rfl rfl rfl rfl (Nat.le_of_ble_eq_true rfl) (Nat.le_of_ble_eq_true rfl) rfl (RI.mono h (fun r2 M1 h => ?_))
    refine rn_if_eq (tgt := 118) dX0_countRests_50 (by decide) (ite_go h (fun hc h => ?_) (fun hc h => ?_))
    · refine rn_iinc (x := x6) (v := x6 + 1) (lv' := [(0, .ref 45), (1, .ref o), (2, .ref o'), (3, .int x3), (4, .int x4), (5, .int x5), (6, .int (x6 + 1))]) dX0_countRests_118 (by simp) rfl (by decide) rfl rfl ?_
      refine rn_goto (tgt := 35) dX0_countRests_121 (by decide) ?_
      exact h
    · refine rn_aload_n (i := 2) (x := o') dX0_countRests_53 rfl (by simp) ?_
      refine rn_aload_n (i := 1) (x := o) dX0_countRests_54 rfl (by simp) ?_
      refine rn_callVv (as := [.ref o]) (st := []) dX0_countRests_55 mf_X2_copyFrom lk_X0_39 im_X2_copyFrom ho' rfl rfl rfl (Nat.le_of_ble_eq_true rfl) (Nat.le_of_ble_eq_true rfl) rfl (RV.mono h (fun M3 h => ?_))
      refine rn_aload_n (i := 2) (x := o') dX0_countRests_58 rfl (by simp) ?_
      refine rn_iload_n (i := 3) (x := x3) dX0_countRests_59 rfl (by simp) ?_
      refine rn_iload (x := x5) dX0_countRests_60 (by simp) ?_
      refine rn_iconst (v := 1) dX0_countRests_62 rfl ?_
      refine rn_isub dX0_countRests_63 ?_
      refine rn_callVi (as := [.int x3, .int (x5 - 1)]) (st := []) dX0_countRests_64 mf_X2_merge lk_X0_45 im_X2_merge ho' rfl rfl rfl (Nat.le_of_ble_eq_true rfl) (Nat.le_of_ble_eq_true rfl) rfl (RI.mono h (fun r5 M4 h => ?_))
      refine rn_pop dX0_countRests_67 rfl ?_
      refine rn_aload_n (i := 2) (x := o') dX0_countRests_68 rfl (by simp) ?_
      refine rn_iload (x := x4) dX0_countRests_69 (by simp) ?_
      refine rn_iload (x := x6) dX0_countRests_71 (by simp) ?_
      refine rn_iconst (v := 1) dX0_countRests_73 rfl ?_
      refine rn_isub dX0_countRests_74 ?_
      refine rn_callVi (as := [.int x4, .int (x6 - 1)]) (st := []) dX0_countRests_75 mf_X2_merge lk_X0_45 im_X2_merge ho' rfl rfl rfl (Nat.le_of_ble_eq_true rfl) (Nat.le_of_ble_eq_true rfl) rfl (RI.mono h (fun r7 M6 h => ?_))
      refine rn_pop dX0_countRests_78 rfl ?_
      refine rn_aload_n (i := 0) (x := 45) dX0_countRests_79 rfl (by simp) ?_
      refine rn_getr (t := 46) dX0_countRests_80 rfl gf_X0_18 rfl rfl ?_
      refine rn_iload (x := x5) dX0_countRests_83 (by simp) ?_
      refine rn_bipush (v := 9) dX0_countRests_85 rfl ?_
      refine rn_imul dX0_countRests_87 ?_
      refine rn_iload (x := x6) dX0_countRests_88 (by simp) ?_
      refine rn_iadd dX0_countRests_90 ?_
      refine rn_aload_n (i := 2) (x := o') dX0_countRests_91 rfl (by simp) ?_
      refine rn_getr (t := o' + 4) dX0_countRests_92 ho' gf_X0_48 rfl (froth_refs _ ho').2.2.2.1.1 ?_
      refine rn_iload_n (i := 3) (x := x3) dX0_countRests_95 rfl (by simp) ?_
      obtain ⟨hi, h⟩ := h
      refine rn_iaload dX0_countRests_96 (froth_refs _ ho').2.2.2.1.2 hi ?_
      obtain ⟨hi, h⟩ := h
      have h := h _ rfl
      refine rn_iastore dX0_countRests_97 rfl hi ?_
      generalize wi M6 46 (nx ((x5 * 9) + x6)) (ri M6 (o' + 4) (nx x3)) = M8 at h ⊢
      refine rn_aload_n (i := 0) (x := 45) dX0_countRests_98 rfl (by simp) ?_
      refine rn_getr (t := 47) dX0_countRests_99 rfl gf_X0_22 rfl rfl ?_
      refine rn_iload (x := x5) dX0_countRests_102 (by simp) ?_
      refine rn_bipush (v := 9) dX0_countRests_104 rfl ?_
      refine rn_imul dX0_countRests_106 ?_
      refine rn_iload (x := x6) dX0_countRests_107 (by simp) ?_
      refine rn_iadd dX0_countRests_109 ?_
      refine rn_aload_n (i := 2) (x := o') dX0_countRests_110 rfl (by simp) ?_
      refine rn_getr (t := o' + 4) dX0_countRests_111 ho' gf_X0_48 rfl (froth_refs _ ho').2.2.2.1.1 ?_
      refine rn_iload (x := x4) dX0_countRests_114 (by simp) ?_
      obtain ⟨hi, h⟩ := h
      refine rn_iaload dX0_countRests_116 (froth_refs _ ho').2.2.2.1.2 hi ?_
      obtain ⟨hi, h⟩ := h
      have h := h _ rfl
      refine rn_iastore dX0_countRests_117 rfl hi ?_
      generalize wi M8 47 (nx ((x5 * 9) + x6)) (ri M8 (o' + 4) (nx x4)) = M9 at h ⊢
      refine rn_iinc (x := x6) (v := x6 + 1) (lv' := [(0, .ref 45), (1, .ref o), (2, .ref o'), (3, .int x3), (4, .int x4), (5, .int x5), (6, .int (x6 + 1))]) dX0_countRests_118 (by simp) rfl (by decide) rfl rfl ?_
      refine rn_goto (tgt := 35) dX0_countRests_121 (by decide) ?_
      exact h
set_option maxRecDepth 20000 in
theorem sg_X0_countRests_136 {d : Nat} {o : Nat} {o' : Nat} {x3 : Int32} {x4 : Int32} {x5 : Int32} {x6 : Int32} {M : Mem} {K : (Int32 → Mem → Prop)} (ho : kd o = (0, 2)) (ho' : kd o' = (0, 2)) (h : (if 9 ≤ x6 then K x5 M else RI (d + 1) μX0_countRests 146 [(0, .ref 45), (1, .ref o), (2, .ref o'), (3, .int x3), (4, .int x4), (5, .int x5), (6, .int x6), (7, .int 0)] [] M K)) : RI (d + 1) μX0_countRests 136 [(0, .ref 45), (1, .ref o), (2, .ref o'), (3, .int x3), (4, .int x4), (5, .int x5), (6, .int x6)] [] M K := by
  show Rn (d + 1) μX0_countRests 136 [(0, .ref 45), (1, .ref o), (2, .ref o'), (3, .int x3), (4, .int x4), (5, .int x5), (6, .int x6)] [] M _
  refine rn_iload (x := x6) dX0_countRests_136 (by simp) ?_
  refine rn_bipush (v := 9) dX0_countRests_138 rfl ?_
  refine rn_icmp_ge (tgt := 211) dX0_countRests_140 (by decide) (ite_go h (fun hc h => ?_) (fun hc h => ?_))
  · refine rn_iload (x := x5) dX0_countRests_211 (by simp) ?_
    exact rn_iret dX0_countRests_213 rfl ⟨_, rfl, h⟩
  · refine rn_iconst (v := 0) dX0_countRests_143 rfl ?_
    refine rn_istore (lv' := [(0, .ref 45), (1, .ref o), (2, .ref o'), (3, .int x3), (4, .int x4), (5, .int x5), (6, .int x6), (7, .int 0)]) (hd := dX0_countRests_144) (hn := by decide) (hf := rfl) (hl := rfl) ?_
    exact h
set_option maxRecDepth 20000 in
theorem sg_X0_countRests_146 {d : Nat} {o : Nat} {o' : Nat} {x3 : Int32} {x4 : Int32} {x5 : Int32} {x6 : Int32} {x7 : Int32} {M : Mem} {K : (Int32 → Mem → Prop)} (ho : kd o = (0, 2)) (ho' : kd o' = (0, 2)) (h : (if 9 ≤ x7 then RI (d + 1) μX0_countRests 136 [(0, .ref 45), (1, .ref o), (2, .ref o'), (3, .int x3), (4, .int x4), (5, .int x5), (6, .int (x6 + 1))] [] M K else (CI d μX0_mayBe [.ref 45, .int x6, .int x7] M (fun r2 M1 => (if r2 = 0 then RI (d + 1) μX0_countRests 146 [(0, .ref 45), (1, .ref o), (2, .ref o'), (3, .int x3), (4, .int x4), (5, .int x5), (6, .int x6), (7, .int (x7 + 1))] [] M1 K else (CI d μX0_isRest [.ref 45, .int x6, .int x7] M1 (fun r4 M3 => (if r4 = 0 then RI (d + 1) μX0_countRests 146 [(0, .ref 45), (1, .ref o), (2, .ref o'), (3, .int x3), (4, .int x4), (5, .int x5), (6, .int x6), (7, .int (x7 + 1))] [] M3 K else (if x5 = 0 then (∀ M5, M5 = wi M3 45 0 (x6 - 1) → (∀ M6, M6 = wi M5 45 1 (x7 - 1) → RI (d + 1) μX0_countRests 146 [(0, .ref 45), (1, .ref o), (2, .ref o'), (3, .int x3), (4, .int x4), (5, .int (x5 + 1)), (6, .int x6), (7, .int (x7 + 1))] [] M6 K)) else RI (d + 1) μX0_countRests 146 [(0, .ref 45), (1, .ref o), (2, .ref o'), (3, .int x3), (4, .int x4), (5, .int (x5 + 1)), (6, .int x6), (7, .int (x7 + 1))] [] M3 K))))))))) : RI (d + 1) μX0_countRests 146 [(0, .ref 45), (1, .ref o), (2, .ref o'), (3, .int x3), (4, .int x4), (5, .int x5), (6, .int x6), (7, .int x7)] [] M K := by
  show Rn (d + 1) μX0_countRests 146 [(0, .ref 45), (1, .ref o), (2, .ref o'), (3, .int x3), (4, .int x4), (5, .int x5), (6, .int x6), (7, .int x7)] [] M _
  refine rn_iload (x := x7) dX0_countRests_146 (by simp) ?_
  refine rn_bipush (v := 9) dX0_countRests_148 rfl ?_
  refine rn_icmp_ge (tgt := 205) dX0_countRests_150 (by decide) (ite_go h (fun hc h => ?_) (fun hc h => ?_))
  · refine rn_iinc (x := x6) (v := x6 + 1) (lv' := [(0, .ref 45), (1, .ref o), (2, .ref o'), (3, .int x3), (4, .int x4), (5, .int x5), (6, .int (x6 + 1)), (7, .int x7)]) dX0_countRests_205 (by simp) rfl (by decide) rfl rfl ?_
    refine rn_goto (tgt := 136) dX0_countRests_208 (by decide) ?_
    refine Rn.sub (lv' := [(0, .ref 45), (1, .ref o), (2, .ref o'), (3, .int x3), (4, .int x4), (5, .int x5), (6, .int (x6 + 1))]) (by simp) ?_
    exact h
  · refine rn_aload_n (i := 0) (x := 45) dX0_countRests_153 rfl (by simp) ?_
    refine rn_iload (x := x6) dX0_countRests_154 (by simp) ?_
    refine rn_iload (x := x7) dX0_countRests_156 (by simp) ?_
    refine rn_callVi (as := [.int x6, .int x7]) (st := []) dX0_countRests_158 mf_X0_mayBe lk_X0_35 im_X0_mayBe rfl rfl rfl rfl (Nat.le_of_ble_eq_true rfl) (Nat.le_of_ble_eq_true rfl) rfl (RI.mono h (fun r2 M1 h => ?_))
    refine rn_if_eq (tgt := 199) dX0_countRests_161 (by decide) (ite_go h (fun hc h => ?_) (fun hc h => ?_))
    · refine rn_iinc (x := x7) (v := x7 + 1) (lv' := [(0, .ref 45), (1, .ref o), (2, .ref o'), (3, .int x3), (4, .int x4), (5, .int x5), (6, .int x6), (7, .int (x7 + 1))]) dX0_countRests_199 (by simp) rfl (by decide) rfl rfl ?_
      refine rn_goto (tgt := 146) dX0_countRests_202 (by decide) ?_
      exact h
    · refine rn_aload_n (i := 0) (x := 45) dX0_countRests_164 rfl (by simp) ?_
      refine rn_iload (x := x6) dX0_countRests_165 (by simp) ?_
      refine rn_iload (x := x7) dX0_countRests_167 (by simp) ?_
      refine rn_callVi (as := [.int x6, .int x7]) (st := []) dX0_countRests_169 mf_X0_isRest lk_X0_51 im_X0_isRest rfl rfl rfl rfl (Nat.le_of_ble_eq_true rfl) (Nat.le_of_ble_eq_true rfl) rfl (RI.mono h (fun r4 M3 h => ?_))
      refine rn_if_eq (tgt := 199) dX0_countRests_172 (by decide) (ite_go h (fun hc h => ?_) (fun hc h => ?_))
      · refine rn_iinc (x := x7) (v := x7 + 1) (lv' := [(0, .ref 45), (1, .ref o), (2, .ref o'), (3, .int x3), (4, .int x4), (5, .int x5), (6, .int x6), (7, .int (x7 + 1))]) dX0_countRests_199 (by simp) rfl (by decide) rfl rfl ?_
        refine rn_goto (tgt := 146) dX0_countRests_202 (by decide) ?_
        exact h
      · refine rn_iload (x := x5) dX0_countRests_175 (by simp) ?_
        refine rn_if_ne (tgt := 196) dX0_countRests_177 (by decide) (ite_go h (fun hc h => ?_) (fun hc h => ?_))
        · refine rn_aload_n (i := 0) (x := 45) dX0_countRests_180 rfl (by simp) ?_
          refine rn_iload (x := x6) dX0_countRests_181 (by simp) ?_
          refine rn_iconst (v := 1) dX0_countRests_183 rfl ?_
          refine rn_isub dX0_countRests_184 ?_
          have h := h _ rfl
          refine rn_puti dX0_countRests_185 rfl pf_X0_9 (by decide) rfl rfl ?_
          generalize wi M3 45 0 (x6 - 1) = M5 at h ⊢
          refine rn_aload_n (i := 0) (x := 45) dX0_countRests_188 rfl (by simp) ?_
          refine rn_iload (x := x7) dX0_countRests_189 (by simp) ?_
          refine rn_iconst (v := 1) dX0_countRests_191 rfl ?_
          refine rn_isub dX0_countRests_192 ?_
          have h := h _ rfl
          refine rn_puti dX0_countRests_193 rfl pf_X0_15 (by decide) rfl rfl ?_
          generalize wi M5 45 1 (x7 - 1) = M6 at h ⊢
          refine rn_iinc (x := x5) (v := x5 + 1) (lv' := [(0, .ref 45), (1, .ref o), (2, .ref o'), (3, .int x3), (4, .int x4), (5, .int (x5 + 1)), (6, .int x6), (7, .int x7)]) dX0_countRests_196 (by simp) rfl (by decide) rfl rfl ?_
          refine rn_iinc (x := x7) (v := x7 + 1) (lv' := [(0, .ref 45), (1, .ref o), (2, .ref o'), (3, .int x3), (4, .int x4), (5, .int (x5 + 1)), (6, .int x6), (7, .int (x7 + 1))]) dX0_countRests_199 (by simp) rfl (by decide) rfl rfl ?_
          refine rn_goto (tgt := 146) dX0_countRests_202 (by decide) ?_
          exact h
        · refine rn_iinc (x := x5) (v := x5 + 1) (lv' := [(0, .ref 45), (1, .ref o), (2, .ref o'), (3, .int x3), (4, .int x4), (5, .int (x5 + 1)), (6, .int x6), (7, .int x7)]) dX0_countRests_196 (by simp) rfl (by decide) rfl rfl ?_
          refine rn_iinc (x := x7) (v := x7 + 1) (lv' := [(0, .ref 45), (1, .ref o), (2, .ref o'), (3, .int x3), (4, .int x4), (5, .int (x5 + 1)), (6, .int x6), (7, .int (x7 + 1))]) dX0_countRests_199 (by simp) rfl (by decide) rfl rfl ?_
          refine rn_goto (tgt := 146) dX0_countRests_202 (by decide) ?_
          exact h
theorem dX0_choicesOf_0 : decode μX0_choicesOf.2.1 0 = .ok (.iconst 1, 1) := by decide +kernel
theorem dX0_choicesOf_1 : decode μX0_choicesOf.2.1 1 = .ok (.istore_n 3, 1) := by decide +kernel
theorem dX0_choicesOf_2 : decode μX0_choicesOf.2.1 2 = .ok (.iconst 0, 1) := by decide +kernel
theorem dX0_choicesOf_3 : decode μX0_choicesOf.2.1 3 = .ok (.istore 4, 2) := by decide +kernel
theorem dX0_choicesOf_5 : decode μX0_choicesOf.2.1 5 = .ok (.iload 4, 2) := by decide +kernel
theorem dX0_choicesOf_7 : decode μX0_choicesOf.2.1 7 = .ok (.aload_n 0, 1) := by decide +kernel
theorem dX0_choicesOf_8 : decode μX0_choicesOf.2.1 8 = .ok (.getfield 54, 3) := by decide +kernel
theorem dX0_choicesOf_11 : decode μX0_choicesOf.2.1 11 = .ok (.if_icmp .ge 34, 3) := by decide +kernel
theorem dX0_choicesOf_14 : decode μX0_choicesOf.2.1 14 = .ok (.iload 4, 2) := by decide +kernel
theorem dX0_choicesOf_16 : decode μX0_choicesOf.2.1 16 = .ok (.iload_n 2, 1) := by decide +kernel
theorem dX0_choicesOf_17 : decode μX0_choicesOf.2.1 17 = .ok (.if_icmp .eq 22, 3) := by decide +kernel
theorem dX0_choicesOf_20 : decode μX0_choicesOf.2.1 20 = .ok (.aload_n 0, 1) := by decide +kernel
theorem dX0_choicesOf_21 : decode μX0_choicesOf.2.1 21 = .ok (.iload_n 1, 1) := by decide +kernel
theorem dX0_choicesOf_22 : decode μX0_choicesOf.2.1 22 = .ok (.iload 4, 2) := by decide +kernel
theorem dX0_choicesOf_24 : decode μX0_choicesOf.2.1 24 = .ok (.invokevirtual 57, 3) := by decide +kernel
theorem dX0_choicesOf_27 : decode μX0_choicesOf.2.1 27 = .ok (.ifCond .eq 12, 3) := by decide +kernel
theorem dX0_choicesOf_30 : decode μX0_choicesOf.2.1 30 = .ok (.iload_n 3, 1) := by decide +kernel
theorem dX0_choicesOf_31 : decode μX0_choicesOf.2.1 31 = .ok (.iconst 1, 1) := by decide +kernel
theorem dX0_choicesOf_32 : decode μX0_choicesOf.2.1 32 = .ok (.iload 4, 2) := by decide +kernel
theorem dX0_choicesOf_34 : decode μX0_choicesOf.2.1 34 = .ok (.iconst 1, 1) := by decide +kernel
theorem dX0_choicesOf_35 : decode μX0_choicesOf.2.1 35 = .ok (.iadd, 1) := by decide +kernel
theorem dX0_choicesOf_36 : decode μX0_choicesOf.2.1 36 = .ok (.ishl, 1) := by decide +kernel
theorem dX0_choicesOf_37 : decode μX0_choicesOf.2.1 37 = .ok (.ior, 1) := by decide +kernel
theorem dX0_choicesOf_38 : decode μX0_choicesOf.2.1 38 = .ok (.istore_n 3, 1) := by decide +kernel
theorem dX0_choicesOf_39 : decode μX0_choicesOf.2.1 39 = .ok (.iinc 4 1, 3) := by decide +kernel
theorem dX0_choicesOf_42 : decode μX0_choicesOf.2.1 42 = .ok (.goto (-37), 3) := by decide +kernel
theorem dX0_choicesOf_45 : decode μX0_choicesOf.2.1 45 = .ok (.iload_n 3, 1) := by decide +kernel
theorem dX0_choicesOf_46 : decode μX0_choicesOf.2.1 46 = .ok (.ireturn, 1) := by decide +kernel
set_option maxRecDepth 20000 in
theorem sg_X0_choicesOf_0 {d : Nat} {o : Nat} {x1 : Int32} {x2 : Int32} {M : Mem} {K : (Int32 → Mem → Prop)} (ho : kd o = (0, 2)) (h : RI (d + 1) μX0_choicesOf 5 [(0, .ref o), (1, .int x1), (2, .int x2), (3, .int 1), (4, .int 0)] [] M K) : CI (d + 1) μX0_choicesOf [.ref o, .int x1, .int x2] M K := by
  show Rn (d + 1) μX0_choicesOf 0 [(0, .ref o), (1, .int x1), (2, .int x2)] [] M _
  refine rn_iconst (v := 1) dX0_choicesOf_0 rfl ?_
  refine rn_istore_n (lv' := [(0, .ref o), (1, .int x1), (2, .int x2), (3, .int 1)]) (hd := dX0_choicesOf_1) (i := 3) (hi := rfl) (hn := by decide) (hf := rfl) (hl := rfl) ?_
  refine rn_iconst (v := 0) dX0_choicesOf_2 rfl ?_
  refine rn_istore (lv' := [(0, .ref o), (1, .int x1), (2, .int x2), (3, .int 1), (4, .int 0)]) (hd := dX0_choicesOf_3) (hn := by decide) (hf := rfl) (hl := rfl) ?_
  exact h
set_option maxRecDepth 20000 in
theorem sg_X0_choicesOf_5 {d : Nat} {o : Nat} {x1 : Int32} {x2 : Int32} {x3 : Int32} {x4 : Int32} {M : Mem} {K : (Int32 → Mem → Prop)} (ho : kd o = (0, 2)) (h : (if ri M o 0 ≤ x4 then K x3 M else (if x4 = x2 then RI (d + 1) μX0_choicesOf 5 [(0, .ref o), (1, .int x1), (2, .int x2), (3, .int x3), (4, .int (x4 + 1))] [] M K else (CI d μX2_canMerge [.ref o, .int x1, .int x4] M (fun r2 M1 => (if r2 = 0 then RI (d + 1) μX0_choicesOf 5 [(0, .ref o), (1, .int x1), (2, .int x2), (3, .int x3), (4, .int (x4 + 1))] [] M1 K else RI (d + 1) μX0_choicesOf 5 [(0, .ref o), (1, .int x1), (2, .int x2), (3, .int (x3 ||| ((1 : Int32) <<< ((x4 + 1) &&& 31)))), (4, .int (x4 + 1))] [] M1 K)))))) : RI (d + 1) μX0_choicesOf 5 [(0, .ref o), (1, .int x1), (2, .int x2), (3, .int x3), (4, .int x4)] [] M K := by
  show Rn (d + 1) μX0_choicesOf 5 [(0, .ref o), (1, .int x1), (2, .int x2), (3, .int x3), (4, .int x4)] [] M _
  refine rn_iload (x := x4) dX0_choicesOf_5 (by simp) ?_
  refine rn_aload_n (i := 0) (x := o) dX0_choicesOf_7 rfl (by simp) ?_
  refine rn_geti dX0_choicesOf_8 ho gf_X0_54 (by decide) ?_
  refine rn_icmp_ge (tgt := 45) dX0_choicesOf_11 (by decide) (ite_go h (fun hc h => ?_) (fun hc h => ?_))
  · refine rn_iload_n (i := 3) (x := x3) dX0_choicesOf_45 rfl (by simp) ?_
    exact rn_iret dX0_choicesOf_46 rfl ⟨_, rfl, h⟩
  · refine rn_iload (x := x4) dX0_choicesOf_14 (by simp) ?_
    refine rn_iload_n (i := 2) (x := x2) dX0_choicesOf_16 rfl (by simp) ?_
    refine rn_icmp_eq (tgt := 39) dX0_choicesOf_17 (by decide) (ite_go h (fun hc h => ?_) (fun hc h => ?_))
    · refine rn_iinc (x := x4) (v := x4 + 1) (lv' := [(0, .ref o), (1, .int x1), (2, .int x2), (3, .int x3), (4, .int (x4 + 1))]) dX0_choicesOf_39 (by simp) rfl (by decide) rfl rfl ?_
      refine rn_goto (tgt := 5) dX0_choicesOf_42 (by decide) ?_
      exact h
    · refine rn_aload_n (i := 0) (x := o) dX0_choicesOf_20 rfl (by simp) ?_
      refine rn_iload_n (i := 1) (x := x1) dX0_choicesOf_21 rfl (by simp) ?_
      refine rn_iload (x := x4) dX0_choicesOf_22 (by simp) ?_
      refine rn_callVi (as := [.int x1, .int x4]) (st := []) dX0_choicesOf_24 mf_X2_canMerge lk_X0_57 im_X2_canMerge ho rfl rfl rfl (Nat.le_of_ble_eq_true rfl) (Nat.le_of_ble_eq_true rfl) rfl (RI.mono h (fun r2 M1 h => ?_))
      refine rn_if_eq (tgt := 39) dX0_choicesOf_27 (by decide) (ite_go h (fun hc h => ?_) (fun hc h => ?_))
      · refine rn_iinc (x := x4) (v := x4 + 1) (lv' := [(0, .ref o), (1, .int x1), (2, .int x2), (3, .int x3), (4, .int (x4 + 1))]) dX0_choicesOf_39 (by simp) rfl (by decide) rfl rfl ?_
        refine rn_goto (tgt := 5) dX0_choicesOf_42 (by decide) ?_
        exact h
      · refine rn_iload_n (i := 3) (x := x3) dX0_choicesOf_30 rfl (by simp) ?_
        refine rn_iconst (v := 1) dX0_choicesOf_31 rfl ?_
        refine rn_iload (x := x4) dX0_choicesOf_32 (by simp) ?_
        refine rn_iconst (v := 1) dX0_choicesOf_34 rfl ?_
        refine rn_iadd dX0_choicesOf_35 ?_
        refine rn_ishl dX0_choicesOf_36 ?_
        refine rn_ior dX0_choicesOf_37 ?_
        refine rn_istore_n (lv' := [(0, .ref o), (1, .int x1), (2, .int x2), (3, .int (x3 ||| ((1 : Int32) <<< ((x4 + 1) &&& 31)))), (4, .int x4)]) (hd := dX0_choicesOf_38) (i := 3) (hi := rfl) (hn := by decide) (hf := rfl) (hl := rfl) ?_
        refine rn_iinc (x := x4) (v := x4 + 1) (lv' := [(0, .ref o), (1, .int x1), (2, .int x2), (3, .int (x3 ||| ((1 : Int32) <<< ((x4 + 1) &&& 31)))), (4, .int (x4 + 1))]) dX0_choicesOf_39 (by simp) rfl (by decide) rfl rfl ?_
        refine rn_goto (tgt := 5) dX0_choicesOf_42 (by decide) ?_
        exact h
theorem dX0_mayBe_0 : decode μX0_mayBe.2.1 0 = .ok (.aload_n 0, 1) := by decide +kernel
theorem dX0_mayBe_1 : decode μX0_mayBe.2.1 1 = .ok (.getfield 25, 3) := by decide +kernel
theorem dX0_mayBe_4 : decode μX0_mayBe.2.1 4 = .ok (.iload_n 1, 1) := by decide +kernel
theorem dX0_mayBe_5 : decode μX0_mayBe.2.1 5 = .ok (.ishr, 1) := by decide +kernel
theorem dX0_mayBe_6 : decode μX0_mayBe.2.1 6 = .ok (.iconst 1, 1) := by decide +kernel
theorem dX0_mayBe_7 : decode μX0_mayBe.2.1 7 = .ok (.iand, 1) := by decide +kernel
theorem dX0_mayBe_8 : decode μX0_mayBe.2.1 8 = .ok (.iconst 1, 1) := by decide +kernel
theorem dX0_mayBe_9 : decode μX0_mayBe.2.1 9 = .ok (.if_icmp .ne 19, 3) := by decide +kernel
theorem dX0_mayBe_12 : decode μX0_mayBe.2.1 12 = .ok (.aload_n 0, 1) := by decide +kernel
theorem dX0_mayBe_13 : decode μX0_mayBe.2.1 13 = .ok (.getfield 28, 3) := by decide +kernel
theorem dX0_mayBe_16 : decode μX0_mayBe.2.1 16 = .ok (.iload_n 2, 1) := by decide +kernel
theorem dX0_mayBe_17 : decode μX0_mayBe.2.1 17 = .ok (.ishr, 1) := by decide +kernel
theorem dX0_mayBe_18 : decode μX0_mayBe.2.1 18 = .ok (.iconst 1, 1) := by decide +kernel
theorem dX0_mayBe_19 : decode μX0_mayBe.2.1 19 = .ok (.iand, 1) := by decide +kernel
theorem dX0_mayBe_20 : decode μX0_mayBe.2.1 20 = .ok (.iconst 1, 1) := by decide +kernel
theorem dX0_mayBe_21 : decode μX0_mayBe.2.1 21 = .ok (.if_icmp .ne 7, 3) := by decide +kernel
theorem dX0_mayBe_24 : decode μX0_mayBe.2.1 24 = .ok (.iconst 1, 1) := by decide +kernel
theorem dX0_mayBe_25 : decode μX0_mayBe.2.1 25 = .ok (.goto 4, 3) := by decide +kernel
theorem dX0_mayBe_28 : decode μX0_mayBe.2.1 28 = .ok (.iconst 0, 1) := by decide +kernel
theorem dX0_mayBe_29 : decode μX0_mayBe.2.1 29 = .ok (.ireturn, 1) := by decide +kernel
set_option maxRecDepth 20000 in
theorem sg_X0_mayBe_0 {d : Nat} {x1 : Int32} {x2 : Int32} {M : Mem} {K : (Int32 → Mem → Prop)}  (h : (if ((ri M 45 4) >>> (x1 &&& 31)) &&& 1 = 1 then (if ((ri M 45 5) >>> (x2 &&& 31)) &&& 1 = 1 then K 1 M else K 0 M) else K 0 M)) : CI d μX0_mayBe [.ref 45, .int x1, .int x2] M K := by
  show Rn d μX0_mayBe 0 [(0, .ref 45), (1, .int x1), (2, .int x2)] [] M _
  refine rn_aload_n (i := 0) (x := 45) dX0_mayBe_0 rfl (by simp) ?_
  refine rn_geti dX0_mayBe_1 rfl gf_X0_25 (by decide) ?_
  refine rn_iload_n (i := 1) (x := x1) dX0_mayBe_4 rfl (by simp) ?_
  refine rn_ishr dX0_mayBe_5 ?_
  refine rn_iconst (v := 1) dX0_mayBe_6 rfl ?_
  refine rn_iand dX0_mayBe_7 ?_
  refine rn_iconst (v := 1) dX0_mayBe_8 rfl ?_
  refine rn_icmp_ne (tgt := 28) dX0_mayBe_9 (by decide) (ite_go h (fun hc h => ?_) (fun hc h => ?_))
  · refine rn_aload_n (i := 0) (x := 45) dX0_mayBe_12 rfl (by simp) ?_
    refine rn_geti dX0_mayBe_13 rfl gf_X0_28 (by decide) ?_
    refine rn_iload_n (i := 2) (x := x2) dX0_mayBe_16 rfl (by simp) ?_
    refine rn_ishr dX0_mayBe_17 ?_
    refine rn_iconst (v := 1) dX0_mayBe_18 rfl ?_
    refine rn_iand dX0_mayBe_19 ?_
    refine rn_iconst (v := 1) dX0_mayBe_20 rfl ?_
    refine rn_icmp_ne (tgt := 28) dX0_mayBe_21 (by decide) (ite_go h (fun hc h => ?_) (fun hc h => ?_))
    · refine rn_iconst (v := 1) dX0_mayBe_24 rfl ?_
      refine rn_goto (tgt := 29) dX0_mayBe_25 (by decide) ?_
      exact rn_zret dX0_mayBe_29 rfl (by decide) ⟨_, rfl, h⟩
    · refine rn_iconst (v := 0) dX0_mayBe_28 rfl ?_
      exact rn_zret dX0_mayBe_29 rfl (by decide) ⟨_, rfl, h⟩
  · refine rn_iconst (v := 0) dX0_mayBe_28 rfl ?_
    exact rn_zret dX0_mayBe_29 rfl (by decide) ⟨_, rfl, h⟩
theorem dX0_isRest_0 : decode μX0_isRest.2.1 0 = .ok (.iconst 0, 1) := by decide +kernel
theorem dX0_isRest_1 : decode μX0_isRest.2.1 1 = .ok (.istore_n 3, 1) := by decide +kernel
theorem dX0_isRest_2 : decode μX0_isRest.2.1 2 = .ok (.iload_n 3, 1) := by decide +kernel
theorem dX0_isRest_3 : decode μX0_isRest.2.1 3 = .ok (.bipush 9, 2) := by decide +kernel
theorem dX0_isRest_5 : decode μX0_isRest.2.1 5 = .ok (.if_icmp .ge 81, 3) := by decide +kernel
theorem dX0_isRest_8 : decode μX0_isRest.2.1 8 = .ok (.aload_n 0, 1) := by decide +kernel
theorem dX0_isRest_9 : decode μX0_isRest.2.1 9 = .ok (.iload_n 3, 1) := by decide +kernel
theorem dX0_isRest_10 : decode μX0_isRest.2.1 10 = .ok (.iload_n 2, 1) := by decide +kernel
theorem dX0_isRest_11 : decode μX0_isRest.2.1 11 = .ok (.invokevirtual 35, 3) := by decide +kernel
theorem dX0_isRest_14 : decode μX0_isRest.2.1 14 = .ok (.ifCond .eq 30, 3) := by decide +kernel
theorem dX0_isRest_17 : decode μX0_isRest.2.1 17 = .ok (.aload_n 0, 1) := by decide +kernel
theorem dX0_isRest_18 : decode μX0_isRest.2.1 18 = .ok (.getfield 18, 3) := by decide +kernel
theorem dX0_isRest_21 : decode μX0_isRest.2.1 21 = .ok (.iload_n 3, 1) := by decide +kernel
theorem dX0_isRest_22 : decode μX0_isRest.2.1 22 = .ok (.bipush 9, 2) := by decide +kernel
theorem dX0_isRest_24 : decode μX0_isRest.2.1 24 = .ok (.imul, 1) := by decide +kernel
theorem dX0_isRest_25 : decode μX0_isRest.2.1 25 = .ok (.iload_n 2, 1) := by decide +kernel
theorem dX0_isRest_26 : decode μX0_isRest.2.1 26 = .ok (.iadd, 1) := by decide +kernel
theorem dX0_isRest_27 : decode μX0_isRest.2.1 27 = .ok (.iaload, 1) := by decide +kernel
theorem dX0_isRest_28 : decode μX0_isRest.2.1 28 = .ok (.aload_n 0, 1) := by decide +kernel
theorem dX0_isRest_29 : decode μX0_isRest.2.1 29 = .ok (.getfield 18, 3) := by decide +kernel
theorem dX0_isRest_32 : decode μX0_isRest.2.1 32 = .ok (.iload_n 1, 1) := by decide +kernel
theorem dX0_isRest_33 : decode μX0_isRest.2.1 33 = .ok (.bipush 9, 2) := by decide +kernel
theorem dX0_isRest_35 : decode μX0_isRest.2.1 35 = .ok (.imul, 1) := by decide +kernel
theorem dX0_isRest_36 : decode μX0_isRest.2.1 36 = .ok (.iload_n 2, 1) := by decide +kernel
theorem dX0_isRest_37 : decode μX0_isRest.2.1 37 = .ok (.iadd, 1) := by decide +kernel
theorem dX0_isRest_38 : decode μX0_isRest.2.1 38 = .ok (.iaload, 1) := by decide +kernel
theorem dX0_isRest_39 : decode μX0_isRest.2.1 39 = .ok (.if_icmp .le 5, 3) := by decide +kernel
theorem dX0_isRest_42 : decode μX0_isRest.2.1 42 = .ok (.iconst 0, 1) := by decide +kernel
theorem dX0_isRest_43 : decode μX0_isRest.2.1 43 = .ok (.ireturn, 1) := by decide +kernel
theorem dX0_isRest_44 : decode μX0_isRest.2.1 44 = .ok (.aload_n 0, 1) := by decide +kernel
theorem dX0_isRest_45 : decode μX0_isRest.2.1 45 = .ok (.iload_n 1, 1) := by decide +kernel
theorem dX0_isRest_46 : decode μX0_isRest.2.1 46 = .ok (.iload_n 3, 1) := by decide +kernel
theorem dX0_isRest_47 : decode μX0_isRest.2.1 47 = .ok (.invokevirtual 35, 3) := by decide +kernel
theorem dX0_isRest_50 : decode μX0_isRest.2.1 50 = .ok (.ifCond .eq 30, 3) := by decide +kernel
theorem dX0_isRest_53 : decode μX0_isRest.2.1 53 = .ok (.aload_n 0, 1) := by decide +kernel
theorem dX0_isRest_54 : decode μX0_isRest.2.1 54 = .ok (.getfield 22, 3) := by decide +kernel
theorem dX0_isRest_57 : decode μX0_isRest.2.1 57 = .ok (.iload_n 1, 1) := by decide +kernel
theorem dX0_isRest_58 : decode μX0_isRest.2.1 58 = .ok (.bipush 9, 2) := by decide +kernel
theorem dX0_isRest_60 : decode μX0_isRest.2.1 60 = .ok (.imul, 1) := by decide +kernel
theorem dX0_isRest_61 : decode μX0_isRest.2.1 61 = .ok (.iload_n 3, 1) := by decide +kernel
theorem dX0_isRest_62 : decode μX0_isRest.2.1 62 = .ok (.iadd, 1) := by decide +kernel
theorem dX0_isRest_63 : decode μX0_isRest.2.1 63 = .ok (.iaload, 1) := by decide +kernel
theorem dX0_isRest_64 : decode μX0_isRest.2.1 64 = .ok (.aload_n 0, 1) := by decide +kernel
theorem dX0_isRest_65 : decode μX0_isRest.2.1 65 = .ok (.getfield 22, 3) := by decide +kernel
theorem dX0_isRest_68 : decode μX0_isRest.2.1 68 = .ok (.iload_n 1, 1) := by decide +kernel
theorem dX0_isRest_69 : decode μX0_isRest.2.1 69 = .ok (.bipush 9, 2) := by decide +kernel
theorem dX0_isRest_71 : decode μX0_isRest.2.1 71 = .ok (.imul, 1) := by decide +kernel
theorem dX0_isRest_72 : decode μX0_isRest.2.1 72 = .ok (.iload_n 2, 1) := by decide +kernel
theorem dX0_isRest_73 : decode μX0_isRest.2.1 73 = .ok (.iadd, 1) := by decide +kernel
theorem dX0_isRest_74 : decode μX0_isRest.2.1 74 = .ok (.iaload, 1) := by decide +kernel
theorem dX0_isRest_75 : decode μX0_isRest.2.1 75 = .ok (.if_icmp .le 5, 3) := by decide +kernel
theorem dX0_isRest_78 : decode μX0_isRest.2.1 78 = .ok (.iconst 0, 1) := by decide +kernel
theorem dX0_isRest_79 : decode μX0_isRest.2.1 79 = .ok (.ireturn, 1) := by decide +kernel
theorem dX0_isRest_80 : decode μX0_isRest.2.1 80 = .ok (.iinc 3 1, 3) := by decide +kernel
theorem dX0_isRest_83 : decode μX0_isRest.2.1 83 = .ok (.goto (-81), 3) := by decide +kernel
theorem dX0_isRest_86 : decode μX0_isRest.2.1 86 = .ok (.iconst 1, 1) := by decide +kernel
theorem dX0_isRest_87 : decode μX0_isRest.2.1 87 = .ok (.ireturn, 1) := by decide +kernel
set_option maxRecDepth 20000 in
theorem sg_X0_isRest_0 {d : Nat} {x1 : Int32} {x2 : Int32} {M : Mem} {K : (Int32 → Mem → Prop)}  (h : RI (d + 1) μX0_isRest 2 [(0, .ref 45), (1, .int x1), (2, .int x2), (3, .int 0)] [] M K) : CI (d + 1) μX0_isRest [.ref 45, .int x1, .int x2] M K := by
  show Rn (d + 1) μX0_isRest 0 [(0, .ref 45), (1, .int x1), (2, .int x2)] [] M _
  refine rn_iconst (v := 0) dX0_isRest_0 rfl ?_
  refine rn_istore_n (lv' := [(0, .ref 45), (1, .int x1), (2, .int x2), (3, .int 0)]) (hd := dX0_isRest_1) (i := 3) (hi := rfl) (hn := by decide) (hf := rfl) (hl := rfl) ?_
  exact h
set_option maxRecDepth 20000 in
theorem sg_X0_isRest_2 {d : Nat} {x1 : Int32} {x2 : Int32} {x3 : Int32} {M : Mem} {K : (Int32 → Mem → Prop)}  (h : (if 9 ≤ x3 then K 1 M else (CI d μX0_mayBe [.ref 45, .int x3, .int x2] M (fun r2 M1 => (if r2 = 0 then RI (d + 1) μX0_isRest 44 [(0, .ref 45), (1, .int x1), (2, .int x2), (3, .int x3)] [] M1 K else (vp_in ((x3 * 9) + x2) 81 ∧ (vp_in ((x1 * 9) + x2) 81 ∧ (if ri M1 46 (nx ((x3 * 9) + x2)) ≤ ri M1 46 (nx ((x1 * 9) + x2)) then RI (d + 1) μX0_isRest 44 [(0, .ref 45), (1, .int x1), (2, .int x2), (3, .int x3)] [] M1 K else K 0 M1)))))))) : RI (d + 1) μX0_isRest 2 [(0, .ref 45), (1, .int x1), (2, .int x2), (3, .int x3)] [] M K := by
  show Rn (d + 1) μX0_isRest 2 [(0, .ref 45), (1, .int x1), (2, .int x2), (3, .int x3)] [] M _
  refine rn_iload_n (i := 3) (x := x3) dX0_isRest_2 rfl (by simp) ?_
  refine rn_bipush (v := 9) dX0_isRest_3 rfl ?_
  refine rn_icmp_ge (tgt := 86) dX0_isRest_5 (by decide) (ite_go h (fun hc h => ?_) (fun hc h => ?_))
  · refine rn_iconst (v := 1) dX0_isRest_86 rfl ?_
    exact rn_zret dX0_isRest_87 rfl (by decide) ⟨_, rfl, h⟩
  · refine rn_aload_n (i := 0) (x := 45) dX0_isRest_8 rfl (by simp) ?_
    refine rn_iload_n (i := 3) (x := x3) dX0_isRest_9 rfl (by simp) ?_
    refine rn_iload_n (i := 2) (x := x2) dX0_isRest_10 rfl (by simp) ?_
    refine rn_callVi (as := [.int x3, .int x2]) (st := []) dX0_isRest_11 mf_X0_mayBe lk_X0_35 im_X0_mayBe rfl rfl rfl rfl (Nat.le_of_ble_eq_true rfl) (Nat.le_of_ble_eq_true rfl) rfl (RI.mono h (fun r2 M1 h => ?_))
    refine rn_if_eq (tgt := 44) dX0_isRest_14 (by decide) (ite_go h (fun hc h => ?_) (fun hc h => ?_))
    · exact h
    · refine rn_aload_n (i := 0) (x := 45) dX0_isRest_17 rfl (by simp) ?_
      refine rn_getr (t := 46) dX0_isRest_18 rfl gf_X0_18 rfl rfl ?_
      refine rn_iload_n (i := 3) (x := x3) dX0_isRest_21 rfl (by simp) ?_
      refine rn_bipush (v := 9) dX0_isRest_22 rfl ?_
      refine rn_imul dX0_isRest_24 ?_
      refine rn_iload_n (i := 2) (x := x2) dX0_isRest_25 rfl (by simp) ?_
      refine rn_iadd dX0_isRest_26 ?_
      obtain ⟨hi, h⟩ := h
      refine rn_iaload dX0_isRest_27 rfl hi ?_
      refine rn_aload_n (i := 0) (x := 45) dX0_isRest_28 rfl (by simp) ?_
      refine rn_getr (t := 46) dX0_isRest_29 rfl gf_X0_18 rfl rfl ?_
      refine rn_iload_n (i := 1) (x := x1) dX0_isRest_32 rfl (by simp) ?_
      refine rn_bipush (v := 9) dX0_isRest_33 rfl ?_
      refine rn_imul dX0_isRest_35 ?_
      refine rn_iload_n (i := 2) (x := x2) dX0_isRest_36 rfl (by simp) ?_
      refine rn_iadd dX0_isRest_37 ?_
      obtain ⟨hi, h⟩ := h
      refine rn_iaload dX0_isRest_38 rfl hi ?_
      refine rn_icmp_le (tgt := 44) dX0_isRest_39 (by decide) (ite_go h (fun hc h => ?_) (fun hc h => ?_))
      · exact h
      · refine rn_iconst (v := 0) dX0_isRest_42 rfl ?_
        exact rn_zret dX0_isRest_43 rfl (by decide) ⟨_, rfl, h⟩
set_option maxRecDepth 20000 in
theorem sg_X0_isRest_44 {d : Nat} {x1 : Int32} {x2 : Int32} {x3 : Int32} {M : Mem} {K : (Int32 → Mem → Prop)}  (h : (CI d μX0_mayBe [.ref 45, .int x1, .int x3] M (fun r2 M1 => (if r2 = 0 then RI (d + 1) μX0_isRest 2 [(0, .ref 45), (1, .int x1), (2, .int x2), (3, .int (x3 + 1))] [] M1 K else (vp_in ((x1 * 9) + x3) 81 ∧ (vp_in ((x1 * 9) + x2) 81 ∧ (if ri M1 47 (nx ((x1 * 9) + x3)) ≤ ri M1 47 (nx ((x1 * 9) + x2)) then RI (d + 1) μX0_isRest 2 [(0, .ref 45), (1, .int x1), (2, .int x2), (3, .int (x3 + 1))] [] M1 K else K 0 M1))))))) : RI (d + 1) μX0_isRest 44 [(0, .ref 45), (1, .int x1), (2, .int x2), (3, .int x3)] [] M K := by
  show Rn (d + 1) μX0_isRest 44 [(0, .ref 45), (1, .int x1), (2, .int x2), (3, .int x3)] [] M _
  refine rn_aload_n (i := 0) (x := 45) dX0_isRest_44 rfl (by simp) ?_
  refine rn_iload_n (i := 1) (x := x1) dX0_isRest_45 rfl (by simp) ?_
  refine rn_iload_n (i := 3) (x := x3) dX0_isRest_46 rfl (by simp) ?_
  refine rn_callVi (as := [.int x1, .int x3]) (st := []) dX0_isRest_47 mf_X0_mayBe lk_X0_35 im_X0_mayBe rfl rfl rfl rfl (Nat.le_of_ble_eq_true rfl) (Nat.le_of_ble_eq_true rfl) rfl (RI.mono h (fun r2 M1 h => ?_))
  refine rn_if_eq (tgt := 80) dX0_isRest_50 (by decide) (ite_go h (fun hc h => ?_) (fun hc h => ?_))
  · refine rn_iinc (x := x3) (v := x3 + 1) (lv' := [(0, .ref 45), (1, .int x1), (2, .int x2), (3, .int (x3 + 1))]) dX0_isRest_80 (by simp) rfl (by decide) rfl rfl ?_
    refine rn_goto (tgt := 2) dX0_isRest_83 (by decide) ?_
    exact h
  · refine rn_aload_n (i := 0) (x := 45) dX0_isRest_53 rfl (by simp) ?_
    refine rn_getr (t := 47) dX0_isRest_54 rfl gf_X0_22 rfl rfl ?_
    refine rn_iload_n (i := 1) (x := x1) dX0_isRest_57 rfl (by simp) ?_
    refine rn_bipush (v := 9) dX0_isRest_58 rfl ?_
    refine rn_imul dX0_isRest_60 ?_
    refine rn_iload_n (i := 3) (x := x3) dX0_isRest_61 rfl (by simp) ?_
    refine rn_iadd dX0_isRest_62 ?_
    obtain ⟨hi, h⟩ := h
    refine rn_iaload dX0_isRest_63 rfl hi ?_
    refine rn_aload_n (i := 0) (x := 45) dX0_isRest_64 rfl (by simp) ?_
    refine rn_getr (t := 47) dX0_isRest_65 rfl gf_X0_22 rfl rfl ?_
    refine rn_iload_n (i := 1) (x := x1) dX0_isRest_68 rfl (by simp) ?_
    refine rn_bipush (v := 9) dX0_isRest_69 rfl ?_
    refine rn_imul dX0_isRest_71 ?_
    refine rn_iload_n (i := 2) (x := x2) dX0_isRest_72 rfl (by simp) ?_
    refine rn_iadd dX0_isRest_73 ?_
    obtain ⟨hi, h⟩ := h
    refine rn_iaload dX0_isRest_74 rfl hi ?_
    refine rn_icmp_le (tgt := 80) dX0_isRest_75 (by decide) (ite_go h (fun hc h => ?_) (fun hc h => ?_))
    · refine rn_iinc (x := x3) (v := x3 + 1) (lv' := [(0, .ref 45), (1, .int x1), (2, .int x2), (3, .int (x3 + 1))]) dX0_isRest_80 (by simp) rfl (by decide) rfl rfl ?_
      refine rn_goto (tgt := 2) dX0_isRest_83 (by decide) ?_
      exact h
    · refine rn_iconst (v := 0) dX0_isRest_78 rfl ?_
      exact rn_zret dX0_isRest_79 rfl (by decide) ⟨_, rfl, h⟩
