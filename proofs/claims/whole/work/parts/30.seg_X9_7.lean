theorem dX9_later_0 : decode μX9_later.2.1 0 = .ok (.iload_n 1, 1) := by decide +kernel
theorem dX9_later_1 : decode μX9_later.2.1 1 = .ok (.ifCond .lt 22, 3) := by decide +kernel
theorem dX9_later_4 : decode μX9_later.2.1 4 = .ok (.iload_n 1, 1) := by decide +kernel
theorem dX9_later_5 : decode μX9_later.2.1 5 = .ok (.sipush 1000, 3) := by decide +kernel
theorem dX9_later_8 : decode μX9_later.2.1 8 = .ok (.if_icmp .gt 15, 3) := by decide +kernel
theorem dX9_later_11 : decode μX9_later.2.1 11 = .ok (.aload_n 0, 1) := by decide +kernel
theorem dX9_later_12 : decode μX9_later.2.1 12 = .ok (.getfield 498, 3) := by decide +kernel
theorem dX9_later_15 : decode μX9_later.2.1 15 = .ok (.iload_n 1, 1) := by decide +kernel
theorem dX9_later_16 : decode μX9_later.2.1 16 = .ok (.iadd, 1) := by decide +kernel
theorem dX9_later_17 : decode μX9_later.2.1 17 = .ok (.ldc_w 501, 3) := by decide +kernel
theorem dX9_later_20 : decode μX9_later.2.1 20 = .ok (.if_icmp .le 5, 3) := by decide +kernel
theorem dX9_later_23 : decode μX9_later.2.1 23 = .ok (.iconst (-1), 1) := by decide +kernel
theorem dX9_later_24 : decode μX9_later.2.1 24 = .ok (.ireturn, 1) := by decide +kernel
theorem dX9_later_25 : decode μX9_later.2.1 25 = .ok (.aload_n 0, 1) := by decide +kernel
theorem dX9_later_26 : decode μX9_later.2.1 26 = .ok (.dup, 1) := by decide +kernel
theorem dX9_later_27 : decode μX9_later.2.1 27 = .ok (.getfield 498, 3) := by decide +kernel
theorem dX9_later_30 : decode μX9_later.2.1 30 = .ok (.iload_n 1, 1) := by decide +kernel
theorem dX9_later_31 : decode μX9_later.2.1 31 = .ok (.iadd, 1) := by decide +kernel
theorem dX9_later_32 : decode μX9_later.2.1 32 = .ok (.putfield 498, 3) := by decide +kernel
theorem dX9_later_35 : decode μX9_later.2.1 35 = .ok (.aload_n 0, 1) := by decide +kernel
theorem dX9_later_36 : decode μX9_later.2.1 36 = .ok (.getfield 498, 3) := by decide +kernel
theorem dX9_later_39 : decode μX9_later.2.1 39 = .ok (.ireturn, 1) := by decide +kernel
set_option maxRecDepth 20000 in
theorem sg_X9_later_0 {d : Nat} {x1 : Int32} {M : Mem} {K : (Int32 → Mem → Prop)}  (h : (if x1 < 0 then K ((-1)) M else (if 1000 < x1 then K ((-1)) M else (if (ri M 58 56) + x1 ≤ 100000 then (∀ M1, M1 = wi M 58 56 ((ri M 58 56) + x1) → K (ri M1 58 56) M1) else K ((-1)) M)))) : CI d μX9_later [.ref 58, .int x1] M K := by
  show Rn d μX9_later 0 [(0, .ref 58), (1, .int x1)] [] M _
  refine rn_iload_n (i := 1) (x := x1) dX9_later_0 rfl (by simp) ?_
  refine rn_if_lt (tgt := 23) dX9_later_1 (by decide) (ite_go h (fun hc h => ?_) (fun hc h => ?_))
  · refine rn_iconst (v := -1) dX9_later_23 rfl ?_
    exact rn_iret dX9_later_24 rfl ⟨_, rfl, h⟩
  · refine rn_iload_n (i := 1) (x := x1) dX9_later_4 rfl (by simp) ?_
    refine rn_sipush (v := 1000) dX9_later_5 rfl ?_
    refine rn_icmp_gt (tgt := 23) dX9_later_8 (by decide) (ite_go h (fun hc h => ?_) (fun hc h => ?_))
    · refine rn_iconst (v := -1) dX9_later_23 rfl ?_
      exact rn_iret dX9_later_24 rfl ⟨_, rfl, h⟩
    · refine rn_aload_n (i := 0) (x := 58) dX9_later_11 rfl (by simp) ?_
      refine rn_geti dX9_later_12 rfl gf_X9_498 (by decide) ?_
      refine rn_iload_n (i := 1) (x := x1) dX9_later_15 rfl (by simp) ?_
      refine rn_iadd dX9_later_16 ?_
      refine rn_ldcw (v := 100000) dX9_later_17 lk_X9_501 ?_
      refine rn_icmp_le (tgt := 25) dX9_later_20 (by decide) (ite_go h (fun hc h => ?_) (fun hc h => ?_))
      · refine rn_aload_n (i := 0) (x := 58) dX9_later_25 rfl (by simp) ?_
        refine rn_dup dX9_later_26 rfl ?_
        refine rn_geti dX9_later_27 rfl gf_X9_498 (by decide) ?_
        refine rn_iload_n (i := 1) (x := x1) dX9_later_30 rfl (by simp) ?_
        refine rn_iadd dX9_later_31 ?_
        have h := h _ rfl
        refine rn_puti dX9_later_32 rfl pf_X9_498 (by decide) rfl rfl ?_
        generalize wi M 58 56 ((ri M 58 56) + x1) = M1 at h ⊢
        refine rn_aload_n (i := 0) (x := 58) dX9_later_35 rfl (by simp) ?_
        refine rn_geti dX9_later_36 rfl gf_X9_498 (by decide) ?_
        exact rn_iret dX9_later_39 rfl ⟨_, rfl, h⟩
      · refine rn_iconst (v := -1) dX9_later_23 rfl ?_
        exact rn_iret dX9_later_24 rfl ⟨_, rfl, h⟩
theorem dX9_fitsSize_0 : decode μX9_fitsSize.2.1 0 = .ok (.iconst 1, 1) := by decide +kernel
theorem dX9_fitsSize_1 : decode μX9_fitsSize.2.1 1 = .ok (.istore_n 3, 1) := by decide +kernel
theorem dX9_fitsSize_2 : decode μX9_fitsSize.2.1 2 = .ok (.iconst 0, 1) := by decide +kernel
theorem dX9_fitsSize_3 : decode μX9_fitsSize.2.1 3 = .ok (.istore 4, 2) := by decide +kernel
theorem dX9_fitsSize_5 : decode μX9_fitsSize.2.1 5 = .ok (.iload 4, 2) := by decide +kernel
theorem dX9_fitsSize_7 : decode μX9_fitsSize.2.1 7 = .ok (.aload_n 0, 1) := by decide +kernel
theorem dX9_fitsSize_8 : decode μX9_fitsSize.2.1 8 = .ok (.getfield 414, 3) := by decide +kernel
theorem dX9_fitsSize_11 : decode μX9_fitsSize.2.1 11 = .ok (.if_icmp .ge 96, 3) := by decide +kernel
theorem dX9_fitsSize_14 : decode μX9_fitsSize.2.1 14 = .ok (.iload_n 3, 1) := by decide +kernel
theorem dX9_fitsSize_15 : decode μX9_fitsSize.2.1 15 = .ok (.ifCond .eq 92, 3) := by decide +kernel
theorem dX9_fitsSize_18 : decode μX9_fitsSize.2.1 18 = .ok (.aload_n 0, 1) := by decide +kernel
theorem dX9_fitsSize_19 : decode μX9_fitsSize.2.1 19 = .ok (.getfield 78, 3) := by decide +kernel
theorem dX9_fitsSize_22 : decode μX9_fitsSize.2.1 22 = .ok (.iload 4, 2) := by decide +kernel
theorem dX9_fitsSize_24 : decode μX9_fitsSize.2.1 24 = .ok (.iaload, 1) := by decide +kernel
theorem dX9_fitsSize_25 : decode μX9_fitsSize.2.1 25 = .ok (.iload_n 2, 1) := by decide +kernel
theorem dX9_fitsSize_26 : decode μX9_fitsSize.2.1 26 = .ok (.if_icmp .gt 75, 3) := by decide +kernel
theorem dX9_fitsSize_29 : decode μX9_fitsSize.2.1 29 = .ok (.aload_n 0, 1) := by decide +kernel
theorem dX9_fitsSize_30 : decode μX9_fitsSize.2.1 30 = .ok (.getfield 81, 3) := by decide +kernel
theorem dX9_fitsSize_33 : decode μX9_fitsSize.2.1 33 = .ok (.iload 4, 2) := by decide +kernel
theorem dX9_fitsSize_35 : decode μX9_fitsSize.2.1 35 = .ok (.iaload, 1) := by decide +kernel
theorem dX9_fitsSize_36 : decode μX9_fitsSize.2.1 36 = .ok (.ifCond .lt 17, 3) := by decide +kernel
theorem dX9_fitsSize_39 : decode μX9_fitsSize.2.1 39 = .ok (.aload_n 0, 1) := by decide +kernel
theorem dX9_fitsSize_40 : decode μX9_fitsSize.2.1 40 = .ok (.getfield 81, 3) := by decide +kernel
theorem dX9_fitsSize_43 : decode μX9_fitsSize.2.1 43 = .ok (.iload 4, 2) := by decide +kernel
theorem dX9_fitsSize_45 : decode μX9_fitsSize.2.1 45 = .ok (.iaload, 1) := by decide +kernel
theorem dX9_fitsSize_46 : decode μX9_fitsSize.2.1 46 = .ok (.iload_n 2, 1) := by decide +kernel
theorem dX9_fitsSize_47 : decode μX9_fitsSize.2.1 47 = .ok (.if_icmp .gt 6, 3) := by decide +kernel
theorem dX9_fitsSize_50 : decode μX9_fitsSize.2.1 50 = .ok (.goto 51, 3) := by decide +kernel
theorem dX9_fitsSize_53 : decode μX9_fitsSize.2.1 53 = .ok (.aload_n 0, 1) := by decide +kernel
theorem dX9_fitsSize_54 : decode μX9_fitsSize.2.1 54 = .ok (.getfield 88, 3) := by decide +kernel
theorem dX9_fitsSize_57 : decode μX9_fitsSize.2.1 57 = .ok (.bipush 13, 2) := by decide +kernel
theorem dX9_fitsSize_59 : decode μX9_fitsSize.2.1 59 = .ok (.iload_n 1, 1) := by decide +kernel
theorem dX9_fitsSize_60 : decode μX9_fitsSize.2.1 60 = .ok (.imul, 1) := by decide +kernel
theorem dX9_fitsSize_61 : decode μX9_fitsSize.2.1 61 = .ok (.aload_n 0, 1) := by decide +kernel
theorem dX9_fitsSize_62 : decode μX9_fitsSize.2.1 62 = .ok (.getfield 72, 3) := by decide +kernel
theorem dX9_fitsSize_65 : decode μX9_fitsSize.2.1 65 = .ok (.iload 4, 2) := by decide +kernel
theorem dX9_fitsSize_67 : decode μX9_fitsSize.2.1 67 = .ok (.iaload, 1) := by decide +kernel
theorem dX9_fitsSize_68 : decode μX9_fitsSize.2.1 68 = .ok (.iadd, 1) := by decide +kernel
theorem dX9_fitsSize_69 : decode μX9_fitsSize.2.1 69 = .ok (.iaload, 1) := by decide +kernel
theorem dX9_fitsSize_70 : decode μX9_fitsSize.2.1 70 = .ok (.aload_n 0, 1) := by decide +kernel
theorem dX9_fitsSize_71 : decode μX9_fitsSize.2.1 71 = .ok (.getfield 75, 3) := by decide +kernel
theorem dX9_fitsSize_74 : decode μX9_fitsSize.2.1 74 = .ok (.iload 4, 2) := by decide +kernel
theorem dX9_fitsSize_76 : decode μX9_fitsSize.2.1 76 = .ok (.iaload, 1) := by decide +kernel
theorem dX9_fitsSize_77 : decode μX9_fitsSize.2.1 77 = .ok (.if_icmp .lt 7, 3) := by decide +kernel
theorem dX9_fitsSize_80 : decode μX9_fitsSize.2.1 80 = .ok (.iconst 1, 1) := by decide +kernel
theorem dX9_fitsSize_81 : decode μX9_fitsSize.2.1 81 = .ok (.goto 4, 3) := by decide +kernel
theorem dX9_fitsSize_84 : decode μX9_fitsSize.2.1 84 = .ok (.iconst 0, 1) := by decide +kernel
theorem dX9_fitsSize_85 : decode μX9_fitsSize.2.1 85 = .ok (.aload_n 0, 1) := by decide +kernel
theorem dX9_fitsSize_86 : decode μX9_fitsSize.2.1 86 = .ok (.getfield 84, 3) := by decide +kernel
theorem dX9_fitsSize_89 : decode μX9_fitsSize.2.1 89 = .ok (.iload 4, 2) := by decide +kernel
theorem dX9_fitsSize_91 : decode μX9_fitsSize.2.1 91 = .ok (.baload, 1) := by decide +kernel
theorem dX9_fitsSize_92 : decode μX9_fitsSize.2.1 92 = .ok (.if_icmp .ne 7, 3) := by decide +kernel
theorem dX9_fitsSize_95 : decode μX9_fitsSize.2.1 95 = .ok (.iconst 1, 1) := by decide +kernel
theorem dX9_fitsSize_96 : decode μX9_fitsSize.2.1 96 = .ok (.goto 4, 3) := by decide +kernel
theorem dX9_fitsSize_99 : decode μX9_fitsSize.2.1 99 = .ok (.iconst 0, 1) := by decide +kernel
theorem dX9_fitsSize_100 : decode μX9_fitsSize.2.1 100 = .ok (.istore_n 3, 1) := by decide +kernel
theorem dX9_fitsSize_101 : decode μX9_fitsSize.2.1 101 = .ok (.iinc 4 1, 3) := by decide +kernel
theorem dX9_fitsSize_104 : decode μX9_fitsSize.2.1 104 = .ok (.goto (-99), 3) := by decide +kernel
theorem dX9_fitsSize_107 : decode μX9_fitsSize.2.1 107 = .ok (.iload_n 3, 1) := by decide +kernel
theorem dX9_fitsSize_108 : decode μX9_fitsSize.2.1 108 = .ok (.ireturn, 1) := by decide +kernel
set_option maxRecDepth 20000 in
theorem sg_X9_fitsSize_0 {d : Nat} {x1 : Int32} {x2 : Int32} {M : Mem} {K : (Int32 → Mem → Prop)}  (h : RI d μX9_fitsSize 5 [(0, .ref 58), (1, .int x1), (2, .int x2), (3, .int 1), (4, .int 0)] [] M K) : CI d μX9_fitsSize [.ref 58, .int x1, .int x2] M K := by
  show Rn d μX9_fitsSize 0 [(0, .ref 58), (1, .int x1), (2, .int x2)] [] M _
  refine rn_iconst (v := 1) dX9_fitsSize_0 rfl ?_
  refine rn_istore_n (lv' := [(0, .ref 58), (1, .int x1), (2, .int x2), (3, .int 1)]) (hd := dX9_fitsSize_1) (i := 3) (hi := rfl) (hn := by decide) (hf := rfl) (hl := rfl) ?_
  refine rn_iconst (v := 0) dX9_fitsSize_2 rfl ?_
  refine rn_istore (lv' := [(0, .ref 58), (1, .int x1), (2, .int x2), (3, .int 1), (4, .int 0)]) (hd := dX9_fitsSize_3) (hn := by decide) (hf := rfl) (hl := rfl) ?_
  exact h
set_option maxRecDepth 20000 in
theorem sg_X9_fitsSize_5 {d : Nat} {x1 : Int32} {x2 : Int32} {x3 : Int32} {x4 : Int32} {M : Mem} {K : (Int32 → Mem → Prop)}  (h : (if ri M 58 55 ≤ x4 then ((x3 = 0 ∨ x3 = 1) ∧ K x3 M) else (if x3 = 0 then ((x3 = 0 ∨ x3 = 1) ∧ K x3 M) else (vp_in x4 30 ∧ (if x2 < ri M 80 (nx x4) then RI d μX9_fitsSize 5 [(0, .ref 58), (1, .int x1), (2, .int x2), (3, .int x3), (4, .int (x4 + 1))] [] M K else (vp_in x4 30 ∧ (if ri M 81 (nx x4) < 0 then RI d μX9_fitsSize 53 [(0, .ref 58), (1, .int x1), (2, .int x2), (3, .int x3), (4, .int x4)] [] M K else (vp_in x4 30 ∧ (if x2 < ri M 81 (nx x4) then RI d μX9_fitsSize 53 [(0, .ref 58), (1, .int x1), (2, .int x2), (3, .int x3), (4, .int x4)] [] M K else RI d μX9_fitsSize 5 [(0, .ref 58), (1, .int x1), (2, .int x2), (3, .int x3), (4, .int (x4 + 1))] [] M K))))))))) : RI d μX9_fitsSize 5 [(0, .ref 58), (1, .int x1), (2, .int x2), (3, .int x3), (4, .int x4)] [] M K := by
  show Rn d μX9_fitsSize 5 [(0, .ref 58), (1, .int x1), (2, .int x2), (3, .int x3), (4, .int x4)] [] M _
  refine rn_iload (x := x4) dX9_fitsSize_5 (by simp) ?_
  refine rn_aload_n (i := 0) (x := 58) dX9_fitsSize_7 rfl (by simp) ?_
  refine rn_geti dX9_fitsSize_8 rfl gf_X9_414 (by decide) ?_
  refine rn_icmp_ge (tgt := 107) dX9_fitsSize_11 (by decide) (ite_go h (fun hc h => ?_) (fun hc h => ?_))
  · refine rn_iload_n (i := 3) (x := x3) dX9_fitsSize_107 rfl (by simp) ?_
    exact rn_zret dX9_fitsSize_108 rfl h.1 ⟨_, rfl, h.2⟩
  · refine rn_iload_n (i := 3) (x := x3) dX9_fitsSize_14 rfl (by simp) ?_
    refine rn_if_eq (tgt := 107) dX9_fitsSize_15 (by decide) (ite_go h (fun hc h => ?_) (fun hc h => ?_))
    · refine rn_iload_n (i := 3) (x := x3) dX9_fitsSize_107 rfl (by simp) ?_
      exact rn_zret dX9_fitsSize_108 rfl h.1 ⟨_, rfl, h.2⟩
    · refine rn_aload_n (i := 0) (x := 58) dX9_fitsSize_18 rfl (by simp) ?_
      refine rn_getr (t := 80) dX9_fitsSize_19 rfl gf_X9_78 rfl rfl ?_
      refine rn_iload (x := x4) dX9_fitsSize_22 (by simp) ?_
      obtain ⟨hi, h⟩ := h
      refine rn_iaload dX9_fitsSize_24 rfl hi ?_
      refine rn_iload_n (i := 2) (x := x2) dX9_fitsSize_25 rfl (by simp) ?_
      refine rn_icmp_gt (tgt := 101) dX9_fitsSize_26 (by decide) (ite_go h (fun hc h => ?_) (fun hc h => ?_))
      · refine rn_iinc (x := x4) (v := x4 + 1) (lv' := [(0, .ref 58), (1, .int x1), (2, .int x2), (3, .int x3), (4, .int (x4 + 1))]) dX9_fitsSize_101 (by simp) rfl (by decide) rfl rfl ?_
        refine rn_goto (tgt := 5) dX9_fitsSize_104 (by decide) ?_
        exact h
      · refine rn_aload_n (i := 0) (x := 58) dX9_fitsSize_29 rfl (by simp) ?_
        refine rn_getr (t := 81) dX9_fitsSize_30 rfl gf_X9_81 rfl rfl ?_
        refine rn_iload (x := x4) dX9_fitsSize_33 (by simp) ?_
        obtain ⟨hi, h⟩ := h
        refine rn_iaload dX9_fitsSize_35 rfl hi ?_
        refine rn_if_lt (tgt := 53) dX9_fitsSize_36 (by decide) (ite_go h (fun hc h => ?_) (fun hc h => ?_))
        · exact h
        · refine rn_aload_n (i := 0) (x := 58) dX9_fitsSize_39 rfl (by simp) ?_
          refine rn_getr (t := 81) dX9_fitsSize_40 rfl gf_X9_81 rfl rfl ?_
          refine rn_iload (x := x4) dX9_fitsSize_43 (by simp) ?_
          obtain ⟨hi, h⟩ := h
          refine rn_iaload dX9_fitsSize_45 rfl hi ?_
          refine rn_iload_n (i := 2) (x := x2) dX9_fitsSize_46 rfl (by simp) ?_
          refine rn_icmp_gt (tgt := 53) dX9_fitsSize_47 (by decide) (ite_go h (fun hc h => ?_) (fun hc h => ?_))
          · exact h
          · refine rn_goto (tgt := 101) dX9_fitsSize_50 (by decide) ?_
            refine rn_iinc (x := x4) (v := x4 + 1) (lv' := [(0, .ref 58), (1, .int x1), (2, .int x2), (3, .int x3), (4, .int (x4 + 1))]) dX9_fitsSize_101 (by simp) rfl (by decide) rfl rfl ?_
            refine rn_goto (tgt := 5) dX9_fitsSize_104 (by decide) ?_
            exact h
set_option maxRecDepth 20000 in
theorem sg_X9_fitsSize_53 {d : Nat} {x1 : Int32} {x2 : Int32} {x3 : Int32} {x4 : Int32} {M : Mem} {K : (Int32 → Mem → Prop)}  (h : (vp_in x4 30 ∧ (vp_in ((13 * x1) + (ri M 78 (nx x4))) 403 ∧ (vp_in x4 30 ∧ (if ri M 83 (nx ((13 * x1) + (ri M 78 (nx x4)))) < ri M 79 (nx x4) then (vp_in x4 30 ∧ (if 0 = ri M 82 (nx x4) then RI d μX9_fitsSize 5 [(0, .ref 58), (1, .int x1), (2, .int x2), (3, .int 1), (4, .int (x4 + 1))] [] M K else RI d μX9_fitsSize 5 [(0, .ref 58), (1, .int x1), (2, .int x2), (3, .int 0), (4, .int (x4 + 1))] [] M K)) else (vp_in x4 30 ∧ (if 1 = ri M 82 (nx x4) then RI d μX9_fitsSize 5 [(0, .ref 58), (1, .int x1), (2, .int x2), (3, .int 1), (4, .int (x4 + 1))] [] M K else RI d μX9_fitsSize 5 [(0, .ref 58), (1, .int x1), (2, .int x2), (3, .int 0), (4, .int (x4 + 1))] [] M K))))))) : RI d μX9_fitsSize 53 [(0, .ref 58), (1, .int x1), (2, .int x2), (3, .int x3), (4, .int x4)] [] M K := by
  show Rn d μX9_fitsSize 53 [(0, .ref 58), (1, .int x1), (2, .int x2), (3, .int x3), (4, .int x4)] [] M _
  refine rn_aload_n (i := 0) (x := 58) dX9_fitsSize_53 rfl (by simp) ?_
  refine rn_getr (t := 83) dX9_fitsSize_54 rfl gf_X9_88 rfl rfl ?_
  refine rn_bipush (v := 13) dX9_fitsSize_57 rfl ?_
  refine rn_iload_n (i := 1) (x := x1) dX9_fitsSize_59 rfl (by simp) ?_
  refine rn_imul dX9_fitsSize_60 ?_
  refine rn_aload_n (i := 0) (x := 58) dX9_fitsSize_61 rfl (by simp) ?_
  refine rn_getr (t := 78) dX9_fitsSize_62 rfl gf_X9_72 rfl rfl ?_
  refine rn_iload (x := x4) dX9_fitsSize_65 (by simp) ?_
  obtain ⟨hi, h⟩ := h
  refine rn_iaload dX9_fitsSize_67 rfl hi ?_
  refine rn_iadd dX9_fitsSize_68 ?_
  obtain ⟨hi, h⟩ := h
  refine rn_iaload dX9_fitsSize_69 rfl hi ?_
  refine rn_aload_n (i := 0) (x := 58) dX9_fitsSize_70 rfl (by simp) ?_
  refine rn_getr (t := 79) dX9_fitsSize_71 rfl gf_X9_75 rfl rfl ?_
  refine rn_iload (x := x4) dX9_fitsSize_74 (by simp) ?_
  obtain ⟨hi, h⟩ := h
  refine rn_iaload dX9_fitsSize_76 rfl hi ?_
  refine rn_icmp_lt (tgt := 84) dX9_fitsSize_77 (by decide) (ite_go h (fun hc h => ?_) (fun hc h => ?_))
  · refine rn_iconst (v := 0) dX9_fitsSize_84 rfl ?_
    refine rn_aload_n (i := 0) (x := 58) dX9_fitsSize_85 rfl (by simp) ?_
    refine rn_getr (t := 82) dX9_fitsSize_86 rfl gf_X9_84 rfl rfl ?_
    refine rn_iload (x := x4) dX9_fitsSize_89 (by simp) ?_
    obtain ⟨hi, h⟩ := h
    refine rn_zaload dX9_fitsSize_91 rfl hi ?_
    refine rn_icmp_ne (tgt := 99) dX9_fitsSize_92 (by decide) (ite_go h (fun hc h => ?_) (fun hc h => ?_))
    · refine rn_iconst (v := 1) dX9_fitsSize_95 rfl ?_
      refine rn_goto (tgt := 100) dX9_fitsSize_96 (by decide) ?_
      refine rn_istore_n (lv' := [(0, .ref 58), (1, .int x1), (2, .int x2), (3, .int 1), (4, .int x4)]) (hd := dX9_fitsSize_100) (i := 3) (hi := rfl) (hn := by decide) (hf := rfl) (hl := rfl) ?_
      refine rn_iinc (x := x4) (v := x4 + 1) (lv' := [(0, .ref 58), (1, .int x1), (2, .int x2), (3, .int 1), (4, .int (x4 + 1))]) dX9_fitsSize_101 (by simp) rfl (by decide) rfl rfl ?_
      refine rn_goto (tgt := 5) dX9_fitsSize_104 (by decide) ?_
      exact h
    · refine rn_iconst (v := 0) dX9_fitsSize_99 rfl ?_
      refine rn_istore_n (lv' := [(0, .ref 58), (1, .int x1), (2, .int x2), (3, .int 0), (4, .int x4)]) (hd := dX9_fitsSize_100) (i := 3) (hi := rfl) (hn := by decide) (hf := rfl) (hl := rfl) ?_
      refine rn_iinc (x := x4) (v := x4 + 1) (lv' := [(0, .ref 58), (1, .int x1), (2, .int x2), (3, .int 0), (4, .int (x4 + 1))]) dX9_fitsSize_101 (by simp) rfl (by decide) rfl rfl ?_
      refine rn_goto (tgt := 5) dX9_fitsSize_104 (by decide) ?_
      exact h
  · refine rn_iconst (v := 1) dX9_fitsSize_80 rfl ?_
    refine rn_goto (tgt := 85) dX9_fitsSize_81 (by decide) ?_
    refine rn_aload_n (i := 0) (x := 58) dX9_fitsSize_85 rfl (by simp) ?_
    refine rn_getr (t := 82) dX9_fitsSize_86 rfl gf_X9_84 rfl rfl ?_
    refine rn_iload (x := x4) dX9_fitsSize_89 (by simp) ?_
    obtain ⟨hi, h⟩ := h
    refine rn_zaload dX9_fitsSize_91 rfl hi ?_
    refine rn_icmp_ne (tgt := 99) dX9_fitsSize_92 (by decide) (ite_go h (fun hc h => ?_) (fun hc h => ?_))
    · refine rn_iconst (v := 1) dX9_fitsSize_95 rfl ?_
      refine rn_goto (tgt := 100) dX9_fitsSize_96 (by decide) ?_
      refine rn_istore_n (lv' := [(0, .ref 58), (1, .int x1), (2, .int x2), (3, .int 1), (4, .int x4)]) (hd := dX9_fitsSize_100) (i := 3) (hi := rfl) (hn := by decide) (hf := rfl) (hl := rfl) ?_
      refine rn_iinc (x := x4) (v := x4 + 1) (lv' := [(0, .ref 58), (1, .int x1), (2, .int x2), (3, .int 1), (4, .int (x4 + 1))]) dX9_fitsSize_101 (by simp) rfl (by decide) rfl rfl ?_
      refine rn_goto (tgt := 5) dX9_fitsSize_104 (by decide) ?_
      exact h
    · refine rn_iconst (v := 0) dX9_fitsSize_99 rfl ?_
      refine rn_istore_n (lv' := [(0, .ref 58), (1, .int x1), (2, .int x2), (3, .int 0), (4, .int x4)]) (hd := dX9_fitsSize_100) (i := 3) (hi := rfl) (hn := by decide) (hf := rfl) (hl := rfl) ?_
      refine rn_iinc (x := x4) (v := x4 + 1) (lv' := [(0, .ref 58), (1, .int x1), (2, .int x2), (3, .int 0), (4, .int (x4 + 1))]) dX9_fitsSize_101 (by simp) rfl (by decide) rfl rfl ?_
      refine rn_goto (tgt := 5) dX9_fitsSize_104 (by decide) ?_
      exact h
theorem dX9_layFits_0 : decode μX9_layFits.2.1 0 = .ok (.iconst 0, 1) := by decide +kernel
theorem dX9_layFits_1 : decode μX9_layFits.2.1 1 = .ok (.istore_n 2, 1) := by decide +kernel
theorem dX9_layFits_2 : decode μX9_layFits.2.1 2 = .ok (.iconst 0, 1) := by decide +kernel
theorem dX9_layFits_3 : decode μX9_layFits.2.1 3 = .ok (.istore_n 3, 1) := by decide +kernel
theorem dX9_layFits_4 : decode μX9_layFits.2.1 4 = .ok (.iload_n 3, 1) := by decide +kernel
theorem dX9_layFits_5 : decode μX9_layFits.2.1 5 = .ok (.bipush 30, 2) := by decide +kernel
theorem dX9_layFits_7 : decode μX9_layFits.2.1 7 = .ok (.if_icmp .gt 128, 3) := by decide +kernel
theorem dX9_layFits_10 : decode μX9_layFits.2.1 10 = .ok (.aload_n 0, 1) := by decide +kernel
theorem dX9_layFits_11 : decode μX9_layFits.2.1 11 = .ok (.getfield 326, 3) := by decide +kernel
theorem dX9_layFits_14 : decode μX9_layFits.2.1 14 = .ok (.ifCond .le 121, 3) := by decide +kernel
theorem dX9_layFits_17 : decode μX9_layFits.2.1 17 = .ok (.iconst 0, 1) := by decide +kernel
theorem dX9_layFits_18 : decode μX9_layFits.2.1 18 = .ok (.istore 4, 2) := by decide +kernel
theorem dX9_layFits_20 : decode μX9_layFits.2.1 20 = .ok (.iload 4, 2) := by decide +kernel
theorem dX9_layFits_22 : decode μX9_layFits.2.1 22 = .ok (.bipush 24, 2) := by decide +kernel
theorem dX9_layFits_24 : decode μX9_layFits.2.1 24 = .ok (.if_icmp .ge 23, 3) := by decide +kernel
theorem dX9_layFits_27 : decode μX9_layFits.2.1 27 = .ok (.aload_n 0, 1) := by decide +kernel
theorem dX9_layFits_28 : decode μX9_layFits.2.1 28 = .ok (.getfield 45, 3) := by decide +kernel
theorem dX9_layFits_31 : decode μX9_layFits.2.1 31 = .ok (.iload 4, 2) := by decide +kernel
theorem dX9_layFits_33 : decode μX9_layFits.2.1 33 = .ok (.aload_n 0, 1) := by decide +kernel
theorem dX9_layFits_34 : decode μX9_layFits.2.1 34 = .ok (.getfield 48, 3) := by decide +kernel
theorem dX9_layFits_37 : decode μX9_layFits.2.1 37 = .ok (.iload 4, 2) := by decide +kernel
theorem dX9_layFits_39 : decode μX9_layFits.2.1 39 = .ok (.iaload, 1) := by decide +kernel
theorem dX9_layFits_40 : decode μX9_layFits.2.1 40 = .ok (.iastore, 1) := by decide +kernel
theorem dX9_layFits_41 : decode μX9_layFits.2.1 41 = .ok (.iinc 4 1, 3) := by decide +kernel
theorem dX9_layFits_44 : decode μX9_layFits.2.1 44 = .ok (.goto (-24), 3) := by decide +kernel
theorem dX9_layFits_47 : decode μX9_layFits.2.1 47 = .ok (.aload_n 0, 1) := by decide +kernel
theorem dX9_layFits_48 : decode μX9_layFits.2.1 48 = .ok (.getfield 45, 3) := by decide +kernel
theorem dX9_layFits_51 : decode μX9_layFits.2.1 51 = .ok (.bipush 14, 2) := by decide +kernel
theorem dX9_layFits_53 : decode μX9_layFits.2.1 53 = .ok (.aload_n 0, 1) := by decide +kernel
theorem dX9_layFits_54 : decode μX9_layFits.2.1 54 = .ok (.getfield 326, 3) := by decide +kernel
theorem dX9_layFits_57 : decode μX9_layFits.2.1 57 = .ok (.iadd, 1) := by decide +kernel
theorem dX9_layFits_58 : decode μX9_layFits.2.1 58 = .ok (.iconst 1, 1) := by decide +kernel
theorem dX9_layFits_59 : decode μX9_layFits.2.1 59 = .ok (.isub, 1) := by decide +kernel
theorem dX9_layFits_60 : decode μX9_layFits.2.1 60 = .ok (.iload_n 3, 1) := by decide +kernel
theorem dX9_layFits_61 : decode μX9_layFits.2.1 61 = .ok (.iastore, 1) := by decide +kernel
theorem dX9_layFits_62 : decode μX9_layFits.2.1 62 = .ok (.iconst 0, 1) := by decide +kernel
theorem dX9_layFits_63 : decode μX9_layFits.2.1 63 = .ok (.istore 4, 2) := by decide +kernel
theorem dX9_layFits_65 : decode μX9_layFits.2.1 65 = .ok (.iload 4, 2) := by decide +kernel
theorem dX9_layFits_67 : decode μX9_layFits.2.1 67 = .ok (.bipush 12, 2) := by decide +kernel
theorem dX9_layFits_69 : decode μX9_layFits.2.1 69 = .ok (.if_icmp .gt 36, 3) := by decide +kernel
theorem dX9_layFits_72 : decode μX9_layFits.2.1 72 = .ok (.aload_n 0, 1) := by decide +kernel
theorem dX9_layFits_73 : decode μX9_layFits.2.1 73 = .ok (.getfield 88, 3) := by decide +kernel
theorem dX9_layFits_76 : decode μX9_layFits.2.1 76 = .ok (.bipush 13, 2) := by decide +kernel
theorem dX9_layFits_78 : decode μX9_layFits.2.1 78 = .ok (.iload_n 3, 1) := by decide +kernel
theorem dX9_layFits_79 : decode μX9_layFits.2.1 79 = .ok (.imul, 1) := by decide +kernel
theorem dX9_layFits_80 : decode μX9_layFits.2.1 80 = .ok (.iload 4, 2) := by decide +kernel
theorem dX9_layFits_82 : decode μX9_layFits.2.1 82 = .ok (.iadd, 1) := by decide +kernel
theorem dX9_layFits_83 : decode μX9_layFits.2.1 83 = .ok (.aload_n 0, 1) := by decide +kernel
theorem dX9_layFits_84 : decode μX9_layFits.2.1 84 = .ok (.aload_n 0, 1) := by decide +kernel
theorem dX9_layFits_85 : decode μX9_layFits.2.1 85 = .ok (.getfield 326, 3) := by decide +kernel
theorem dX9_layFits_88 : decode μX9_layFits.2.1 88 = .ok (.iconst 1, 1) := by decide +kernel
theorem dX9_layFits_89 : decode μX9_layFits.2.1 89 = .ok (.isub, 1) := by decide +kernel
theorem dX9_layFits_90 : decode μX9_layFits.2.1 90 = .ok (.invokevirtual 265, 3) := by decide +kernel
theorem dX9_layFits_93 : decode μX9_layFits.2.1 93 = .ok (.iastore, 1) := by decide +kernel
theorem dX9_layFits_94 : decode μX9_layFits.2.1 94 = .ok (.aload_n 0, 1) := by decide +kernel
theorem dX9_layFits_95 : decode μX9_layFits.2.1 95 = .ok (.iconst 0, 1) := by decide +kernel
theorem dX9_layFits_96 : decode μX9_layFits.2.1 96 = .ok (.invokevirtual 439, 3) := by decide +kernel
theorem dX9_layFits_99 : decode μX9_layFits.2.1 99 = .ok (.iinc 4 1, 3) := by decide +kernel
theorem dX9_layFits_102 : decode μX9_layFits.2.1 102 = .ok (.goto (-37), 3) := by decide +kernel
theorem dX9_layFits_105 : decode μX9_layFits.2.1 105 = .ok (.aload_n 0, 1) := by decide +kernel
theorem dX9_layFits_106 : decode μX9_layFits.2.1 106 = .ok (.getfield 94, 3) := by decide +kernel
theorem dX9_layFits_109 : decode μX9_layFits.2.1 109 = .ok (.iload_n 3, 1) := by decide +kernel
theorem dX9_layFits_110 : decode μX9_layFits.2.1 110 = .ok (.aload_n 0, 1) := by decide +kernel
theorem dX9_layFits_111 : decode μX9_layFits.2.1 111 = .ok (.iload_n 3, 1) := by decide +kernel
theorem dX9_layFits_112 : decode μX9_layFits.2.1 112 = .ok (.iload_n 1, 1) := by decide +kernel
theorem dX9_layFits_113 : decode μX9_layFits.2.1 113 = .ok (.invokevirtual 502, 3) := by decide +kernel
theorem dX9_layFits_116 : decode μX9_layFits.2.1 116 = .ok (.bastore, 1) := by decide +kernel
theorem dX9_layFits_117 : decode μX9_layFits.2.1 117 = .ok (.iload_n 2, 1) := by decide +kernel
theorem dX9_layFits_118 : decode μX9_layFits.2.1 118 = .ok (.aload_n 0, 1) := by decide +kernel
theorem dX9_layFits_119 : decode μX9_layFits.2.1 119 = .ok (.getfield 94, 3) := by decide +kernel
theorem dX9_layFits_122 : decode μX9_layFits.2.1 122 = .ok (.iload_n 3, 1) := by decide +kernel
theorem dX9_layFits_123 : decode μX9_layFits.2.1 123 = .ok (.baload, 1) := by decide +kernel
theorem dX9_layFits_124 : decode μX9_layFits.2.1 124 = .ok (.invokestatic 261, 3) := by decide +kernel
theorem dX9_layFits_127 : decode μX9_layFits.2.1 127 = .ok (.iadd, 1) := by decide +kernel
theorem dX9_layFits_128 : decode μX9_layFits.2.1 128 = .ok (.istore_n 2, 1) := by decide +kernel
theorem dX9_layFits_129 : decode μX9_layFits.2.1 129 = .ok (.iinc 3 1, 3) := by decide +kernel
theorem dX9_layFits_132 : decode μX9_layFits.2.1 132 = .ok (.goto (-128), 3) := by decide +kernel
theorem dX9_layFits_135 : decode μX9_layFits.2.1 135 = .ok (.iload_n 2, 1) := by decide +kernel
theorem dX9_layFits_136 : decode μX9_layFits.2.1 136 = .ok (.ireturn, 1) := by decide +kernel
set_option maxRecDepth 20000 in
theorem sg_X9_layFits_0 {d : Nat} {x1 : Int32} {M : Mem} {K : (Int32 → Mem → Prop)}  (h : RI (d + 1) μX9_layFits 4 [(0, .ref 58), (1, .int x1), (2, .int 0), (3, .int 0)] [] M K) : CI (d + 1) μX9_layFits [.ref 58, .int x1] M K := by
  show Rn (d + 1) μX9_layFits 0 [(0, .ref 58), (1, .int x1)] [] M _
  refine rn_iconst (v := 0) dX9_layFits_0 rfl ?_
  refine rn_istore_n (lv' := [(0, .ref 58), (1, .int x1), (2, .int 0)]) (hd := dX9_layFits_1) (i := 2) (hi := rfl) (hn := by decide) (hf := rfl) (hl := rfl) ?_
  refine rn_iconst (v := 0) dX9_layFits_2 rfl ?_
  refine rn_istore_n (lv' := [(0, .ref 58), (1, .int x1), (2, .int 0), (3, .int 0)]) (hd := dX9_layFits_3) (i := 3) (hi := rfl) (hn := by decide) (hf := rfl) (hl := rfl) ?_
  exact h
set_option maxRecDepth 20000 in
theorem sg_X9_layFits_4 {d : Nat} {x1 : Int32} {x2 : Int32} {x3 : Int32} {M : Mem} {K : (Int32 → Mem → Prop)}  (h : (if 30 < x3 then K x2 M else (if ri M 58 35 ≤ 0 then K x2 M else RI (d + 1) μX9_layFits 20 [(0, .ref 58), (1, .int x1), (2, .int x2), (3, .int x3), (4, .int 0)] [] M K))) : RI (d + 1) μX9_layFits 4 [(0, .ref 58), (1, .int x1), (2, .int x2), (3, .int x3)] [] M K := by
  show Rn (d + 1) μX9_layFits 4 [(0, .ref 58), (1, .int x1), (2, .int x2), (3, .int x3)] [] M _
  refine rn_iload_n (i := 3) (x := x3) dX9_layFits_4 rfl (by simp) ?_
  refine rn_bipush (v := 30) dX9_layFits_5 rfl ?_
  refine rn_icmp_gt (tgt := 135) dX9_layFits_7 (by decide) (ite_go h (fun hc h => ?_) (fun hc h => ?_))
  · refine rn_iload_n (i := 2) (x := x2) dX9_layFits_135 rfl (by simp) ?_
    exact rn_iret dX9_layFits_136 rfl ⟨_, rfl, h⟩
  · refine rn_aload_n (i := 0) (x := 58) dX9_layFits_10 rfl (by simp) ?_
    refine rn_geti dX9_layFits_11 rfl gf_X9_326 (by decide) ?_
    refine rn_if_le (tgt := 135) dX9_layFits_14 (by decide) (ite_go h (fun hc h => ?_) (fun hc h => ?_))
    · refine rn_iload_n (i := 2) (x := x2) dX9_layFits_135 rfl (by simp) ?_
      exact rn_iret dX9_layFits_136 rfl ⟨_, rfl, h⟩
    · refine rn_iconst (v := 0) dX9_layFits_17 rfl ?_
      refine rn_istore (lv' := [(0, .ref 58), (1, .int x1), (2, .int x2), (3, .int x3), (4, .int 0)]) (hd := dX9_layFits_18) (hn := by decide) (hf := rfl) (hl := rfl) ?_
      exact h
set_option maxRecDepth 20000 in
theorem sg_X9_layFits_20 {d : Nat} {x1 : Int32} {x2 : Int32} {x3 : Int32} {x4 : Int32} {M : Mem} {K : (Int32 → Mem → Prop)}  (h : (if 24 ≤ x4 then (vp_in ((14 + (ri M 58 35)) - 1) 24 ∧ ∀ M1, M1 = wi M 69 (nx ((14 + (ri M 58 35)) - 1)) x3 → RI (d + 1) μX9_layFits 65 [(0, .ref 58), (1, .int x1), (2, .int x2), (3, .int x3), (4, .int 0)] [] M1 K) else (vp_in x4 24 ∧ (vp_in x4 24 ∧ ∀ M2, M2 = wi M 69 (nx x4) (ri M 70 (nx x4)) → RI (d + 1) μX9_layFits 20 [(0, .ref 58), (1, .int x1), (2, .int x2), (3, .int x3), (4, .int (x4 + 1))] [] M2 K)))) : RI (d + 1) μX9_layFits 20 [(0, .ref 58), (1, .int x1), (2, .int x2), (3, .int x3), (4, .int x4)] [] M K := by
  show Rn (d + 1) μX9_layFits 20 [(0, .ref 58), (1, .int x1), (2, .int x2), (3, .int x3), (4, .int x4)] [] M _
  refine rn_iload (x := x4) dX9_layFits_20 (by simp) ?_
  refine rn_bipush (v := 24) dX9_layFits_22 rfl ?_
  refine rn_icmp_ge (tgt := 47) dX9_layFits_24 (by decide) (ite_go h (fun hc h => ?_) (fun hc h => ?_))
  · refine rn_aload_n (i := 0) (x := 58) dX9_layFits_47 rfl (by simp) ?_
    refine rn_getr (t := 69) dX9_layFits_48 rfl gf_X9_45 rfl rfl ?_
    refine rn_bipush (v := 14) dX9_layFits_51 rfl ?_
    refine rn_aload_n (i := 0) (x := 58) dX9_layFits_53 rfl (by simp) ?_
    refine rn_geti dX9_layFits_54 rfl gf_X9_326 (by decide) ?_
    refine rn_iadd dX9_layFits_57 ?_
    refine rn_iconst (v := 1) dX9_layFits_58 rfl ?_
    refine rn_isub dX9_layFits_59 ?_
    refine rn_iload_n (i := 3) (x := x3) dX9_layFits_60 rfl (by simp) ?_
    obtain ⟨hi, h⟩ := h
    have h := h _ rfl
    refine rn_iastore dX9_layFits_61 rfl hi ?_
    generalize wi M 69 (nx ((14 + (ri M 58 35)) - 1)) x3 = M1 at h ⊢
    refine rn_iconst (v := 0) dX9_layFits_62 rfl ?_
    refine rn_istore (lv' := [(0, .ref 58), (1, .int x1), (2, .int x2), (3, .int x3), (4, .int 0)]) (hd := dX9_layFits_63) (hn := by decide) (hf := rfl) (hl := rfl) ?_
    exact h
  · refine rn_aload_n (i := 0) (x := 58) dX9_layFits_27 rfl (by simp) ?_
    refine rn_getr (t := 69) dX9_layFits_28 rfl gf_X9_45 rfl rfl ?_
    refine rn_iload (x := x4) dX9_layFits_31 (by simp) ?_
    refine rn_aload_n (i := 0) (x := 58) dX9_layFits_33 rfl (by simp) ?_
    refine rn_getr (t := 70) dX9_layFits_34 rfl gf_X9_48 rfl rfl ?_
    refine rn_iload (x := x4) dX9_layFits_37 (by simp) ?_
    obtain ⟨hi, h⟩ := h
    refine rn_iaload dX9_layFits_39 rfl hi ?_
    obtain ⟨hi, h⟩ := h
    have h := h _ rfl
    refine rn_iastore dX9_layFits_40 rfl hi ?_
    generalize wi M 69 (nx x4) (ri M 70 (nx x4)) = M2 at h ⊢
    refine rn_iinc (x := x4) (v := x4 + 1) (lv' := [(0, .ref 58), (1, .int x1), (2, .int x2), (3, .int x3), (4, .int (x4 + 1))]) dX9_layFits_41 (by simp) rfl (by decide) rfl rfl ?_
    refine rn_goto (tgt := 20) dX9_layFits_44 (by decide) ?_
    exact h
set_option maxRecDepth 20000 in
theorem sg_X9_layFits_65 {d : Nat} {x1 : Int32} {x2 : Int32} {x3 : Int32} {x4 : Int32} {M : Mem} {K : (Int32 → Mem → Prop)}  (h : (if 12 < x4 then (CI d μX9_fitsSize [.ref 58, .int x3, .int x1] M (fun r2 M1 => (vp_in x3 31 ∧ ∀ M3, M3 = wi M1 85 (nx x3) (vp_nar .boolean r2) → (vp_in x3 31 ∧ (CI d μX9_truth [.int (ri M3 85 (nx x3))] M3 (fun r5 M4 => RI (d + 1) μX9_layFits 4 [(0, .ref 58), (1, .int x1), (2, .int (x2 + r5)), (3, .int (x3 + 1))] [] M4 K)))))) else (CI d μX9_sidesOf [.ref 58, .int ((ri M 58 35) - 1)] M (fun r7 M6 => (vp_in ((13 * x3) + x4) 403 ∧ ∀ M8, M8 = wi M6 83 (nx ((13 * x3) + x4)) r7 → (CV d μX9_goSeason [.ref 58, .int 0] M8 (fun M9 => RI (d + 1) μX9_layFits 65 [(0, .ref 58), (1, .int x1), (2, .int x2), (3, .int x3), (4, .int (x4 + 1))] [] M9 K))))))) : RI (d + 1) μX9_layFits 65 [(0, .ref 58), (1, .int x1), (2, .int x2), (3, .int x3), (4, .int x4)] [] M K := by
  show Rn (d + 1) μX9_layFits 65 [(0, .ref 58), (1, .int x1), (2, .int x2), (3, .int x3), (4, .int x4)] [] M _
  refine rn_iload (x := x4) dX9_layFits_65 (by simp) ?_
  refine rn_bipush (v := 12) dX9_layFits_67 rfl ?_
  refine rn_icmp_gt (tgt := 105) dX9_layFits_69 (by decide) (ite_go h (fun hc h => ?_) (fun hc h => ?_))
  · refine rn_aload_n (i := 0) (x := 58) dX9_layFits_105 rfl (by simp) ?_
    refine rn_getr (t := 85) dX9_layFits_106 rfl gf_X9_94 rfl rfl ?_
    refine rn_iload_n (i := 3) (x := x3) dX9_layFits_109 rfl (by simp) ?_
    refine rn_aload_n (i := 0) (x := 58) dX9_layFits_110 rfl (by simp) ?_
    refine rn_iload_n (i := 3) (x := x3) dX9_layFits_111 rfl (by simp) ?_
    refine rn_iload_n (i := 1) (x := x1) dX9_layFits_112 rfl (by simp) ?_
    refine rn_callVi (as := [.int x3, .int x1]) (st := [.int x3, .ref 85]) dX9_layFits_113 mf_X9_fitsSize lk_X9_502 im_X9_fitsSize rfl rfl rfl rfl (Nat.le_of_ble_eq_true rfl) (Nat.le_of_ble_eq_true rfl) rfl (RI.mono h (fun r2 M1 h => ?_))
    obtain ⟨hi, h⟩ := h
    have h := h _ rfl
    refine rn_zastore dX9_layFits_116 rfl hi ?_
    generalize wi M1 85 (nx x3) (vp_nar .boolean r2) = M3 at h ⊢
    refine rn_iload_n (i := 2) (x := x2) dX9_layFits_117 rfl (by simp) ?_
    refine rn_aload_n (i := 0) (x := 58) dX9_layFits_118 rfl (by simp) ?_
    refine rn_getr (t := 85) dX9_layFits_119 rfl gf_X9_94 rfl rfl ?_
    refine rn_iload_n (i := 3) (x := x3) dX9_layFits_122 rfl (by simp) ?_
    obtain ⟨hi, h⟩ := h
    refine rn_zaload dX9_layFits_123 rfl hi ?_
    refine rn_callSi (as := [.int (ri M3 85 (nx x3))]) (st := [.int x2]) dX9_layFits_124 mf_X9_truth lk_X9_261 sm_X9_truth rfl (Nat.le_of_ble_eq_true rfl) (Nat.le_of_ble_eq_true rfl) rfl (RI.mono h (fun r5 M4 h => ?_))
    refine rn_iadd dX9_layFits_127 ?_
    refine rn_istore_n (lv' := [(0, .ref 58), (1, .int x1), (2, .int (x2 + r5)), (3, .int x3), (4, .int x4)]) (hd := dX9_layFits_128) (i := 2) (hi := rfl) (hn := by decide) (hf := rfl) (hl := rfl) ?_
    refine rn_iinc (x := x3) (v := x3 + 1) (lv' := [(0, .ref 58), (1, .int x1), (2, .int (x2 + r5)), (3, .int (x3 + 1)), (4, .int x4)]) dX9_layFits_129 (by simp) rfl (by decide) rfl rfl ?_
    refine rn_goto (tgt := 4) dX9_layFits_132 (by decide) ?_
    refine Rn.sub (lv' := [(0, .ref 58), (1, .int x1), (2, .int (x2 + r5)), (3, .int (x3 + 1))]) (by simp) ?_
    exact h
  · refine rn_aload_n (i := 0) (x := 58) dX9_layFits_72 rfl (by simp) ?_
    refine rn_getr (t := 83) dX9_layFits_73 rfl gf_X9_88 rfl rfl ?_
    refine rn_bipush (v := 13) dX9_layFits_76 rfl ?_
    refine rn_iload_n (i := 3) (x := x3) dX9_layFits_78 rfl (by simp) ?_
    refine rn_imul dX9_layFits_79 ?_
    refine rn_iload (x := x4) dX9_layFits_80 (by simp) ?_
    refine rn_iadd dX9_layFits_82 ?_
    refine rn_aload_n (i := 0) (x := 58) dX9_layFits_83 rfl (by simp) ?_
    refine rn_aload_n (i := 0) (x := 58) dX9_layFits_84 rfl (by simp) ?_
    refine rn_geti dX9_layFits_85 rfl gf_X9_326 (by decide) ?_
    refine rn_iconst (v := 1) dX9_layFits_88 rfl ?_
    refine rn_isub dX9_layFits_89 ?_
    refine rn_callVi (as := [.int ((ri M 58 35) - 1)]) (st := [.int ((13 * x3) + x4), .ref 83]) dX9_layFits_90 mf_X9_sidesOf lk_X9_265 im_X9_sidesOf rfl rfl rfl rfl (Nat.le_of_ble_eq_true rfl) (Nat.le_of_ble_eq_true rfl) rfl (RI.mono h (fun r7 M6 h => ?_))
    obtain ⟨hi, h⟩ := h
    have h := h _ rfl
    refine rn_iastore dX9_layFits_93 rfl hi ?_
    generalize wi M6 83 (nx ((13 * x3) + x4)) r7 = M8 at h ⊢
    refine rn_aload_n (i := 0) (x := 58) dX9_layFits_94 rfl (by simp) ?_
    refine rn_iconst (v := 0) dX9_layFits_95 rfl ?_
    refine rn_callVv (as := [.int 0]) (st := []) dX9_layFits_96 mf_X9_goSeason lk_X9_439 im_X9_goSeason rfl rfl rfl rfl (Nat.le_of_ble_eq_true rfl) (Nat.le_of_ble_eq_true rfl) rfl (RV.mono h (fun M9 h => ?_))
    refine rn_iinc (x := x4) (v := x4 + 1) (lv' := [(0, .ref 58), (1, .int x1), (2, .int x2), (3, .int x3), (4, .int (x4 + 1))]) dX9_layFits_99 (by simp) rfl (by decide) rfl rfl ?_
    refine rn_goto (tgt := 65) dX9_layFits_102 (by decide) ?_
    exact h
theorem dX9_fits_0 : decode μX9_fits.2.1 0 = .ok (.aload_n 0, 1) := by decide +kernel
theorem dX9_fits_1 : decode μX9_fits.2.1 1 = .ok (.iload_n 1, 1) := by decide +kernel
theorem dX9_fits_2 : decode μX9_fits.2.1 2 = .ok (.invokevirtual 505, 3) := by decide +kernel
theorem dX9_fits_5 : decode μX9_fits.2.1 5 = .ok (.ireturn, 1) := by decide +kernel
set_option maxRecDepth 20000 in
theorem sg_X9_fits_0 {d : Nat} {x1 : Int32} {M : Mem} {K : (Int32 → Mem → Prop)}  (h : (CI d μX9_layFits [.ref 58, .int x1] M (fun r2 M1 => K r2 M1))) : CI (d + 1) μX9_fits [.ref 58, .int x1] M K := by
  show Rn (d + 1) μX9_fits 0 [(0, .ref 58), (1, .int x1)] [] M _
  refine rn_aload_n (i := 0) (x := 58) dX9_fits_0 rfl (by simp) ?_
  refine rn_iload_n (i := 1) (x := x1) dX9_fits_1 rfl (by simp) ?_
  refine rn_callVi (as := [.int x1]) (st := []) dX9_fits_2 mf_X9_layFits lk_X9_505 im_X9_layFits rfl rfl rfl rfl (Nat.le_of_ble_eq_true rfl) (Nat.le_of_ble_eq_true rfl) rfl (RI.mono h (fun r2 M1 h => ?_))
  exact rn_iret dX9_fits_5 rfl ⟨_, rfl, h⟩
theorem dX9_sure_0 : decode μX9_sure.2.1 0 = .ok (.iload_n 1, 1) := by decide +kernel
theorem dX9_sure_1 : decode μX9_sure.2.1 1 = .ok (.iconst 0, 1) := by decide +kernel
theorem dX9_sure_2 : decode μX9_sure.2.1 2 = .ok (.iconst 1, 1) := by decide +kernel
theorem dX9_sure_3 : decode μX9_sure.2.1 3 = .ok (.invokestatic 420, 3) := by decide +kernel
theorem dX9_sure_6 : decode μX9_sure.2.1 6 = .ok (.ifCond .eq 11, 3) := by decide +kernel
theorem dX9_sure_9 : decode μX9_sure.2.1 9 = .ok (.aload_n 0, 1) := by decide +kernel
theorem dX9_sure_10 : decode μX9_sure.2.1 10 = .ok (.iload_n 2, 1) := by decide +kernel
theorem dX9_sure_11 : decode μX9_sure.2.1 11 = .ok (.invokevirtual 505, 3) := by decide +kernel
theorem dX9_sure_14 : decode μX9_sure.2.1 14 = .ok (.ifCond .ne 5, 3) := by decide +kernel
theorem dX9_sure_17 : decode μX9_sure.2.1 17 = .ok (.iconst (-1), 1) := by decide +kernel
theorem dX9_sure_18 : decode μX9_sure.2.1 18 = .ok (.ireturn, 1) := by decide +kernel
theorem dX9_sure_19 : decode μX9_sure.2.1 19 = .ok (.iconst (-1), 1) := by decide +kernel
theorem dX9_sure_20 : decode μX9_sure.2.1 20 = .ok (.istore_n 3, 1) := by decide +kernel
theorem dX9_sure_21 : decode μX9_sure.2.1 21 = .ok (.iconst 0, 1) := by decide +kernel
theorem dX9_sure_22 : decode μX9_sure.2.1 22 = .ok (.istore 4, 2) := by decide +kernel
theorem dX9_sure_24 : decode μX9_sure.2.1 24 = .ok (.iload 4, 2) := by decide +kernel
theorem dX9_sure_26 : decode μX9_sure.2.1 26 = .ok (.bipush 30, 2) := by decide +kernel
theorem dX9_sure_28 : decode μX9_sure.2.1 28 = .ok (.if_icmp .gt 31, 3) := by decide +kernel
theorem dX9_sure_31 : decode μX9_sure.2.1 31 = .ok (.aload_n 0, 1) := by decide +kernel
theorem dX9_sure_32 : decode μX9_sure.2.1 32 = .ok (.getfield 94, 3) := by decide +kernel
theorem dX9_sure_35 : decode μX9_sure.2.1 35 = .ok (.iload 4, 2) := by decide +kernel
theorem dX9_sure_37 : decode μX9_sure.2.1 37 = .ok (.baload, 1) := by decide +kernel
theorem dX9_sure_38 : decode μX9_sure.2.1 38 = .ok (.ifCond .eq 15, 3) := by decide +kernel
theorem dX9_sure_41 : decode μX9_sure.2.1 41 = .ok (.iload_n 3, 1) := by decide +kernel
theorem dX9_sure_42 : decode μX9_sure.2.1 42 = .ok (.ifCond .lt 8, 3) := by decide +kernel
theorem dX9_sure_45 : decode μX9_sure.2.1 45 = .ok (.iload_n 1, 1) := by decide +kernel
theorem dX9_sure_46 : decode μX9_sure.2.1 46 = .ok (.iconst 1, 1) := by decide +kernel
theorem dX9_sure_47 : decode μX9_sure.2.1 47 = .ok (.if_icmp .ne 6, 3) := by decide +kernel
theorem dX9_sure_50 : decode μX9_sure.2.1 50 = .ok (.iload 4, 2) := by decide +kernel
theorem dX9_sure_52 : decode μX9_sure.2.1 52 = .ok (.istore_n 3, 1) := by decide +kernel
theorem dX9_sure_53 : decode μX9_sure.2.1 53 = .ok (.iinc 4 1, 3) := by decide +kernel
theorem dX9_sure_56 : decode μX9_sure.2.1 56 = .ok (.goto (-32), 3) := by decide +kernel
theorem dX9_sure_59 : decode μX9_sure.2.1 59 = .ok (.iload_n 3, 1) := by decide +kernel
theorem dX9_sure_60 : decode μX9_sure.2.1 60 = .ok (.ireturn, 1) := by decide +kernel
set_option maxRecDepth 20000 in
theorem sg_X9_sure_0 {d : Nat} {x1 : Int32} {x2 : Int32} {M : Mem} {K : (Int32 → Mem → Prop)}  (h : (CI d μX9_isIn [.int x1, .int 0, .int 1] M (fun r2 M1 => (if r2 = 0 then K ((-1)) M1 else (CI d μX9_layFits [.ref 58, .int x2] M1 (fun r4 M3 => (if r4 = 0 then K ((-1)) M3 else RI (d + 1) μX9_sure 24 [(0, .ref 58), (1, .int x1), (2, .int x2), (3, .int ((-1))), (4, .int 0)] [] M3 K))))))) : CI (d + 1) μX9_sure [.ref 58, .int x1, .int x2] M K := by
  show Rn (d + 1) μX9_sure 0 [(0, .ref 58), (1, .int x1), (2, .int x2)] [] M _
  refine rn_iload_n (i := 1) (x := x1) dX9_sure_0 rfl (by simp) ?_
  refine rn_iconst (v := 0) dX9_sure_1 rfl ?_
  refine rn_iconst (v := 1) dX9_sure_2 rfl ?_
  refine rn_callSi (as := [.int x1, .int 0, .int 1]) (st := []) dX9_sure_3 mf_X9_isIn lk_X9_420 sm_X9_isIn rfl (Nat.le_of_ble_eq_true rfl) (Nat.le_of_ble_eq_true rfl) rfl (RI.mono h (fun r2 M1 h => ?_))
  refine rn_if_eq (tgt := 17) dX9_sure_6 (by decide) (ite_go h (fun hc h => ?_) (fun hc h => ?_))
  · refine rn_iconst (v := -1) dX9_sure_17 rfl ?_
    exact rn_iret dX9_sure_18 rfl ⟨_, rfl, h⟩
  · refine rn_aload_n (i := 0) (x := 58) dX9_sure_9 rfl (by simp) ?_
    refine rn_iload_n (i := 2) (x := x2) dX9_sure_10 rfl (by simp) ?_
    refine rn_callVi (as := [.int x2]) (st := []) dX9_sure_11 mf_X9_layFits lk_X9_505 im_X9_layFits rfl rfl rfl rfl (Nat.le_of_ble_eq_true rfl) (Nat.le_of_ble_eq_true rfl) rfl (RI.mono h (fun r4 M3 h => ?_))
    refine rn_if_ne (tgt := 19) dX9_sure_14 (by decide) (ite_go h (fun hc h => ?_) (fun hc h => ?_))
    · refine rn_iconst (v := -1) dX9_sure_17 rfl ?_
      exact rn_iret dX9_sure_18 rfl ⟨_, rfl, h⟩
    · refine rn_iconst (v := -1) dX9_sure_19 rfl ?_
      refine rn_istore_n (lv' := [(0, .ref 58), (1, .int x1), (2, .int x2), (3, .int ((-1)))]) (hd := dX9_sure_20) (i := 3) (hi := rfl) (hn := by decide) (hf := rfl) (hl := rfl) ?_
      refine rn_iconst (v := 0) dX9_sure_21 rfl ?_
      refine rn_istore (lv' := [(0, .ref 58), (1, .int x1), (2, .int x2), (3, .int ((-1))), (4, .int 0)]) (hd := dX9_sure_22) (hn := by decide) (hf := rfl) (hl := rfl) ?_
      exact h
set_option maxRecDepth 20000 in
theorem sg_X9_sure_24 {d : Nat} {x1 : Int32} {x2 : Int32} {x3 : Int32} {x4 : Int32} {M : Mem} {K : (Int32 → Mem → Prop)}  (h : (if 30 < x4 then K x3 M else (vp_in x4 31 ∧ (if ri M 85 (nx x4) = 0 then RI (d + 1) μX9_sure 24 [(0, .ref 58), (1, .int x1), (2, .int x2), (3, .int x3), (4, .int (x4 + 1))] [] M K else (if x3 < 0 then RI (d + 1) μX9_sure 24 [(0, .ref 58), (1, .int x1), (2, .int x2), (3, .int x4), (4, .int (x4 + 1))] [] M K else (if x1 = 1 then RI (d + 1) μX9_sure 24 [(0, .ref 58), (1, .int x1), (2, .int x2), (3, .int x4), (4, .int (x4 + 1))] [] M K else RI (d + 1) μX9_sure 24 [(0, .ref 58), (1, .int x1), (2, .int x2), (3, .int x3), (4, .int (x4 + 1))] [] M K)))))) : RI (d + 1) μX9_sure 24 [(0, .ref 58), (1, .int x1), (2, .int x2), (3, .int x3), (4, .int x4)] [] M K := by
  show Rn (d + 1) μX9_sure 24 [(0, .ref 58), (1, .int x1), (2, .int x2), (3, .int x3), (4, .int x4)] [] M _
  refine rn_iload (x := x4) dX9_sure_24 (by simp) ?_
  refine rn_bipush (v := 30) dX9_sure_26 rfl ?_
  refine rn_icmp_gt (tgt := 59) dX9_sure_28 (by decide) (ite_go h (fun hc h => ?_) (fun hc h => ?_))
  · refine rn_iload_n (i := 3) (x := x3) dX9_sure_59 rfl (by simp) ?_
    exact rn_iret dX9_sure_60 rfl ⟨_, rfl, h⟩
  · refine rn_aload_n (i := 0) (x := 58) dX9_sure_31 rfl (by simp) ?_
    refine rn_getr (t := 85) dX9_sure_32 rfl gf_X9_94 rfl rfl ?_
    refine rn_iload (x := x4) dX9_sure_35 (by simp) ?_
    obtain ⟨hi, h⟩ := h
    refine rn_zaload dX9_sure_37 rfl hi ?_
    refine rn_if_eq (tgt := 53) dX9_sure_38 (by decide) (ite_go h (fun hc h => ?_) (fun hc h => ?_))
    · refine rn_iinc (x := x4) (v := x4 + 1) (lv' := [(0, .ref 58), (1, .int x1), (2, .int x2), (3, .int x3), (4, .int (x4 + 1))]) dX9_sure_53 (by simp) rfl (by decide) rfl rfl ?_
      refine rn_goto (tgt := 24) dX9_sure_56 (by decide) ?_
      exact h
    · refine rn_iload_n (i := 3) (x := x3) dX9_sure_41 rfl (by simp) ?_
      refine rn_if_lt (tgt := 50) dX9_sure_42 (by decide) (ite_go h (fun hc h => ?_) (fun hc h => ?_))
      · refine rn_iload (x := x4) dX9_sure_50 (by simp) ?_
        refine rn_istore_n (lv' := [(0, .ref 58), (1, .int x1), (2, .int x2), (3, .int x4), (4, .int x4)]) (hd := dX9_sure_52) (i := 3) (hi := rfl) (hn := by decide) (hf := rfl) (hl := rfl) ?_
        refine rn_iinc (x := x4) (v := x4 + 1) (lv' := [(0, .ref 58), (1, .int x1), (2, .int x2), (3, .int x4), (4, .int (x4 + 1))]) dX9_sure_53 (by simp) rfl (by decide) rfl rfl ?_
        refine rn_goto (tgt := 24) dX9_sure_56 (by decide) ?_
        exact h
      · refine rn_iload_n (i := 1) (x := x1) dX9_sure_45 rfl (by simp) ?_
        refine rn_iconst (v := 1) dX9_sure_46 rfl ?_
        refine rn_icmp_ne (tgt := 53) dX9_sure_47 (by decide) (ite_go h (fun hc h => ?_) (fun hc h => ?_))
        · refine rn_iload (x := x4) dX9_sure_50 (by simp) ?_
          refine rn_istore_n (lv' := [(0, .ref 58), (1, .int x1), (2, .int x2), (3, .int x4), (4, .int x4)]) (hd := dX9_sure_52) (i := 3) (hi := rfl) (hn := by decide) (hf := rfl) (hl := rfl) ?_
          refine rn_iinc (x := x4) (v := x4 + 1) (lv' := [(0, .ref 58), (1, .int x1), (2, .int x2), (3, .int x4), (4, .int (x4 + 1))]) dX9_sure_53 (by simp) rfl (by decide) rfl rfl ?_
          refine rn_goto (tgt := 24) dX9_sure_56 (by decide) ?_
          exact h
        · refine rn_iinc (x := x4) (v := x4 + 1) (lv' := [(0, .ref 58), (1, .int x1), (2, .int x2), (3, .int x3), (4, .int (x4 + 1))]) dX9_sure_53 (by simp) rfl (by decide) rfl rfl ?_
          refine rn_goto (tgt := 24) dX9_sure_56 (by decide) ?_
          exact h
theorem dX9_leftBy_0 : decode μX9_leftBy.2.1 0 = .ok (.iconst 0, 1) := by decide +kernel
theorem dX9_leftBy_1 : decode μX9_leftBy.2.1 1 = .ok (.istore_n 2, 1) := by decide +kernel
theorem dX9_leftBy_2 : decode μX9_leftBy.2.1 2 = .ok (.iload_n 2, 1) := by decide +kernel
theorem dX9_leftBy_3 : decode μX9_leftBy.2.1 3 = .ok (.bipush 13, 2) := by decide +kernel
theorem dX9_leftBy_5 : decode μX9_leftBy.2.1 5 = .ok (.if_icmp .ge 16, 3) := by decide +kernel
theorem dX9_leftBy_8 : decode μX9_leftBy.2.1 8 = .ok (.aload_n 0, 1) := by decide +kernel
theorem dX9_leftBy_9 : decode μX9_leftBy.2.1 9 = .ok (.getfield 91, 3) := by decide +kernel
theorem dX9_leftBy_12 : decode μX9_leftBy.2.1 12 = .ok (.iload_n 2, 1) := by decide +kernel
theorem dX9_leftBy_13 : decode μX9_leftBy.2.1 13 = .ok (.iconst 0, 1) := by decide +kernel
theorem dX9_leftBy_14 : decode μX9_leftBy.2.1 14 = .ok (.iastore, 1) := by decide +kernel
theorem dX9_leftBy_15 : decode μX9_leftBy.2.1 15 = .ok (.iinc 2 1, 3) := by decide +kernel
theorem dX9_leftBy_18 : decode μX9_leftBy.2.1 18 = .ok (.goto (-16), 3) := by decide +kernel
theorem dX9_leftBy_21 : decode μX9_leftBy.2.1 21 = .ok (.iconst 0, 1) := by decide +kernel
theorem dX9_leftBy_22 : decode μX9_leftBy.2.1 22 = .ok (.istore_n 2, 1) := by decide +kernel
theorem dX9_leftBy_23 : decode μX9_leftBy.2.1 23 = .ok (.iconst 0, 1) := by decide +kernel
theorem dX9_leftBy_24 : decode μX9_leftBy.2.1 24 = .ok (.istore_n 3, 1) := by decide +kernel
theorem dX9_leftBy_25 : decode μX9_leftBy.2.1 25 = .ok (.iload_n 3, 1) := by decide +kernel
theorem dX9_leftBy_26 : decode μX9_leftBy.2.1 26 = .ok (.bipush 30, 2) := by decide +kernel
theorem dX9_leftBy_28 : decode μX9_leftBy.2.1 28 = .ok (.if_icmp .gt 62, 3) := by decide +kernel
theorem dX9_leftBy_31 : decode μX9_leftBy.2.1 31 = .ok (.aload_n 0, 1) := by decide +kernel
theorem dX9_leftBy_32 : decode μX9_leftBy.2.1 32 = .ok (.getfield 94, 3) := by decide +kernel
theorem dX9_leftBy_35 : decode μX9_leftBy.2.1 35 = .ok (.iload_n 3, 1) := by decide +kernel
theorem dX9_leftBy_36 : decode μX9_leftBy.2.1 36 = .ok (.baload, 1) := by decide +kernel
theorem dX9_leftBy_37 : decode μX9_leftBy.2.1 37 = .ok (.ifCond .ne 6, 3) := by decide +kernel
theorem dX9_leftBy_40 : decode μX9_leftBy.2.1 40 = .ok (.goto 44, 3) := by decide +kernel
theorem dX9_leftBy_43 : decode μX9_leftBy.2.1 43 = .ok (.aload_n 0, 1) := by decide +kernel
theorem dX9_leftBy_44 : decode μX9_leftBy.2.1 44 = .ok (.getfield 91, 3) := by decide +kernel
theorem dX9_leftBy_47 : decode μX9_leftBy.2.1 47 = .ok (.aload_n 0, 1) := by decide +kernel
theorem dX9_leftBy_48 : decode μX9_leftBy.2.1 48 = .ok (.getfield 88, 3) := by decide +kernel
theorem dX9_leftBy_51 : decode μX9_leftBy.2.1 51 = .ok (.bipush 13, 2) := by decide +kernel
theorem dX9_leftBy_53 : decode μX9_leftBy.2.1 53 = .ok (.iload_n 3, 1) := by decide +kernel
theorem dX9_leftBy_54 : decode μX9_leftBy.2.1 54 = .ok (.imul, 1) := by decide +kernel
theorem dX9_leftBy_55 : decode μX9_leftBy.2.1 55 = .ok (.iload_n 1, 1) := by decide +kernel
theorem dX9_leftBy_56 : decode μX9_leftBy.2.1 56 = .ok (.iadd, 1) := by decide +kernel
theorem dX9_leftBy_57 : decode μX9_leftBy.2.1 57 = .ok (.iaload, 1) := by decide +kernel
theorem dX9_leftBy_58 : decode μX9_leftBy.2.1 58 = .ok (.dup2, 1) := by decide +kernel
theorem dX9_leftBy_59 : decode μX9_leftBy.2.1 59 = .ok (.iaload, 1) := by decide +kernel
theorem dX9_leftBy_60 : decode μX9_leftBy.2.1 60 = .ok (.iconst 1, 1) := by decide +kernel
theorem dX9_leftBy_61 : decode μX9_leftBy.2.1 61 = .ok (.iadd, 1) := by decide +kernel
theorem dX9_leftBy_62 : decode μX9_leftBy.2.1 62 = .ok (.iastore, 1) := by decide +kernel
theorem dX9_leftBy_63 : decode μX9_leftBy.2.1 63 = .ok (.iload_n 2, 1) := by decide +kernel
theorem dX9_leftBy_64 : decode μX9_leftBy.2.1 64 = .ok (.aload_n 0, 1) := by decide +kernel
theorem dX9_leftBy_65 : decode μX9_leftBy.2.1 65 = .ok (.getfield 91, 3) := by decide +kernel
theorem dX9_leftBy_68 : decode μX9_leftBy.2.1 68 = .ok (.aload_n 0, 1) := by decide +kernel
theorem dX9_leftBy_69 : decode μX9_leftBy.2.1 69 = .ok (.getfield 88, 3) := by decide +kernel
theorem dX9_leftBy_72 : decode μX9_leftBy.2.1 72 = .ok (.bipush 13, 2) := by decide +kernel
theorem dX9_leftBy_74 : decode μX9_leftBy.2.1 74 = .ok (.iload_n 3, 1) := by decide +kernel
theorem dX9_leftBy_75 : decode μX9_leftBy.2.1 75 = .ok (.imul, 1) := by decide +kernel
theorem dX9_leftBy_76 : decode μX9_leftBy.2.1 76 = .ok (.iload_n 1, 1) := by decide +kernel
theorem dX9_leftBy_77 : decode μX9_leftBy.2.1 77 = .ok (.iadd, 1) := by decide +kernel
theorem dX9_leftBy_78 : decode μX9_leftBy.2.1 78 = .ok (.iaload, 1) := by decide +kernel
theorem dX9_leftBy_79 : decode μX9_leftBy.2.1 79 = .ok (.iaload, 1) := by decide +kernel
theorem dX9_leftBy_80 : decode μX9_leftBy.2.1 80 = .ok (.invokestatic 294, 3) := by decide +kernel
theorem dX9_leftBy_83 : decode μX9_leftBy.2.1 83 = .ok (.istore_n 2, 1) := by decide +kernel
theorem dX9_leftBy_84 : decode μX9_leftBy.2.1 84 = .ok (.iinc 3 1, 3) := by decide +kernel
theorem dX9_leftBy_87 : decode μX9_leftBy.2.1 87 = .ok (.goto (-62), 3) := by decide +kernel
theorem dX9_leftBy_90 : decode μX9_leftBy.2.1 90 = .ok (.iload_n 2, 1) := by decide +kernel
theorem dX9_leftBy_91 : decode μX9_leftBy.2.1 91 = .ok (.ireturn, 1) := by decide +kernel
set_option maxRecDepth 20000 in
theorem sg_X9_leftBy_0 {d : Nat} {x1 : Int32} {M : Mem} {K : (Int32 → Mem → Prop)}  (h : RI (d + 1) μX9_leftBy 2 [(0, .ref 58), (1, .int x1), (2, .int 0)] [] M K) : CI (d + 1) μX9_leftBy [.ref 58, .int x1] M K := by
  show Rn (d + 1) μX9_leftBy 0 [(0, .ref 58), (1, .int x1)] [] M _
  refine rn_iconst (v := 0) dX9_leftBy_0 rfl ?_
  refine rn_istore_n (lv' := [(0, .ref 58), (1, .int x1), (2, .int 0)]) (hd := dX9_leftBy_1) (i := 2) (hi := rfl) (hn := by decide) (hf := rfl) (hl := rfl) ?_
  exact h
set_option maxRecDepth 20000 in
theorem sg_X9_leftBy_2 {d : Nat} {x1 : Int32} {x2 : Int32} {M : Mem} {K : (Int32 → Mem → Prop)}  (h : (if 13 ≤ x2 then RI (d + 1) μX9_leftBy 25 [(0, .ref 58), (1, .int x1), (2, .int 0), (3, .int 0)] [] M K else (vp_in x2 13 ∧ ∀ M1, M1 = wi M 84 (nx x2) 0 → RI (d + 1) μX9_leftBy 2 [(0, .ref 58), (1, .int x1), (2, .int (x2 + 1))] [] M1 K))) : RI (d + 1) μX9_leftBy 2 [(0, .ref 58), (1, .int x1), (2, .int x2)] [] M K := by
  show Rn (d + 1) μX9_leftBy 2 [(0, .ref 58), (1, .int x1), (2, .int x2)] [] M _
  refine rn_iload_n (i := 2) (x := x2) dX9_leftBy_2 rfl (by simp) ?_
  refine rn_bipush (v := 13) dX9_leftBy_3 rfl ?_
  refine rn_icmp_ge (tgt := 21) dX9_leftBy_5 (by decide) (ite_go h (fun hc h => ?_) (fun hc h => ?_))
  · refine rn_iconst (v := 0) dX9_leftBy_21 rfl ?_
    refine rn_istore_n (lv' := [(0, .ref 58), (1, .int x1), (2, .int 0)]) (hd := dX9_leftBy_22) (i := 2) (hi := rfl) (hn := by decide) (hf := rfl) (hl := rfl) ?_
    refine rn_iconst (v := 0) dX9_leftBy_23 rfl ?_
    refine rn_istore_n (lv' := [(0, .ref 58), (1, .int x1), (2, .int 0), (3, .int 0)]) (hd := dX9_leftBy_24) (i := 3) (hi := rfl) (hn := by decide) (hf := rfl) (hl := rfl) ?_
    exact h
  · refine rn_aload_n (i := 0) (x := 58) dX9_leftBy_8 rfl (by simp) ?_
    refine rn_getr (t := 84) dX9_leftBy_9 rfl gf_X9_91 rfl rfl ?_
    refine rn_iload_n (i := 2) (x := x2) dX9_leftBy_12 rfl (by simp) ?_
    refine rn_iconst (v := 0) dX9_leftBy_13 rfl ?_
    obtain ⟨hi, h⟩ := h
    have h := h _ rfl
    refine rn_iastore dX9_leftBy_14 rfl hi ?_
    generalize wi M 84 (nx x2) 0 = M1 at h ⊢
    refine rn_iinc (x := x2) (v := x2 + 1) (lv' := [(0, .ref 58), (1, .int x1), (2, .int (x2 + 1))]) dX9_leftBy_15 (by simp) rfl (by decide) rfl rfl ?_
    refine rn_goto (tgt := 2) dX9_leftBy_18 (by decide) ?_
    exact h
set_option maxRecDepth 20000 in
theorem sg_X9_leftBy_25 {d : Nat} {x1 : Int32} {x2 : Int32} {x3 : Int32} {M : Mem} {K : (Int32 → Mem → Prop)}  (h : (if 30 < x3 then K x2 M else (vp_in x3 31 ∧ (if ri M 85 (nx x3) = 0 then RI (d + 1) μX9_leftBy 25 [(0, .ref 58), (1, .int x1), (2, .int x2), (3, .int (x3 + 1))] [] M K else (vp_in ((13 * x3) + x1) 403 ∧ (vp_in (ri M 83 (nx ((13 * x3) + x1))) 13 ∧ (vp_in (ri M 83 (nx ((13 * x3) + x1))) 13 ∧ ∀ M1, M1 = wi M 84 (nx (ri M 83 (nx ((13 * x3) + x1)))) ((ri M 84 (nx (ri M 83 (nx ((13 * x3) + x1))))) + 1) → (vp_in ((13 * x3) + x1) 403 ∧ (vp_in (ri M1 83 (nx ((13 * x3) + x1))) 13 ∧ (CI d μX9_greater [.int x2, .int (ri M1 84 (nx (ri M1 83 (nx ((13 * x3) + x1)))))] M1 (fun r3 M2 => RI (d + 1) μX9_leftBy 25 [(0, .ref 58), (1, .int x1), (2, .int r3), (3, .int (x3 + 1))] [] M2 K))))))))))) : RI (d + 1) μX9_leftBy 25 [(0, .ref 58), (1, .int x1), (2, .int x2), (3, .int x3)] [] M K := by
  show Rn (d + 1) μX9_leftBy 25 [(0, .ref 58), (1, .int x1), (2, .int x2), (3, .int x3)] [] M _
  refine rn_iload_n (i := 3) (x := x3) dX9_leftBy_25 rfl (by simp) ?_
  refine rn_bipush (v := 30) dX9_leftBy_26 rfl ?_
  refine rn_icmp_gt (tgt := 90) dX9_leftBy_28 (by decide) (ite_go h (fun hc h => ?_) (fun hc h => ?_))
  · refine rn_iload_n (i := 2) (x := x2) dX9_leftBy_90 rfl (by simp) ?_
    exact rn_iret dX9_leftBy_91 rfl ⟨_, rfl, h⟩
  · refine rn_aload_n (i := 0) (x := 58) dX9_leftBy_31 rfl (by simp) ?_
    refine rn_getr (t := 85) dX9_leftBy_32 rfl gf_X9_94 rfl rfl ?_
    refine rn_iload_n (i := 3) (x := x3) dX9_leftBy_35 rfl (by simp) ?_
    obtain ⟨hi, h⟩ := h
    refine rn_zaload dX9_leftBy_36 rfl hi ?_
    refine rn_if_ne (tgt := 43) dX9_leftBy_37 (by decide) (ite_go h (fun hc h => ?_) (fun hc h => ?_))
    · refine rn_goto (tgt := 84) dX9_leftBy_40 (by decide) ?_
      refine rn_iinc (x := x3) (v := x3 + 1) (lv' := [(0, .ref 58), (1, .int x1), (2, .int x2), (3, .int (x3 + 1))]) dX9_leftBy_84 (by simp) rfl (by decide) rfl rfl ?_
      refine rn_goto (tgt := 25) dX9_leftBy_87 (by decide) ?_
      exact h
    · refine rn_aload_n (i := 0) (x := 58) dX9_leftBy_43 rfl (by simp) ?_
      refine rn_getr (t := 84) dX9_leftBy_44 rfl gf_X9_91 rfl rfl ?_
      refine rn_aload_n (i := 0) (x := 58) dX9_leftBy_47 rfl (by simp) ?_
      refine rn_getr (t := 83) dX9_leftBy_48 rfl gf_X9_88 rfl rfl ?_
      refine rn_bipush (v := 13) dX9_leftBy_51 rfl ?_
      refine rn_iload_n (i := 3) (x := x3) dX9_leftBy_53 rfl (by simp) ?_
      refine rn_imul dX9_leftBy_54 ?_
      refine rn_iload_n (i := 1) (x := x1) dX9_leftBy_55 rfl (by simp) ?_
      refine rn_iadd dX9_leftBy_56 ?_
      obtain ⟨hi, h⟩ := h
      refine rn_iaload dX9_leftBy_57 rfl hi ?_
      refine rn_dup2 dX9_leftBy_58 rfl rfl ?_
      obtain ⟨hi, h⟩ := h
      refine rn_iaload dX9_leftBy_59 rfl hi ?_
      refine rn_iconst (v := 1) dX9_leftBy_60 rfl ?_
      refine rn_iadd dX9_leftBy_61 ?_
      obtain ⟨hi, h⟩ := h
      have h := h _ rfl
      refine rn_iastore dX9_leftBy_62 rfl hi ?_
      generalize wi M 84 (nx (ri M 83 (nx ((13 * x3) + x1)))) ((ri M 84 (nx (ri M 83 (nx ((13 * x3) + x1))))) + 1) = M1 at h ⊢
      refine rn_iload_n (i := 2) (x := x2) dX9_leftBy_63 rfl (by simp) ?_
      refine rn_aload_n (i := 0) (x := 58) dX9_leftBy_64 rfl (by simp) ?_
      refine rn_getr (t := 84) dX9_leftBy_65 rfl gf_X9_91 rfl rfl ?_
      refine rn_aload_n (i := 0) (x := 58) dX9_leftBy_68 rfl (by simp) ?_
      refine rn_getr (t := 83) dX9_leftBy_69 rfl gf_X9_88 rfl rfl ?_
      refine rn_bipush (v := 13) dX9_leftBy_72 rfl ?_
      refine rn_iload_n (i := 3) (x := x3) dX9_leftBy_74 rfl (by simp) ?_
      refine rn_imul dX9_leftBy_75 ?_
      refine rn_iload_n (i := 1) (x := x1) dX9_leftBy_76 rfl (by simp) ?_
      refine rn_iadd dX9_leftBy_77 ?_
      obtain ⟨hi, h⟩ := h
      refine rn_iaload dX9_leftBy_78 rfl hi ?_
      obtain ⟨hi, h⟩ := h
      refine rn_iaload dX9_leftBy_79 rfl hi ?_
      refine rn_callSi (as := [.int x2, .int (ri M1 84 (nx (ri M1 83 (nx ((13 * x3) + x1)))))]) (st := []) dX9_leftBy_80 mf_X9_greater lk_X9_294 sm_X9_greater rfl (Nat.le_of_ble_eq_true rfl) (Nat.le_of_ble_eq_true rfl) rfl (RI.mono h (fun r3 M2 h => ?_))
      refine rn_istore_n (lv' := [(0, .ref 58), (1, .int x1), (2, .int r3), (3, .int x3)]) (hd := dX9_leftBy_83) (i := 2) (hi := rfl) (hn := by decide) (hf := rfl) (hl := rfl) ?_
      refine rn_iinc (x := x3) (v := x3 + 1) (lv' := [(0, .ref 58), (1, .int x1), (2, .int r3), (3, .int (x3 + 1))]) dX9_leftBy_84 (by simp) rfl (by decide) rfl rfl ?_
      refine rn_goto (tgt := 25) dX9_leftBy_87 (by decide) ?_
      exact h
theorem dX9_ask_0 : decode μX9_ask.2.1 0 = .ok (.iload_n 1, 1) := by decide +kernel
theorem dX9_ask_1 : decode μX9_ask.2.1 1 = .ok (.iconst 0, 1) := by decide +kernel
theorem dX9_ask_2 : decode μX9_ask.2.1 2 = .ok (.iconst 1, 1) := by decide +kernel
theorem dX9_ask_3 : decode μX9_ask.2.1 3 = .ok (.invokestatic 420, 3) := by decide +kernel
theorem dX9_ask_6 : decode μX9_ask.2.1 6 = .ok (.ifCond .eq 11, 3) := by decide +kernel
theorem dX9_ask_9 : decode μX9_ask.2.1 9 = .ok (.aload_n 0, 1) := by decide +kernel
theorem dX9_ask_10 : decode μX9_ask.2.1 10 = .ok (.iload_n 2, 1) := by decide +kernel
theorem dX9_ask_11 : decode μX9_ask.2.1 11 = .ok (.invokevirtual 505, 3) := by decide +kernel
theorem dX9_ask_14 : decode μX9_ask.2.1 14 = .ok (.ifCond .ne 5, 3) := by decide +kernel
theorem dX9_ask_17 : decode μX9_ask.2.1 17 = .ok (.iconst (-1), 1) := by decide +kernel
theorem dX9_ask_18 : decode μX9_ask.2.1 18 = .ok (.ireturn, 1) := by decide +kernel
theorem dX9_ask_19 : decode μX9_ask.2.1 19 = .ok (.iconst 0, 1) := by decide +kernel
theorem dX9_ask_20 : decode μX9_ask.2.1 20 = .ok (.istore_n 3, 1) := by decide +kernel
theorem dX9_ask_21 : decode μX9_ask.2.1 21 = .ok (.iconst 1, 1) := by decide +kernel
theorem dX9_ask_22 : decode μX9_ask.2.1 22 = .ok (.istore 4, 2) := by decide +kernel
theorem dX9_ask_24 : decode μX9_ask.2.1 24 = .ok (.iload 4, 2) := by decide +kernel
theorem dX9_ask_26 : decode μX9_ask.2.1 26 = .ok (.bipush 12, 2) := by decide +kernel
theorem dX9_ask_28 : decode μX9_ask.2.1 28 = .ok (.if_icmp .gt 30, 3) := by decide +kernel
theorem dX9_ask_31 : decode μX9_ask.2.1 31 = .ok (.aload_n 0, 1) := by decide +kernel
theorem dX9_ask_32 : decode μX9_ask.2.1 32 = .ok (.iload 4, 2) := by decide +kernel
theorem dX9_ask_34 : decode μX9_ask.2.1 34 = .ok (.invokevirtual 508, 3) := by decide +kernel
theorem dX9_ask_37 : decode μX9_ask.2.1 37 = .ok (.aload_n 0, 1) := by decide +kernel
theorem dX9_ask_38 : decode μX9_ask.2.1 38 = .ok (.iload_n 3, 1) := by decide +kernel
theorem dX9_ask_39 : decode μX9_ask.2.1 39 = .ok (.invokevirtual 508, 3) := by decide +kernel
theorem dX9_ask_42 : decode μX9_ask.2.1 42 = .ok (.if_icmp .ge 8, 3) := by decide +kernel
theorem dX9_ask_45 : decode μX9_ask.2.1 45 = .ok (.iload 4, 2) := by decide +kernel
theorem dX9_ask_47 : decode μX9_ask.2.1 47 = .ok (.goto 4, 3) := by decide +kernel
theorem dX9_ask_50 : decode μX9_ask.2.1 50 = .ok (.iload_n 3, 1) := by decide +kernel
theorem dX9_ask_51 : decode μX9_ask.2.1 51 = .ok (.istore_n 3, 1) := by decide +kernel
theorem dX9_ask_52 : decode μX9_ask.2.1 52 = .ok (.iinc 4 1, 3) := by decide +kernel
theorem dX9_ask_55 : decode μX9_ask.2.1 55 = .ok (.goto (-31), 3) := by decide +kernel
theorem dX9_ask_58 : decode μX9_ask.2.1 58 = .ok (.iload_n 1, 1) := by decide +kernel
theorem dX9_ask_59 : decode μX9_ask.2.1 59 = .ok (.ifCond .ne 7, 3) := by decide +kernel
theorem dX9_ask_62 : decode μX9_ask.2.1 62 = .ok (.iload_n 3, 1) := by decide +kernel
theorem dX9_ask_63 : decode μX9_ask.2.1 63 = .ok (.goto 8, 3) := by decide +kernel
theorem dX9_ask_66 : decode μX9_ask.2.1 66 = .ok (.aload_n 0, 1) := by decide +kernel
theorem dX9_ask_67 : decode μX9_ask.2.1 67 = .ok (.iload_n 3, 1) := by decide +kernel
theorem dX9_ask_68 : decode μX9_ask.2.1 68 = .ok (.invokevirtual 508, 3) := by decide +kernel
theorem dX9_ask_71 : decode μX9_ask.2.1 71 = .ok (.ireturn, 1) := by decide +kernel
set_option maxRecDepth 20000 in
theorem sg_X9_ask_0 {d : Nat} {x1 : Int32} {x2 : Int32} {M : Mem} {K : (Int32 → Mem → Prop)}  (h : (CI d μX9_isIn [.int x1, .int 0, .int 1] M (fun r2 M1 => (if r2 = 0 then K ((-1)) M1 else (CI d μX9_layFits [.ref 58, .int x2] M1 (fun r4 M3 => (if r4 = 0 then K ((-1)) M3 else RI (d + 1) μX9_ask 24 [(0, .ref 58), (1, .int x1), (2, .int x2), (3, .int 0), (4, .int 1)] [] M3 K))))))) : CI (d + 1) μX9_ask [.ref 58, .int x1, .int x2] M K := by
  show Rn (d + 1) μX9_ask 0 [(0, .ref 58), (1, .int x1), (2, .int x2)] [] M _
  refine rn_iload_n (i := 1) (x := x1) dX9_ask_0 rfl (by simp) ?_
  refine rn_iconst (v := 0) dX9_ask_1 rfl ?_
  refine rn_iconst (v := 1) dX9_ask_2 rfl ?_
  refine rn_callSi (as := [.int x1, .int 0, .int 1]) (st := []) dX9_ask_3 mf_X9_isIn lk_X9_420 sm_X9_isIn rfl (Nat.le_of_ble_eq_true rfl) (Nat.le_of_ble_eq_true rfl) rfl (RI.mono h (fun r2 M1 h => ?_))
  refine rn_if_eq (tgt := 17) dX9_ask_6 (by decide) (ite_go h (fun hc h => ?_) (fun hc h => ?_))
  · refine rn_iconst (v := -1) dX9_ask_17 rfl ?_
    exact rn_iret dX9_ask_18 rfl ⟨_, rfl, h⟩
  · refine rn_aload_n (i := 0) (x := 58) dX9_ask_9 rfl (by simp) ?_
    refine rn_iload_n (i := 2) (x := x2) dX9_ask_10 rfl (by simp) ?_
    refine rn_callVi (as := [.int x2]) (st := []) dX9_ask_11 mf_X9_layFits lk_X9_505 im_X9_layFits rfl rfl rfl rfl (Nat.le_of_ble_eq_true rfl) (Nat.le_of_ble_eq_true rfl) rfl (RI.mono h (fun r4 M3 h => ?_))
    refine rn_if_ne (tgt := 19) dX9_ask_14 (by decide) (ite_go h (fun hc h => ?_) (fun hc h => ?_))
    · refine rn_iconst (v := -1) dX9_ask_17 rfl ?_
      exact rn_iret dX9_ask_18 rfl ⟨_, rfl, h⟩
    · refine rn_iconst (v := 0) dX9_ask_19 rfl ?_
      refine rn_istore_n (lv' := [(0, .ref 58), (1, .int x1), (2, .int x2), (3, .int 0)]) (hd := dX9_ask_20) (i := 3) (hi := rfl) (hn := by decide) (hf := rfl) (hl := rfl) ?_
      refine rn_iconst (v := 1) dX9_ask_21 rfl ?_
      refine rn_istore (lv' := [(0, .ref 58), (1, .int x1), (2, .int x2), (3, .int 0), (4, .int 1)]) (hd := dX9_ask_22) (hn := by decide) (hf := rfl) (hl := rfl) ?_
      exact h
set_option maxRecDepth 20000 in
theorem sg_X9_ask_24 {d : Nat} {x1 : Int32} {x2 : Int32} {x3 : Int32} {x4 : Int32} {M : Mem} {K : (Int32 → Mem → Prop)}  (h : (if 12 < x4 then (if x1 = 0 then K x3 M else (CI d μX9_leftBy [.ref 58, .int x3] M (fun r2 M1 => K r2 M1))) else (CI d μX9_leftBy [.ref 58, .int x4] M (fun r4 M3 => (CI d μX9_leftBy [.ref 58, .int x3] M3 (fun r6 M5 => (if r6 ≤ r4 then RI (d + 1) μX9_ask 24 [(0, .ref 58), (1, .int x1), (2, .int x2), (3, .int x3), (4, .int (x4 + 1))] [] M5 K else RI (d + 1) μX9_ask 24 [(0, .ref 58), (1, .int x1), (2, .int x2), (3, .int x4), (4, .int (x4 + 1))] [] M5 K))))))) : RI (d + 1) μX9_ask 24 [(0, .ref 58), (1, .int x1), (2, .int x2), (3, .int x3), (4, .int x4)] [] M K := by
  show Rn (d + 1) μX9_ask 24 [(0, .ref 58), (1, .int x1), (2, .int x2), (3, .int x3), (4, .int x4)] [] M _
  refine rn_iload (x := x4) dX9_ask_24 (by simp) ?_
  refine rn_bipush (v := 12) dX9_ask_26 rfl ?_
  refine rn_icmp_gt (tgt := 58) dX9_ask_28 (by decide) (ite_go h (fun hc h => ?_) (fun hc h => ?_))
  · refine rn_iload_n (i := 1) (x := x1) dX9_ask_58 rfl (by simp) ?_
    refine rn_if_ne (tgt := 66) dX9_ask_59 (by decide) (ite_go h (fun hc h => ?_) (fun hc h => ?_))
    · refine rn_iload_n (i := 3) (x := x3) dX9_ask_62 rfl (by simp) ?_
      refine rn_goto (tgt := 71) dX9_ask_63 (by decide) ?_
      exact rn_iret dX9_ask_71 rfl ⟨_, rfl, h⟩
    · refine rn_aload_n (i := 0) (x := 58) dX9_ask_66 rfl (by simp) ?_
      refine rn_iload_n (i := 3) (x := x3) dX9_ask_67 rfl (by simp) ?_
      refine rn_callVi (as := [.int x3]) (st := []) dX9_ask_68 mf_X9_leftBy lk_X9_508 im_X9_leftBy rfl rfl rfl rfl (Nat.le_of_ble_eq_true rfl) (Nat.le_of_ble_eq_true rfl) rfl (RI.mono h (fun r2 M1 h => ?_))
      exact rn_iret dX9_ask_71 rfl ⟨_, rfl, h⟩
  · refine rn_aload_n (i := 0) (x := 58) dX9_ask_31 rfl (by simp) ?_
    refine rn_iload (x := x4) dX9_ask_32 (by simp) ?_
    refine rn_callVi (as := [.int x4]) (st := []) dX9_ask_34 mf_X9_leftBy lk_X9_508 im_X9_leftBy rfl rfl rfl rfl (Nat.le_of_ble_eq_true rfl) (Nat.le_of_ble_eq_true rfl) rfl (RI.mono h (fun r4 M3 h => ?_))
    refine rn_aload_n (i := 0) (x := 58) dX9_ask_37 rfl (by simp) ?_
    refine rn_iload_n (i := 3) (x := x3) dX9_ask_38 rfl (by simp) ?_
    refine rn_callVi (as := [.int x3]) (st := [.int r4]) dX9_ask_39 mf_X9_leftBy lk_X9_508 im_X9_leftBy rfl rfl rfl rfl (Nat.le_of_ble_eq_true rfl) (Nat.le_of_ble_eq_true rfl) rfl (RI.mono h (fun r6 M5 h => ?_))
    refine rn_icmp_ge (tgt := 50) dX9_ask_42 (by decide) (ite_go h (fun hc h => ?_) (fun hc h => ?_))
    · refine rn_iload_n (i := 3) (x := x3) dX9_ask_50 rfl (by simp) ?_
      refine rn_istore_n (lv' := [(0, .ref 58), (1, .int x1), (2, .int x2), (3, .int x3), (4, .int x4)]) (hd := dX9_ask_51) (i := 3) (hi := rfl) (hn := by decide) (hf := rfl) (hl := rfl) ?_
      refine rn_iinc (x := x4) (v := x4 + 1) (lv' := [(0, .ref 58), (1, .int x1), (2, .int x2), (3, .int x3), (4, .int (x4 + 1))]) dX9_ask_52 (by simp) rfl (by decide) rfl rfl ?_
      refine rn_goto (tgt := 24) dX9_ask_55 (by decide) ?_
      exact h
    · refine rn_iload (x := x4) dX9_ask_45 (by simp) ?_
      refine rn_goto (tgt := 51) dX9_ask_47 (by decide) ?_
      refine rn_istore_n (lv' := [(0, .ref 58), (1, .int x1), (2, .int x2), (3, .int x4), (4, .int x4)]) (hd := dX9_ask_51) (i := 3) (hi := rfl) (hn := by decide) (hf := rfl) (hl := rfl) ?_
      refine rn_iinc (x := x4) (v := x4 + 1) (lv' := [(0, .ref 58), (1, .int x1), (2, .int x2), (3, .int x4), (4, .int (x4 + 1))]) dX9_ask_52 (by simp) rfl (by decide) rfl rfl ?_
      refine rn_goto (tgt := 24) dX9_ask_55 (by decide) ?_
      exact h
theorem dX9_isBox_0 : decode μX9_isBox.2.1 0 = .ok (.iload_n 0, 1) := by decide +kernel
theorem dX9_isBox_1 : decode μX9_isBox.2.1 1 = .ok (.ifCond .lt 12, 3) := by decide +kernel
theorem dX9_isBox_4 : decode μX9_isBox.2.1 4 = .ok (.iload_n 0, 1) := by decide +kernel
theorem dX9_isBox_5 : decode μX9_isBox.2.1 5 = .ok (.iconst 3, 1) := by decide +kernel
theorem dX9_isBox_6 : decode μX9_isBox.2.1 6 = .ok (.if_icmp .ge 7, 3) := by decide +kernel
theorem dX9_isBox_9 : decode μX9_isBox.2.1 9 = .ok (.iconst 1, 1) := by decide +kernel
theorem dX9_isBox_10 : decode μX9_isBox.2.1 10 = .ok (.goto 4, 3) := by decide +kernel
theorem dX9_isBox_13 : decode μX9_isBox.2.1 13 = .ok (.iconst 0, 1) := by decide +kernel
theorem dX9_isBox_14 : decode μX9_isBox.2.1 14 = .ok (.ireturn, 1) := by decide +kernel
set_option maxRecDepth 20000 in
theorem sg_X9_isBox_0 {d : Nat} {x0 : Int32} {M : Mem} {K : (Int32 → Mem → Prop)}  (h : (if x0 < 0 then K 0 M else (if 3 ≤ x0 then K 0 M else K 1 M))) : CI d μX9_isBox [.int x0] M K := by
  show Rn d μX9_isBox 0 [(0, .int x0)] [] M _
  refine rn_iload_n (i := 0) (x := x0) dX9_isBox_0 rfl (by simp) ?_
  refine rn_if_lt (tgt := 13) dX9_isBox_1 (by decide) (ite_go h (fun hc h => ?_) (fun hc h => ?_))
  · refine rn_iconst (v := 0) dX9_isBox_13 rfl ?_
    exact rn_zret dX9_isBox_14 rfl (by decide) ⟨_, rfl, h⟩
  · refine rn_iload_n (i := 0) (x := x0) dX9_isBox_4 rfl (by simp) ?_
    refine rn_iconst (v := 3) dX9_isBox_5 rfl ?_
    refine rn_icmp_ge (tgt := 13) dX9_isBox_6 (by decide) (ite_go h (fun hc h => ?_) (fun hc h => ?_))
    · refine rn_iconst (v := 0) dX9_isBox_13 rfl ?_
      exact rn_zret dX9_isBox_14 rfl (by decide) ⟨_, rfl, h⟩
    · refine rn_iconst (v := 1) dX9_isBox_9 rfl ?_
      refine rn_goto (tgt := 14) dX9_isBox_10 (by decide) ?_
      exact rn_zret dX9_isBox_14 rfl (by decide) ⟨_, rfl, h⟩
theorem dX9_image_0 : decode μX9_image.2.1 0 = .ok (.iload_n 1, 1) := by decide +kernel
theorem dX9_image_1 : decode μX9_image.2.1 1 = .ok (.invokestatic 511, 3) := by decide +kernel
theorem dX9_image_4 : decode μX9_image.2.1 4 = .ok (.ifCond .ne 5, 3) := by decide +kernel
theorem dX9_image_7 : decode μX9_image.2.1 7 = .ok (.iconst (-1), 1) := by decide +kernel
theorem dX9_image_8 : decode μX9_image.2.1 8 = .ok (.ireturn, 1) := by decide +kernel
theorem dX9_image_9 : decode μX9_image.2.1 9 = .ok (.aload_n 0, 1) := by decide +kernel
theorem dX9_image_10 : decode μX9_image.2.1 10 = .ok (.getfield 97, 3) := by decide +kernel
theorem dX9_image_13 : decode μX9_image.2.1 13 = .ok (.iload_n 1, 1) := by decide +kernel
theorem dX9_image_14 : decode μX9_image.2.1 14 = .ok (.iconst 1, 1) := by decide +kernel
theorem dX9_image_15 : decode μX9_image.2.1 15 = .ok (.bastore, 1) := by decide +kernel
theorem dX9_image_16 : decode μX9_image.2.1 16 = .ok (.iconst 0, 1) := by decide +kernel
theorem dX9_image_17 : decode μX9_image.2.1 17 = .ok (.istore_n 2, 1) := by decide +kernel
theorem dX9_image_18 : decode μX9_image.2.1 18 = .ok (.iload_n 2, 1) := by decide +kernel
theorem dX9_image_19 : decode μX9_image.2.1 19 = .ok (.bipush 24, 2) := by decide +kernel
theorem dX9_image_21 : decode μX9_image.2.1 21 = .ok (.if_icmp .ge 26, 3) := by decide +kernel
theorem dX9_image_24 : decode μX9_image.2.1 24 = .ok (.aload_n 0, 1) := by decide +kernel
theorem dX9_image_25 : decode μX9_image.2.1 25 = .ok (.getfield 100, 3) := by decide +kernel
theorem dX9_image_28 : decode μX9_image.2.1 28 = .ok (.bipush 24, 2) := by decide +kernel
theorem dX9_image_30 : decode μX9_image.2.1 30 = .ok (.iload_n 1, 1) := by decide +kernel
theorem dX9_image_31 : decode μX9_image.2.1 31 = .ok (.imul, 1) := by decide +kernel
theorem dX9_image_32 : decode μX9_image.2.1 32 = .ok (.iload_n 2, 1) := by decide +kernel
theorem dX9_image_33 : decode μX9_image.2.1 33 = .ok (.iadd, 1) := by decide +kernel
theorem dX9_image_34 : decode μX9_image.2.1 34 = .ok (.aload_n 0, 1) := by decide +kernel
theorem dX9_image_35 : decode μX9_image.2.1 35 = .ok (.getfield 42, 3) := by decide +kernel
theorem dX9_image_38 : decode μX9_image.2.1 38 = .ok (.iload_n 2, 1) := by decide +kernel
theorem dX9_image_39 : decode μX9_image.2.1 39 = .ok (.iaload, 1) := by decide +kernel
theorem dX9_image_40 : decode μX9_image.2.1 40 = .ok (.iastore, 1) := by decide +kernel
theorem dX9_image_41 : decode μX9_image.2.1 41 = .ok (.iinc 2 1, 3) := by decide +kernel
theorem dX9_image_44 : decode μX9_image.2.1 44 = .ok (.goto (-26), 3) := by decide +kernel
theorem dX9_image_47 : decode μX9_image.2.1 47 = .ok (.aload_n 0, 1) := by decide +kernel
theorem dX9_image_48 : decode μX9_image.2.1 48 = .ok (.getfield 42, 3) := by decide +kernel
theorem dX9_image_51 : decode μX9_image.2.1 51 = .ok (.bipush 22, 2) := by decide +kernel
theorem dX9_image_53 : decode μX9_image.2.1 53 = .ok (.iaload, 1) := by decide +kernel
theorem dX9_image_54 : decode μX9_image.2.1 54 = .ok (.ireturn, 1) := by decide +kernel
set_option maxRecDepth 20000 in
theorem sg_X9_image_0 {d : Nat} {x1 : Int32} {M : Mem} {K : (Int32 → Mem → Prop)}  (h : (CI d μX9_isBox [.int x1] M (fun r2 M1 => (if r2 = 0 then K ((-1)) M1 else (vp_in x1 3 ∧ ∀ M3, M3 = wi M1 86 (nx x1) (vp_nar .boolean 1) → RI (d + 1) μX9_image 18 [(0, .ref 58), (1, .int x1), (2, .int 0)] [] M3 K))))) : CI (d + 1) μX9_image [.ref 58, .int x1] M K := by
  show Rn (d + 1) μX9_image 0 [(0, .ref 58), (1, .int x1)] [] M _
  refine rn_iload_n (i := 1) (x := x1) dX9_image_0 rfl (by simp) ?_
  refine rn_callSi (as := [.int x1]) (st := []) dX9_image_1 mf_X9_isBox lk_X9_511 sm_X9_isBox rfl (Nat.le_of_ble_eq_true rfl) (Nat.le_of_ble_eq_true rfl) rfl (RI.mono h (fun r2 M1 h => ?_))
  refine rn_if_ne (tgt := 9) dX9_image_4 (by decide) (ite_go h (fun hc h => ?_) (fun hc h => ?_))
  · refine rn_iconst (v := -1) dX9_image_7 rfl ?_
    exact rn_iret dX9_image_8 rfl ⟨_, rfl, h⟩
  · refine rn_aload_n (i := 0) (x := 58) dX9_image_9 rfl (by simp) ?_
    refine rn_getr (t := 86) dX9_image_10 rfl gf_X9_97 rfl rfl ?_
    refine rn_iload_n (i := 1) (x := x1) dX9_image_13 rfl (by simp) ?_
    refine rn_iconst (v := 1) dX9_image_14 rfl ?_
    obtain ⟨hi, h⟩ := h
    have h := h _ rfl
    refine rn_zastore dX9_image_15 rfl hi ?_
    generalize wi M1 86 (nx x1) (vp_nar .boolean 1) = M3 at h ⊢
    refine rn_iconst (v := 0) dX9_image_16 rfl ?_
    refine rn_istore_n (lv' := [(0, .ref 58), (1, .int x1), (2, .int 0)]) (hd := dX9_image_17) (i := 2) (hi := rfl) (hn := by decide) (hf := rfl) (hl := rfl) ?_
    exact h
set_option maxRecDepth 20000 in
theorem sg_X9_image_18 {d : Nat} {x1 : Int32} {x2 : Int32} {M : Mem} {K : (Int32 → Mem → Prop)}  (h : (if 24 ≤ x2 then K (ri M 68 (nx 22)) M else (vp_in x2 24 ∧ (vp_in ((24 * x1) + x2) 72 ∧ ∀ M1, M1 = wi M 87 (nx ((24 * x1) + x2)) (ri M 68 (nx x2)) → RI (d + 1) μX9_image 18 [(0, .ref 58), (1, .int x1), (2, .int (x2 + 1))] [] M1 K)))) : RI (d + 1) μX9_image 18 [(0, .ref 58), (1, .int x1), (2, .int x2)] [] M K := by
  show Rn (d + 1) μX9_image 18 [(0, .ref 58), (1, .int x1), (2, .int x2)] [] M _
  refine rn_iload_n (i := 2) (x := x2) dX9_image_18 rfl (by simp) ?_
  refine rn_bipush (v := 24) dX9_image_19 rfl ?_
  refine rn_icmp_ge (tgt := 47) dX9_image_21 (by decide) (ite_go h (fun hc h => ?_) (fun hc h => ?_))
  · refine rn_aload_n (i := 0) (x := 58) dX9_image_47 rfl (by simp) ?_
    refine rn_getr (t := 68) dX9_image_48 rfl gf_X9_42 rfl rfl ?_
    refine rn_bipush (v := 22) dX9_image_51 rfl ?_
    refine rn_iaload dX9_image_53 rfl (by unfold vp_in; decide) ?_
    exact rn_iret dX9_image_54 rfl ⟨_, rfl, h⟩
  · refine rn_aload_n (i := 0) (x := 58) dX9_image_24 rfl (by simp) ?_
    refine rn_getr (t := 87) dX9_image_25 rfl gf_X9_100 rfl rfl ?_
    refine rn_bipush (v := 24) dX9_image_28 rfl ?_
    refine rn_iload_n (i := 1) (x := x1) dX9_image_30 rfl (by simp) ?_
    refine rn_imul dX9_image_31 ?_
    refine rn_iload_n (i := 2) (x := x2) dX9_image_32 rfl (by simp) ?_
    refine rn_iadd dX9_image_33 ?_
    refine rn_aload_n (i := 0) (x := 58) dX9_image_34 rfl (by simp) ?_
    refine rn_getr (t := 68) dX9_image_35 rfl gf_X9_42 rfl rfl ?_
    refine rn_iload_n (i := 2) (x := x2) dX9_image_38 rfl (by simp) ?_
    obtain ⟨hi, h⟩ := h
    refine rn_iaload dX9_image_39 rfl hi ?_
    obtain ⟨hi, h⟩ := h
    have h := h _ rfl
    refine rn_iastore dX9_image_40 rfl hi ?_
    generalize wi M 87 (nx ((24 * x1) + x2)) (ri M 68 (nx x2)) = M1 at h ⊢
    refine rn_iinc (x := x2) (v := x2 + 1) (lv' := [(0, .ref 58), (1, .int x1), (2, .int (x2 + 1))]) dX9_image_41 (by simp) rfl (by decide) rfl rfl ?_
    refine rn_goto (tgt := 18) dX9_image_44 (by decide) ?_
    exact h
theorem dX9_back_0 : decode μX9_back.2.1 0 = .ok (.iload_n 1, 1) := by decide +kernel
theorem dX9_back_1 : decode μX9_back.2.1 1 = .ok (.invokestatic 511, 3) := by decide +kernel
theorem dX9_back_4 : decode μX9_back.2.1 4 = .ok (.ifCond .eq 12, 3) := by decide +kernel
theorem dX9_back_7 : decode μX9_back.2.1 7 = .ok (.aload_n 0, 1) := by decide +kernel
theorem dX9_back_8 : decode μX9_back.2.1 8 = .ok (.getfield 97, 3) := by decide +kernel
theorem dX9_back_11 : decode μX9_back.2.1 11 = .ok (.iload_n 1, 1) := by decide +kernel
theorem dX9_back_12 : decode μX9_back.2.1 12 = .ok (.baload, 1) := by decide +kernel
theorem dX9_back_13 : decode μX9_back.2.1 13 = .ok (.ifCond .ne 5, 3) := by decide +kernel
theorem dX9_back_16 : decode μX9_back.2.1 16 = .ok (.iconst (-1), 1) := by decide +kernel
theorem dX9_back_17 : decode μX9_back.2.1 17 = .ok (.ireturn, 1) := by decide +kernel
theorem dX9_back_18 : decode μX9_back.2.1 18 = .ok (.iconst 0, 1) := by decide +kernel
theorem dX9_back_19 : decode μX9_back.2.1 19 = .ok (.istore_n 2, 1) := by decide +kernel
theorem dX9_back_20 : decode μX9_back.2.1 20 = .ok (.iload_n 2, 1) := by decide +kernel
theorem dX9_back_21 : decode μX9_back.2.1 21 = .ok (.bipush 24, 2) := by decide +kernel
theorem dX9_back_23 : decode μX9_back.2.1 23 = .ok (.if_icmp .ge 26, 3) := by decide +kernel
theorem dX9_back_26 : decode μX9_back.2.1 26 = .ok (.aload_n 0, 1) := by decide +kernel
theorem dX9_back_27 : decode μX9_back.2.1 27 = .ok (.getfield 42, 3) := by decide +kernel
theorem dX9_back_30 : decode μX9_back.2.1 30 = .ok (.iload_n 2, 1) := by decide +kernel
theorem dX9_back_31 : decode μX9_back.2.1 31 = .ok (.aload_n 0, 1) := by decide +kernel
theorem dX9_back_32 : decode μX9_back.2.1 32 = .ok (.getfield 100, 3) := by decide +kernel
theorem dX9_back_35 : decode μX9_back.2.1 35 = .ok (.bipush 24, 2) := by decide +kernel
theorem dX9_back_37 : decode μX9_back.2.1 37 = .ok (.iload_n 1, 1) := by decide +kernel
theorem dX9_back_38 : decode μX9_back.2.1 38 = .ok (.imul, 1) := by decide +kernel
theorem dX9_back_39 : decode μX9_back.2.1 39 = .ok (.iload_n 2, 1) := by decide +kernel
theorem dX9_back_40 : decode μX9_back.2.1 40 = .ok (.iadd, 1) := by decide +kernel
theorem dX9_back_41 : decode μX9_back.2.1 41 = .ok (.iaload, 1) := by decide +kernel
theorem dX9_back_42 : decode μX9_back.2.1 42 = .ok (.iastore, 1) := by decide +kernel
theorem dX9_back_43 : decode μX9_back.2.1 43 = .ok (.iinc 2 1, 3) := by decide +kernel
theorem dX9_back_46 : decode μX9_back.2.1 46 = .ok (.goto (-26), 3) := by decide +kernel
theorem dX9_back_49 : decode μX9_back.2.1 49 = .ok (.aload_n 0, 1) := by decide +kernel
theorem dX9_back_50 : decode μX9_back.2.1 50 = .ok (.iconst 0, 1) := by decide +kernel
theorem dX9_back_51 : decode μX9_back.2.1 51 = .ok (.putfield 408, 3) := by decide +kernel
theorem dX9_back_54 : decode μX9_back.2.1 54 = .ok (.aload_n 0, 1) := by decide +kernel
theorem dX9_back_55 : decode μX9_back.2.1 55 = .ok (.iconst 0, 1) := by decide +kernel
theorem dX9_back_56 : decode μX9_back.2.1 56 = .ok (.putfield 411, 3) := by decide +kernel
theorem dX9_back_59 : decode μX9_back.2.1 59 = .ok (.aload_n 0, 1) := by decide +kernel
theorem dX9_back_60 : decode μX9_back.2.1 60 = .ok (.getfield 42, 3) := by decide +kernel
theorem dX9_back_63 : decode μX9_back.2.1 63 = .ok (.bipush 22, 2) := by decide +kernel
theorem dX9_back_65 : decode μX9_back.2.1 65 = .ok (.iaload, 1) := by decide +kernel
theorem dX9_back_66 : decode μX9_back.2.1 66 = .ok (.ireturn, 1) := by decide +kernel
set_option maxRecDepth 20000 in
theorem sg_X9_back_0 {d : Nat} {x1 : Int32} {M : Mem} {K : (Int32 → Mem → Prop)}  (h : (CI d μX9_isBox [.int x1] M (fun r2 M1 => (if r2 = 0 then K ((-1)) M1 else (vp_in x1 3 ∧ (if ri M1 86 (nx x1) = 0 then K ((-1)) M1 else RI (d + 1) μX9_back 20 [(0, .ref 58), (1, .int x1), (2, .int 0)] [] M1 K)))))) : CI (d + 1) μX9_back [.ref 58, .int x1] M K := by
  show Rn (d + 1) μX9_back 0 [(0, .ref 58), (1, .int x1)] [] M _
  refine rn_iload_n (i := 1) (x := x1) dX9_back_0 rfl (by simp) ?_
  refine rn_callSi (as := [.int x1]) (st := []) dX9_back_1 mf_X9_isBox lk_X9_511 sm_X9_isBox rfl (Nat.le_of_ble_eq_true rfl) (Nat.le_of_ble_eq_true rfl) rfl (RI.mono h (fun r2 M1 h => ?_))
  refine rn_if_eq (tgt := 16) dX9_back_4 (by decide) (ite_go h (fun hc h => ?_) (fun hc h => ?_))
  · refine rn_iconst (v := -1) dX9_back_16 rfl ?_
    exact rn_iret dX9_back_17 rfl ⟨_, rfl, h⟩
  · refine rn_aload_n (i := 0) (x := 58) dX9_back_7 rfl (by simp) ?_
    refine rn_getr (t := 86) dX9_back_8 rfl gf_X9_97 rfl rfl ?_
    refine rn_iload_n (i := 1) (x := x1) dX9_back_11 rfl (by simp) ?_
    obtain ⟨hi, h⟩ := h
    refine rn_zaload dX9_back_12 rfl hi ?_
    refine rn_if_ne (tgt := 18) dX9_back_13 (by decide) (ite_go h (fun hc h => ?_) (fun hc h => ?_))
    · refine rn_iconst (v := -1) dX9_back_16 rfl ?_
      exact rn_iret dX9_back_17 rfl ⟨_, rfl, h⟩
    · refine rn_iconst (v := 0) dX9_back_18 rfl ?_
      refine rn_istore_n (lv' := [(0, .ref 58), (1, .int x1), (2, .int 0)]) (hd := dX9_back_19) (i := 2) (hi := rfl) (hn := by decide) (hf := rfl) (hl := rfl) ?_
      exact h
set_option maxRecDepth 20000 in
theorem sg_X9_back_20 {d : Nat} {x1 : Int32} {x2 : Int32} {M : Mem} {K : (Int32 → Mem → Prop)}  (h : (if 24 ≤ x2 then (∀ M1, M1 = wi M 58 40 0 → (∀ M2, M2 = wi M1 58 41 0 → K (ri M2 68 (nx 22)) M2)) else (vp_in ((24 * x1) + x2) 72 ∧ (vp_in x2 24 ∧ ∀ M3, M3 = wi M 68 (nx x2) (ri M 87 (nx ((24 * x1) + x2))) → RI (d + 1) μX9_back 20 [(0, .ref 58), (1, .int x1), (2, .int (x2 + 1))] [] M3 K)))) : RI (d + 1) μX9_back 20 [(0, .ref 58), (1, .int x1), (2, .int x2)] [] M K := by
  show Rn (d + 1) μX9_back 20 [(0, .ref 58), (1, .int x1), (2, .int x2)] [] M _
  refine rn_iload_n (i := 2) (x := x2) dX9_back_20 rfl (by simp) ?_
  refine rn_bipush (v := 24) dX9_back_21 rfl ?_
  refine rn_icmp_ge (tgt := 49) dX9_back_23 (by decide) (ite_go h (fun hc h => ?_) (fun hc h => ?_))
  · refine rn_aload_n (i := 0) (x := 58) dX9_back_49 rfl (by simp) ?_
    refine rn_iconst (v := 0) dX9_back_50 rfl ?_
    have h := h _ rfl
    refine rn_puti dX9_back_51 rfl pf_X9_408 (by decide) rfl rfl ?_
    generalize wi M 58 40 0 = M1 at h ⊢
    refine rn_aload_n (i := 0) (x := 58) dX9_back_54 rfl (by simp) ?_
    refine rn_iconst (v := 0) dX9_back_55 rfl ?_
    have h := h _ rfl
    refine rn_puti dX9_back_56 rfl pf_X9_411 (by decide) rfl rfl ?_
    generalize wi M1 58 41 0 = M2 at h ⊢
    refine rn_aload_n (i := 0) (x := 58) dX9_back_59 rfl (by simp) ?_
    refine rn_getr (t := 68) dX9_back_60 rfl gf_X9_42 rfl rfl ?_
    refine rn_bipush (v := 22) dX9_back_63 rfl ?_
    refine rn_iaload dX9_back_65 rfl (by unfold vp_in; decide) ?_
    exact rn_iret dX9_back_66 rfl ⟨_, rfl, h⟩
  · refine rn_aload_n (i := 0) (x := 58) dX9_back_26 rfl (by simp) ?_
    refine rn_getr (t := 68) dX9_back_27 rfl gf_X9_42 rfl rfl ?_
    refine rn_iload_n (i := 2) (x := x2) dX9_back_30 rfl (by simp) ?_
    refine rn_aload_n (i := 0) (x := 58) dX9_back_31 rfl (by simp) ?_
    refine rn_getr (t := 87) dX9_back_32 rfl gf_X9_100 rfl rfl ?_
    refine rn_bipush (v := 24) dX9_back_35 rfl ?_
    refine rn_iload_n (i := 1) (x := x1) dX9_back_37 rfl (by simp) ?_
    refine rn_imul dX9_back_38 ?_
    refine rn_iload_n (i := 2) (x := x2) dX9_back_39 rfl (by simp) ?_
    refine rn_iadd dX9_back_40 ?_
    obtain ⟨hi, h⟩ := h
    refine rn_iaload dX9_back_41 rfl hi ?_
    obtain ⟨hi, h⟩ := h
    have h := h _ rfl
    refine rn_iastore dX9_back_42 rfl hi ?_
    generalize wi M 68 (nx x2) (ri M 87 (nx ((24 * x1) + x2))) = M3 at h ⊢
    refine rn_iinc (x := x2) (v := x2 + 1) (lv' := [(0, .ref 58), (1, .int x1), (2, .int (x2 + 1))]) dX9_back_43 (by simp) rfl (by decide) rfl rfl ?_
    refine rn_goto (tgt := 20) dX9_back_46 (by decide) ?_
    exact h
theorem dX9_about_0 : decode μX9_about.2.1 0 = .ok (.iload_n 1, 1) := by decide +kernel
theorem dX9_about_1 : decode μX9_about.2.1 1 = .ok (.tableswitch 153 0 13 #[71, 76, 84, 92, 97, 105, 113, 118, 123, 128, 133, 138, 143, 148], 71) := by decide +kernel
theorem dX9_about_72 : decode μX9_about.2.1 72 = .ok (.aload_n 0, 1) := by decide +kernel
theorem dX9_about_73 : decode μX9_about.2.1 73 = .ok (.getfield 326, 3) := by decide +kernel
theorem dX9_about_76 : decode μX9_about.2.1 76 = .ok (.ireturn, 1) := by decide +kernel
theorem dX9_about_77 : decode μX9_about.2.1 77 = .ok (.aload_n 0, 1) := by decide +kernel
theorem dX9_about_78 : decode μX9_about.2.1 78 = .ok (.getfield 42, 3) := by decide +kernel
theorem dX9_about_81 : decode μX9_about.2.1 81 = .ok (.bipush 13, 2) := by decide +kernel
theorem dX9_about_83 : decode μX9_about.2.1 83 = .ok (.iaload, 1) := by decide +kernel
theorem dX9_about_84 : decode μX9_about.2.1 84 = .ok (.ireturn, 1) := by decide +kernel
theorem dX9_about_85 : decode μX9_about.2.1 85 = .ok (.aload_n 0, 1) := by decide +kernel
theorem dX9_about_86 : decode μX9_about.2.1 86 = .ok (.getfield 42, 3) := by decide +kernel
theorem dX9_about_89 : decode μX9_about.2.1 89 = .ok (.bipush 12, 2) := by decide +kernel
theorem dX9_about_91 : decode μX9_about.2.1 91 = .ok (.iaload, 1) := by decide +kernel
theorem dX9_about_92 : decode μX9_about.2.1 92 = .ok (.ireturn, 1) := by decide +kernel
theorem dX9_about_93 : decode μX9_about.2.1 93 = .ok (.aload_n 0, 1) := by decide +kernel
theorem dX9_about_94 : decode μX9_about.2.1 94 = .ok (.invokevirtual 514, 3) := by decide +kernel
theorem dX9_about_97 : decode μX9_about.2.1 97 = .ok (.ireturn, 1) := by decide +kernel
theorem dX9_about_98 : decode μX9_about.2.1 98 = .ok (.aload_n 0, 1) := by decide +kernel
theorem dX9_about_99 : decode μX9_about.2.1 99 = .ok (.getfield 42, 3) := by decide +kernel
theorem dX9_about_102 : decode μX9_about.2.1 102 = .ok (.bipush 22, 2) := by decide +kernel
theorem dX9_about_104 : decode μX9_about.2.1 104 = .ok (.iaload, 1) := by decide +kernel
theorem dX9_about_105 : decode μX9_about.2.1 105 = .ok (.ireturn, 1) := by decide +kernel
theorem dX9_about_106 : decode μX9_about.2.1 106 = .ok (.aload_n 0, 1) := by decide +kernel
theorem dX9_about_107 : decode μX9_about.2.1 107 = .ok (.getfield 42, 3) := by decide +kernel
theorem dX9_about_110 : decode μX9_about.2.1 110 = .ok (.bipush 23, 2) := by decide +kernel
theorem dX9_about_112 : decode μX9_about.2.1 112 = .ok (.iaload, 1) := by decide +kernel
theorem dX9_about_113 : decode μX9_about.2.1 113 = .ok (.ireturn, 1) := by decide +kernel
theorem dX9_about_114 : decode μX9_about.2.1 114 = .ok (.aload_n 0, 1) := by decide +kernel
theorem dX9_about_115 : decode μX9_about.2.1 115 = .ok (.getfield 408, 3) := by decide +kernel
theorem dX9_about_118 : decode μX9_about.2.1 118 = .ok (.ireturn, 1) := by decide +kernel
theorem dX9_about_119 : decode μX9_about.2.1 119 = .ok (.aload_n 0, 1) := by decide +kernel
theorem dX9_about_120 : decode μX9_about.2.1 120 = .ok (.getfield 411, 3) := by decide +kernel
theorem dX9_about_123 : decode μX9_about.2.1 123 = .ok (.ireturn, 1) := by decide +kernel
theorem dX9_about_124 : decode μX9_about.2.1 124 = .ok (.aload_n 0, 1) := by decide +kernel
theorem dX9_about_125 : decode μX9_about.2.1 125 = .ok (.getfield 414, 3) := by decide +kernel
theorem dX9_about_128 : decode μX9_about.2.1 128 = .ok (.ireturn, 1) := by decide +kernel
theorem dX9_about_129 : decode μX9_about.2.1 129 = .ok (.aload_n 0, 1) := by decide +kernel
theorem dX9_about_130 : decode μX9_about.2.1 130 = .ok (.getfield 498, 3) := by decide +kernel
theorem dX9_about_133 : decode μX9_about.2.1 133 = .ok (.ireturn, 1) := by decide +kernel
theorem dX9_about_134 : decode μX9_about.2.1 134 = .ok (.aload_n 0, 1) := by decide +kernel
theorem dX9_about_135 : decode μX9_about.2.1 135 = .ok (.getfield 103, 3) := by decide +kernel
theorem dX9_about_138 : decode μX9_about.2.1 138 = .ok (.ireturn, 1) := by decide +kernel
theorem dX9_about_139 : decode μX9_about.2.1 139 = .ok (.aload_n 0, 1) := by decide +kernel
theorem dX9_about_140 : decode μX9_about.2.1 140 = .ok (.getfield 402, 3) := by decide +kernel
theorem dX9_about_143 : decode μX9_about.2.1 143 = .ok (.ireturn, 1) := by decide +kernel
theorem dX9_about_144 : decode μX9_about.2.1 144 = .ok (.aload_n 0, 1) := by decide +kernel
theorem dX9_about_145 : decode μX9_about.2.1 145 = .ok (.getfield 417, 3) := by decide +kernel
theorem dX9_about_148 : decode μX9_about.2.1 148 = .ok (.ireturn, 1) := by decide +kernel
theorem dX9_about_149 : decode μX9_about.2.1 149 = .ok (.aload_n 0, 1) := by decide +kernel
theorem dX9_about_150 : decode μX9_about.2.1 150 = .ok (.getfield 353, 3) := by decide +kernel
theorem dX9_about_153 : decode μX9_about.2.1 153 = .ok (.ireturn, 1) := by decide +kernel
theorem dX9_about_154 : decode μX9_about.2.1 154 = .ok (.iconst (-1), 1) := by decide +kernel
theorem dX9_about_155 : decode μX9_about.2.1 155 = .ok (.ireturn, 1) := by decide +kernel
set_option maxRecDepth 20000 in
theorem sg_X9_about_0 {d : Nat} {x1 : Int32} {M : Mem} {K : (Int32 → Mem → Prop)}  (h : ((x1 = 0 → K (ri M 58 35) M) ∧ (x1 = 1 → K (ri M 68 (nx 13)) M) ∧ (x1 = 2 → K (ri M 68 (nx 12)) M) ∧ (x1 = 3 → (CI d μX9_walls [.ref 58] M (fun r2 M1 => K r2 M1))) ∧ (x1 = 4 → K (ri M 68 (nx 22)) M) ∧ (x1 = 5 → K (ri M 68 (nx 23)) M) ∧ (x1 = 6 → K (ri M 58 40) M) ∧ (x1 = 7 → K (ri M 58 41) M) ∧ (x1 = 8 → K (ri M 58 55) M) ∧ (x1 = 9 → K (ri M 58 56) M) ∧ (x1 = 10 → K (ri M 58 1) M) ∧ (x1 = 11 → K (ri M 58 21) M) ∧ (x1 = 12 → K (ri M 58 45) M) ∧ (x1 = 13 → K (ri M 58 36) M) ∧ ((x1).toInt < 0 ∨ 13 < (x1).toInt → K ((-1)) M))) : CI (d + 1) μX9_about [.ref 58, .int x1] M K := by
  show Rn (d + 1) μX9_about 0 [(0, .ref 58), (1, .int x1)] [] M _
  refine rn_iload_n (i := 1) (x := x1) dX9_about_0 rfl (by simp) ?_
  by_cases hlo : (x1).toInt < 0
  · have h := h.2.2.2.2.2.2.2.2.2.2.2.2.2.2 (Or.inl hlo)
    refine rn_tswitch (tgt := 154) dX9_about_1 (Or.inl ⟨Or.inl hlo, by decide⟩) ?_
    refine rn_iconst (v := -1) dX9_about_154 rfl ?_
    exact rn_iret dX9_about_155 rfl ⟨_, rfl, h⟩
  by_cases hhi : 13 < (x1).toInt
  · have h := h.2.2.2.2.2.2.2.2.2.2.2.2.2.2 (Or.inr hhi)
    refine rn_tswitch (tgt := 154) dX9_about_1 (Or.inl ⟨Or.inr hhi, by decide⟩) ?_
    refine rn_iconst (v := -1) dX9_about_154 rfl ?_
    exact rn_iret dX9_about_155 rfl ⟨_, rfl, h⟩
  have hv : (x1).toInt = 0 ∨ (x1).toInt = 1 ∨ (x1).toInt = 2 ∨ (x1).toInt = 3 ∨ (x1).toInt = 4 ∨ (x1).toInt = 5 ∨ (x1).toInt = 6 ∨ (x1).toInt = 7 ∨ (x1).toInt = 8 ∨ (x1).toInt = 9 ∨ (x1).toInt = 10 ∨ (x1).toInt = 11 ∨ (x1).toInt = 12 ∨ (x1).toInt = 13 := by omega
  rcases hv with hv | hv | hv | hv | hv | hv | hv | hv | hv | hv | hv | hv | hv | hv
  · have h := h.1 (Int32.toInt_inj.mp hv)
    refine rn_tswitch (tgt := 72) dX9_about_1 (Or.inr ⟨hlo, hhi, _, by rw [hv]; rfl, by decide⟩) ?_
    refine rn_aload_n (i := 0) (x := 58) dX9_about_72 rfl (by simp) ?_
    refine rn_geti dX9_about_73 rfl gf_X9_326 (by decide) ?_
    exact rn_iret dX9_about_76 rfl ⟨_, rfl, h⟩
  · have h := h.2.1 (Int32.toInt_inj.mp hv)
    refine rn_tswitch (tgt := 77) dX9_about_1 (Or.inr ⟨hlo, hhi, _, by rw [hv]; rfl, by decide⟩) ?_
    refine rn_aload_n (i := 0) (x := 58) dX9_about_77 rfl (by simp) ?_
    refine rn_getr (t := 68) dX9_about_78 rfl gf_X9_42 rfl rfl ?_
    refine rn_bipush (v := 13) dX9_about_81 rfl ?_
    refine rn_iaload dX9_about_83 rfl (by unfold vp_in; decide) ?_
    exact rn_iret dX9_about_84 rfl ⟨_, rfl, h⟩
  · have h := h.2.2.1 (Int32.toInt_inj.mp hv)
    refine rn_tswitch (tgt := 85) dX9_about_1 (Or.inr ⟨hlo, hhi, _, by rw [hv]; rfl, by decide⟩) ?_
    refine rn_aload_n (i := 0) (x := 58) dX9_about_85 rfl (by simp) ?_
    refine rn_getr (t := 68) dX9_about_86 rfl gf_X9_42 rfl rfl ?_
    refine rn_bipush (v := 12) dX9_about_89 rfl ?_
    refine rn_iaload dX9_about_91 rfl (by unfold vp_in; decide) ?_
    exact rn_iret dX9_about_92 rfl ⟨_, rfl, h⟩
  · have h := h.2.2.2.1 (Int32.toInt_inj.mp hv)
    refine rn_tswitch (tgt := 93) dX9_about_1 (Or.inr ⟨hlo, hhi, _, by rw [hv]; rfl, by decide⟩) ?_
    refine rn_aload_n (i := 0) (x := 58) dX9_about_93 rfl (by simp) ?_
    refine rn_callVi (as := []) (st := []) dX9_about_94 mf_X9_walls lk_X9_514 im_X9_walls rfl rfl rfl rfl (Nat.le_of_ble_eq_true rfl) (Nat.le_of_ble_eq_true rfl) rfl (RI.mono h (fun r2 M1 h => ?_))
    exact rn_iret dX9_about_97 rfl ⟨_, rfl, h⟩
  · have h := h.2.2.2.2.1 (Int32.toInt_inj.mp hv)
    refine rn_tswitch (tgt := 98) dX9_about_1 (Or.inr ⟨hlo, hhi, _, by rw [hv]; rfl, by decide⟩) ?_
    refine rn_aload_n (i := 0) (x := 58) dX9_about_98 rfl (by simp) ?_
    refine rn_getr (t := 68) dX9_about_99 rfl gf_X9_42 rfl rfl ?_
    refine rn_bipush (v := 22) dX9_about_102 rfl ?_
    refine rn_iaload dX9_about_104 rfl (by unfold vp_in; decide) ?_
    exact rn_iret dX9_about_105 rfl ⟨_, rfl, h⟩
  · have h := h.2.2.2.2.2.1 (Int32.toInt_inj.mp hv)
    refine rn_tswitch (tgt := 106) dX9_about_1 (Or.inr ⟨hlo, hhi, _, by rw [hv]; rfl, by decide⟩) ?_
    refine rn_aload_n (i := 0) (x := 58) dX9_about_106 rfl (by simp) ?_
    refine rn_getr (t := 68) dX9_about_107 rfl gf_X9_42 rfl rfl ?_
    refine rn_bipush (v := 23) dX9_about_110 rfl ?_
    refine rn_iaload dX9_about_112 rfl (by unfold vp_in; decide) ?_
    exact rn_iret dX9_about_113 rfl ⟨_, rfl, h⟩
  · have h := h.2.2.2.2.2.2.1 (Int32.toInt_inj.mp hv)
    refine rn_tswitch (tgt := 114) dX9_about_1 (Or.inr ⟨hlo, hhi, _, by rw [hv]; rfl, by decide⟩) ?_
    refine rn_aload_n (i := 0) (x := 58) dX9_about_114 rfl (by simp) ?_
    refine rn_geti dX9_about_115 rfl gf_X9_408 (by decide) ?_
    exact rn_iret dX9_about_118 rfl ⟨_, rfl, h⟩
  · have h := h.2.2.2.2.2.2.2.1 (Int32.toInt_inj.mp hv)
    refine rn_tswitch (tgt := 119) dX9_about_1 (Or.inr ⟨hlo, hhi, _, by rw [hv]; rfl, by decide⟩) ?_
    refine rn_aload_n (i := 0) (x := 58) dX9_about_119 rfl (by simp) ?_
    refine rn_geti dX9_about_120 rfl gf_X9_411 (by decide) ?_
    exact rn_iret dX9_about_123 rfl ⟨_, rfl, h⟩
  · have h := h.2.2.2.2.2.2.2.2.1 (Int32.toInt_inj.mp hv)
    refine rn_tswitch (tgt := 124) dX9_about_1 (Or.inr ⟨hlo, hhi, _, by rw [hv]; rfl, by decide⟩) ?_
    refine rn_aload_n (i := 0) (x := 58) dX9_about_124 rfl (by simp) ?_
    refine rn_geti dX9_about_125 rfl gf_X9_414 (by decide) ?_
    exact rn_iret dX9_about_128 rfl ⟨_, rfl, h⟩
  · have h := h.2.2.2.2.2.2.2.2.2.1 (Int32.toInt_inj.mp hv)
    refine rn_tswitch (tgt := 129) dX9_about_1 (Or.inr ⟨hlo, hhi, _, by rw [hv]; rfl, by decide⟩) ?_
    refine rn_aload_n (i := 0) (x := 58) dX9_about_129 rfl (by simp) ?_
    refine rn_geti dX9_about_130 rfl gf_X9_498 (by decide) ?_
    exact rn_iret dX9_about_133 rfl ⟨_, rfl, h⟩
  · have h := h.2.2.2.2.2.2.2.2.2.2.1 (Int32.toInt_inj.mp hv)
    refine rn_tswitch (tgt := 134) dX9_about_1 (Or.inr ⟨hlo, hhi, _, by rw [hv]; rfl, by decide⟩) ?_
    refine rn_aload_n (i := 0) (x := 58) dX9_about_134 rfl (by simp) ?_
    refine rn_geti dX9_about_135 rfl gf_X9_103 (by decide) ?_
    exact rn_iret dX9_about_138 rfl ⟨_, rfl, h⟩
  · have h := h.2.2.2.2.2.2.2.2.2.2.2.1 (Int32.toInt_inj.mp hv)
    refine rn_tswitch (tgt := 139) dX9_about_1 (Or.inr ⟨hlo, hhi, _, by rw [hv]; rfl, by decide⟩) ?_
    refine rn_aload_n (i := 0) (x := 58) dX9_about_139 rfl (by simp) ?_
    refine rn_geti dX9_about_140 rfl gf_X9_402 (by decide) ?_
    exact rn_iret dX9_about_143 rfl ⟨_, rfl, h⟩
  · have h := h.2.2.2.2.2.2.2.2.2.2.2.2.1 (Int32.toInt_inj.mp hv)
    refine rn_tswitch (tgt := 144) dX9_about_1 (Or.inr ⟨hlo, hhi, _, by rw [hv]; rfl, by decide⟩) ?_
    refine rn_aload_n (i := 0) (x := 58) dX9_about_144 rfl (by simp) ?_
    refine rn_geti dX9_about_145 rfl gf_X9_417 (by decide) ?_
    exact rn_iret dX9_about_148 rfl ⟨_, rfl, h⟩
  · have h := h.2.2.2.2.2.2.2.2.2.2.2.2.2.1 (Int32.toInt_inj.mp hv)
    refine rn_tswitch (tgt := 149) dX9_about_1 (Or.inr ⟨hlo, hhi, _, by rw [hv]; rfl, by decide⟩) ?_
    refine rn_aload_n (i := 0) (x := 58) dX9_about_149 rfl (by simp) ?_
    refine rn_geti dX9_about_150 rfl gf_X9_353 (by decide) ?_
    exact rn_iret dX9_about_153 rfl ⟨_, rfl, h⟩
