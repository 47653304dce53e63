theorem dX9_asked_0 : decode μX9_asked.2.1 0 = .ok (.aload_n 0, 1) := by decide +kernel
theorem dX9_asked_1 : decode μX9_asked.2.1 1 = .ok (.getfield 130, 3) := by decide +kernel
theorem dX9_asked_4 : decode μX9_asked.2.1 4 = .ok (.iconst 1, 1) := by decide +kernel
theorem dX9_asked_5 : decode μX9_asked.2.1 5 = .ok (.if_icmp .eq 5, 3) := by decide +kernel
theorem dX9_asked_8 : decode μX9_asked.2.1 8 = .ok (.iconst (-1), 1) := by decide +kernel
theorem dX9_asked_9 : decode μX9_asked.2.1 9 = .ok (.ireturn, 1) := by decide +kernel
theorem dX9_asked_10 : decode μX9_asked.2.1 10 = .ok (.aload_n 0, 1) := by decide +kernel
theorem dX9_asked_11 : decode μX9_asked.2.1 11 = .ok (.getfield 123, 3) := by decide +kernel
theorem dX9_asked_14 : decode μX9_asked.2.1 14 = .ok (.ldc2_w 160, 3) := by decide +kernel
theorem dX9_asked_17 : decode μX9_asked.2.1 17 = .ok (.lcmp, 1) := by decide +kernel
theorem dX9_asked_18 : decode μX9_asked.2.1 18 = .ok (.ifCond .ne 5, 3) := by decide +kernel
theorem dX9_asked_21 : decode μX9_asked.2.1 21 = .ok (.iconst 0, 1) := by decide +kernel
theorem dX9_asked_22 : decode μX9_asked.2.1 22 = .ok (.ireturn, 1) := by decide +kernel
theorem dX9_asked_23 : decode μX9_asked.2.1 23 = .ok (.aload_n 0, 1) := by decide +kernel
theorem dX9_asked_24 : decode μX9_asked.2.1 24 = .ok (.getfield 123, 3) := by decide +kernel
theorem dX9_asked_27 : decode μX9_asked.2.1 27 = .ok (.ldc2_w 148, 3) := by decide +kernel
theorem dX9_asked_30 : decode μX9_asked.2.1 30 = .ok (.lcmp, 1) := by decide +kernel
theorem dX9_asked_31 : decode μX9_asked.2.1 31 = .ok (.ifCond .ne 5, 3) := by decide +kernel
theorem dX9_asked_34 : decode μX9_asked.2.1 34 = .ok (.iconst 1, 1) := by decide +kernel
theorem dX9_asked_35 : decode μX9_asked.2.1 35 = .ok (.ireturn, 1) := by decide +kernel
theorem dX9_asked_36 : decode μX9_asked.2.1 36 = .ok (.aload_n 0, 1) := by decide +kernel
theorem dX9_asked_37 : decode μX9_asked.2.1 37 = .ok (.getfield 123, 3) := by decide +kernel
theorem dX9_asked_40 : decode μX9_asked.2.1 40 = .ok (.ldc2_w 162, 3) := by decide +kernel
theorem dX9_asked_43 : decode μX9_asked.2.1 43 = .ok (.lcmp, 1) := by decide +kernel
theorem dX9_asked_44 : decode μX9_asked.2.1 44 = .ok (.ifCond .ne 5, 3) := by decide +kernel
theorem dX9_asked_47 : decode μX9_asked.2.1 47 = .ok (.iconst 2, 1) := by decide +kernel
theorem dX9_asked_48 : decode μX9_asked.2.1 48 = .ok (.ireturn, 1) := by decide +kernel
theorem dX9_asked_49 : decode μX9_asked.2.1 49 = .ok (.aload_n 0, 1) := by decide +kernel
theorem dX9_asked_50 : decode μX9_asked.2.1 50 = .ok (.getfield 123, 3) := by decide +kernel
theorem dX9_asked_53 : decode μX9_asked.2.1 53 = .ok (.ldc2_w 164, 3) := by decide +kernel
theorem dX9_asked_56 : decode μX9_asked.2.1 56 = .ok (.lcmp, 1) := by decide +kernel
theorem dX9_asked_57 : decode μX9_asked.2.1 57 = .ok (.ifCond .ne 5, 3) := by decide +kernel
theorem dX9_asked_60 : decode μX9_asked.2.1 60 = .ok (.iconst 3, 1) := by decide +kernel
theorem dX9_asked_61 : decode μX9_asked.2.1 61 = .ok (.ireturn, 1) := by decide +kernel
theorem dX9_asked_62 : decode μX9_asked.2.1 62 = .ok (.aload_n 0, 1) := by decide +kernel
theorem dX9_asked_63 : decode μX9_asked.2.1 63 = .ok (.getfield 123, 3) := by decide +kernel
theorem dX9_asked_66 : decode μX9_asked.2.1 66 = .ok (.ldc2_w 166, 3) := by decide +kernel
theorem dX9_asked_69 : decode μX9_asked.2.1 69 = .ok (.lcmp, 1) := by decide +kernel
theorem dX9_asked_70 : decode μX9_asked.2.1 70 = .ok (.ifCond .ne 7, 3) := by decide +kernel
theorem dX9_asked_73 : decode μX9_asked.2.1 73 = .ok (.iconst 4, 1) := by decide +kernel
theorem dX9_asked_74 : decode μX9_asked.2.1 74 = .ok (.goto 4, 3) := by decide +kernel
theorem dX9_asked_77 : decode μX9_asked.2.1 77 = .ok (.iconst (-1), 1) := by decide +kernel
theorem dX9_asked_78 : decode μX9_asked.2.1 78 = .ok (.ireturn, 1) := by decide +kernel
set_option maxRecDepth 20000 in
theorem sg_X9_asked_0 {d : Nat}  {M : Mem} {K : (Int32 → Mem → Prop)}  (h : (if ri M 58 6 = 1 then (if lg_cmp (rl M 58 9) 495689426291 = 0 then K 0 M else (if lg_cmp (rl M 58 9) 1936292453 = 0 then K 1 M else (if lg_cmp (rl M 58 9) 1852137842 = 0 then K 2 M else (if lg_cmp (rl M 58 9) 465726235763 = 0 then K 3 M else (if lg_cmp (rl M 58 9) 126879263846254 = 0 then K 4 M else K ((-1)) M))))) else K ((-1)) M)) : CI d μX9_asked [.ref 58] M K := by
  show Rn d μX9_asked 0 [(0, .ref 58)] [] M _
  refine rn_aload_n (i := 0) (x := 58) dX9_asked_0 rfl (by simp) ?_
  refine rn_geti dX9_asked_1 rfl gf_X9_130 (by decide) ?_
  refine rn_iconst (v := 1) dX9_asked_4 rfl ?_
  refine rn_icmp_eq (tgt := 10) dX9_asked_5 (by decide) (ite_go h (fun hc h => ?_) (fun hc h => ?_))
  · refine rn_aload_n (i := 0) (x := 58) dX9_asked_10 rfl (by simp) ?_
    refine rn_getl dX9_asked_11 rfl gf_X9_123 rfl ?_
    refine rn_ldc2 (v := 495689426291) dX9_asked_14 lk_X9_160 ?_
    refine rn_lcmp dX9_asked_17 ?_
    refine rn_if_ne (tgt := 23) dX9_asked_18 (by decide) (ite_go h (fun hc h => ?_) (fun hc h => ?_))
    · refine rn_iconst (v := 0) dX9_asked_21 rfl ?_
      exact rn_iret dX9_asked_22 rfl ⟨_, rfl, h⟩
    · refine rn_aload_n (i := 0) (x := 58) dX9_asked_23 rfl (by simp) ?_
      refine rn_getl dX9_asked_24 rfl gf_X9_123 rfl ?_
      refine rn_ldc2 (v := 1936292453) dX9_asked_27 lk_X9_148 ?_
      refine rn_lcmp dX9_asked_30 ?_
      refine rn_if_ne (tgt := 36) dX9_asked_31 (by decide) (ite_go h (fun hc h => ?_) (fun hc h => ?_))
      · refine rn_iconst (v := 1) dX9_asked_34 rfl ?_
        exact rn_iret dX9_asked_35 rfl ⟨_, rfl, h⟩
      · refine rn_aload_n (i := 0) (x := 58) dX9_asked_36 rfl (by simp) ?_
        refine rn_getl dX9_asked_37 rfl gf_X9_123 rfl ?_
        refine rn_ldc2 (v := 1852137842) dX9_asked_40 lk_X9_162 ?_
        refine rn_lcmp dX9_asked_43 ?_
        refine rn_if_ne (tgt := 49) dX9_asked_44 (by decide) (ite_go h (fun hc h => ?_) (fun hc h => ?_))
        · refine rn_iconst (v := 2) dX9_asked_47 rfl ?_
          exact rn_iret dX9_asked_48 rfl ⟨_, rfl, h⟩
        · refine rn_aload_n (i := 0) (x := 58) dX9_asked_49 rfl (by simp) ?_
          refine rn_getl dX9_asked_50 rfl gf_X9_123 rfl ?_
          refine rn_ldc2 (v := 465726235763) dX9_asked_53 lk_X9_164 ?_
          refine rn_lcmp dX9_asked_56 ?_
          refine rn_if_ne (tgt := 62) dX9_asked_57 (by decide) (ite_go h (fun hc h => ?_) (fun hc h => ?_))
          · refine rn_iconst (v := 3) dX9_asked_60 rfl ?_
            exact rn_iret dX9_asked_61 rfl ⟨_, rfl, h⟩
          · refine rn_aload_n (i := 0) (x := 58) dX9_asked_62 rfl (by simp) ?_
            refine rn_getl dX9_asked_63 rfl gf_X9_123 rfl ?_
            refine rn_ldc2 (v := 126879263846254) dX9_asked_66 lk_X9_166 ?_
            refine rn_lcmp dX9_asked_69 ?_
            refine rn_if_ne (tgt := 77) dX9_asked_70 (by decide) (ite_go h (fun hc h => ?_) (fun hc h => ?_))
            · refine rn_iconst (v := 4) dX9_asked_73 rfl ?_
              refine rn_goto (tgt := 78) dX9_asked_74 (by decide) ?_
              exact rn_iret dX9_asked_78 rfl ⟨_, rfl, h⟩
            · refine rn_iconst (v := -1) dX9_asked_77 rfl ?_
              exact rn_iret dX9_asked_78 rfl ⟨_, rfl, h⟩
  · refine rn_iconst (v := -1) dX9_asked_8 rfl ?_
    exact rn_iret dX9_asked_9 rfl ⟨_, rfl, h⟩
theorem dX9_isFull_0 : decode μX9_isFull.2.1 0 = .ok (.aload_n 0, 1) := by decide +kernel
theorem dX9_isFull_1 : decode μX9_isFull.2.1 1 = .ok (.getfield 221, 3) := by decide +kernel
theorem dX9_isFull_4 : decode μX9_isFull.2.1 4 = .ok (.bipush 60, 2) := by decide +kernel
theorem dX9_isFull_6 : decode μX9_isFull.2.1 6 = .ok (.if_icmp .eq 12, 3) := by decide +kernel
theorem dX9_isFull_9 : decode μX9_isFull.2.1 9 = .ok (.aload_n 0, 1) := by decide +kernel
theorem dX9_isFull_10 : decode μX9_isFull.2.1 10 = .ok (.getfield 224, 3) := by decide +kernel
theorem dX9_isFull_13 : decode μX9_isFull.2.1 13 = .ok (.bipush 30, 2) := by decide +kernel
theorem dX9_isFull_15 : decode μX9_isFull.2.1 15 = .ok (.if_icmp .ne 7, 3) := by decide +kernel
theorem dX9_isFull_18 : decode μX9_isFull.2.1 18 = .ok (.iconst 1, 1) := by decide +kernel
theorem dX9_isFull_19 : decode μX9_isFull.2.1 19 = .ok (.goto 4, 3) := by decide +kernel
theorem dX9_isFull_22 : decode μX9_isFull.2.1 22 = .ok (.iconst 0, 1) := by decide +kernel
theorem dX9_isFull_23 : decode μX9_isFull.2.1 23 = .ok (.ireturn, 1) := by decide +kernel
set_option maxRecDepth 20000 in
theorem sg_X9_isFull_0 {d : Nat}  {M : Mem} {K : (Int32 → Mem → Prop)}  (h : (if ri M 58 20 = 60 then K 1 M else (if ri M 58 22 = 30 then K 1 M else K 0 M))) : CI d μX9_isFull [.ref 58] M K := by
  show Rn d μX9_isFull 0 [(0, .ref 58)] [] M _
  refine rn_aload_n (i := 0) (x := 58) dX9_isFull_0 rfl (by simp) ?_
  refine rn_geti dX9_isFull_1 rfl gf_X9_221 (by decide) ?_
  refine rn_bipush (v := 60) dX9_isFull_4 rfl ?_
  refine rn_icmp_eq (tgt := 18) dX9_isFull_6 (by decide) (ite_go h (fun hc h => ?_) (fun hc h => ?_))
  · refine rn_iconst (v := 1) dX9_isFull_18 rfl ?_
    refine rn_goto (tgt := 23) dX9_isFull_19 (by decide) ?_
    exact rn_zret dX9_isFull_23 rfl (by decide) ⟨_, rfl, h⟩
  · refine rn_aload_n (i := 0) (x := 58) dX9_isFull_9 rfl (by simp) ?_
    refine rn_geti dX9_isFull_10 rfl gf_X9_224 (by decide) ?_
    refine rn_bipush (v := 30) dX9_isFull_13 rfl ?_
    refine rn_icmp_ne (tgt := 22) dX9_isFull_15 (by decide) (ite_go h (fun hc h => ?_) (fun hc h => ?_))
    · refine rn_iconst (v := 1) dX9_isFull_18 rfl ?_
      refine rn_goto (tgt := 23) dX9_isFull_19 (by decide) ?_
      exact rn_zret dX9_isFull_23 rfl (by decide) ⟨_, rfl, h⟩
    · refine rn_iconst (v := 0) dX9_isFull_22 rfl ?_
      exact rn_zret dX9_isFull_23 rfl (by decide) ⟨_, rfl, h⟩
theorem dX9_countUnit_0 : decode μX9_countUnit.2.1 0 = .ok (.aload_n 0, 1) := by decide +kernel
theorem dX9_countUnit_1 : decode μX9_countUnit.2.1 1 = .ok (.dup, 1) := by decide +kernel
theorem dX9_countUnit_2 : decode μX9_countUnit.2.1 2 = .ok (.getfield 221, 3) := by decide +kernel
theorem dX9_countUnit_5 : decode μX9_countUnit.2.1 5 = .ok (.iconst 1, 1) := by decide +kernel
theorem dX9_countUnit_6 : decode μX9_countUnit.2.1 6 = .ok (.iadd, 1) := by decide +kernel
theorem dX9_countUnit_7 : decode μX9_countUnit.2.1 7 = .ok (.putfield 221, 3) := by decide +kernel
theorem dX9_countUnit_10 : decode μX9_countUnit.2.1 10 = .ok (.aload_n 0, 1) := by decide +kernel
theorem dX9_countUnit_11 : decode μX9_countUnit.2.1 11 = .ok (.dup, 1) := by decide +kernel
theorem dX9_countUnit_12 : decode μX9_countUnit.2.1 12 = .ok (.getfield 224, 3) := by decide +kernel
theorem dX9_countUnit_15 : decode μX9_countUnit.2.1 15 = .ok (.iconst 1, 1) := by decide +kernel
theorem dX9_countUnit_16 : decode μX9_countUnit.2.1 16 = .ok (.iadd, 1) := by decide +kernel
theorem dX9_countUnit_17 : decode μX9_countUnit.2.1 17 = .ok (.putfield 224, 3) := by decide +kernel
theorem dX9_countUnit_20 : decode μX9_countUnit.2.1 20 = .ok (.return_, 1) := by decide +kernel
set_option maxRecDepth 20000 in
theorem sg_X9_countUnit_0 {d : Nat}  {M : Mem} {K : (Mem → Prop)}  (h : (∀ M1, M1 = wi M 58 20 ((ri M 58 20) + 1) → (∀ M2, M2 = wi M1 58 22 ((ri M1 58 22) + 1) → K M2))) : CV d μX9_countUnit [.ref 58] M K := by
  show Rn d μX9_countUnit 0 [(0, .ref 58)] [] M _
  refine rn_aload_n (i := 0) (x := 58) dX9_countUnit_0 rfl (by simp) ?_
  refine rn_dup dX9_countUnit_1 rfl ?_
  refine rn_geti dX9_countUnit_2 rfl gf_X9_221 (by decide) ?_
  refine rn_iconst (v := 1) dX9_countUnit_5 rfl ?_
  refine rn_iadd dX9_countUnit_6 ?_
  have h := h _ rfl
  refine rn_puti dX9_countUnit_7 rfl pf_X9_221 (by decide) rfl rfl ?_
  generalize wi M 58 20 ((ri M 58 20) + 1) = M1 at h ⊢
  refine rn_aload_n (i := 0) (x := 58) dX9_countUnit_10 rfl (by simp) ?_
  refine rn_dup dX9_countUnit_11 rfl ?_
  refine rn_geti dX9_countUnit_12 rfl gf_X9_224 (by decide) ?_
  refine rn_iconst (v := 1) dX9_countUnit_15 rfl ?_
  refine rn_iadd dX9_countUnit_16 ?_
  have h := h _ rfl
  refine rn_puti dX9_countUnit_17 rfl pf_X9_224 (by decide) rfl rfl ?_
  generalize wi M1 58 22 ((ri M1 58 22) + 1) = M2 at h ⊢
  exact rn_ret dX9_countUnit_20 rfl ⟨rfl, h⟩
theorem dX9_openUp_0 : decode μX9_openUp.2.1 0 = .ok (.aload_n 0, 1) := by decide +kernel
theorem dX9_openUp_1 : decode μX9_openUp.2.1 1 = .ok (.getfield 33, 3) := by decide +kernel
theorem dX9_openUp_4 : decode μX9_openUp.2.1 4 = .ok (.aload_n 0, 1) := by decide +kernel
theorem dX9_openUp_5 : decode μX9_openUp.2.1 5 = .ok (.getfield 208, 3) := by decide +kernel
theorem dX9_openUp_8 : decode μX9_openUp.2.1 8 = .ok (.iload_n 1, 1) := by decide +kernel
theorem dX9_openUp_9 : decode μX9_openUp.2.1 9 = .ok (.iastore, 1) := by decide +kernel
theorem dX9_openUp_10 : decode μX9_openUp.2.1 10 = .ok (.aload_n 0, 1) := by decide +kernel
theorem dX9_openUp_11 : decode μX9_openUp.2.1 11 = .ok (.dup, 1) := by decide +kernel
theorem dX9_openUp_12 : decode μX9_openUp.2.1 12 = .ok (.getfield 208, 3) := by decide +kernel
theorem dX9_openUp_15 : decode μX9_openUp.2.1 15 = .ok (.iconst 1, 1) := by decide +kernel
theorem dX9_openUp_16 : decode μX9_openUp.2.1 16 = .ok (.iadd, 1) := by decide +kernel
theorem dX9_openUp_17 : decode μX9_openUp.2.1 17 = .ok (.putfield 208, 3) := by decide +kernel
theorem dX9_openUp_20 : decode μX9_openUp.2.1 20 = .ok (.aload_n 0, 1) := by decide +kernel
theorem dX9_openUp_21 : decode μX9_openUp.2.1 21 = .ok (.dup, 1) := by decide +kernel
theorem dX9_openUp_22 : decode μX9_openUp.2.1 22 = .ok (.getfield 218, 3) := by decide +kernel
theorem dX9_openUp_25 : decode μX9_openUp.2.1 25 = .ok (.iconst 1, 1) := by decide +kernel
theorem dX9_openUp_26 : decode μX9_openUp.2.1 26 = .ok (.iadd, 1) := by decide +kernel
theorem dX9_openUp_27 : decode μX9_openUp.2.1 27 = .ok (.putfield 218, 3) := by decide +kernel
theorem dX9_openUp_30 : decode μX9_openUp.2.1 30 = .ok (.aload_n 0, 1) := by decide +kernel
theorem dX9_openUp_31 : decode μX9_openUp.2.1 31 = .ok (.getfield 143, 3) := by decide +kernel
theorem dX9_openUp_34 : decode μX9_openUp.2.1 34 = .ok (.ifCond .ne 7, 3) := by decide +kernel
theorem dX9_openUp_37 : decode μX9_openUp.2.1 37 = .ok (.aload_n 0, 1) := by decide +kernel
theorem dX9_openUp_38 : decode μX9_openUp.2.1 38 = .ok (.invokevirtual 185, 3) := by decide +kernel
theorem dX9_openUp_41 : decode μX9_openUp.2.1 41 = .ok (.return_, 1) := by decide +kernel
set_option maxRecDepth 20000 in
theorem sg_X9_openUp_0 {d : Nat} {x1 : Int32} {M : Mem} {K : (Mem → Prop)}  (h : (vp_in (ri M 58 19) 160 ∧ ∀ M1, M1 = wi M 65 (nx (ri M 58 19)) x1 → (∀ M2, M2 = wi M1 58 19 ((ri M1 58 19) + 1) → (∀ M3, M3 = wi M2 58 23 ((ri M2 58 23) + 1) → (if ri M3 58 2 = 0 then (CV d μX9_token [.ref 58] M3 (fun M4 => K M4)) else K M3))))) : CV (d + 1) μX9_openUp [.ref 58, .int x1] M K := by
  show Rn (d + 1) μX9_openUp 0 [(0, .ref 58), (1, .int x1)] [] M _
  refine rn_aload_n (i := 0) (x := 58) dX9_openUp_0 rfl (by simp) ?_
  refine rn_getr (t := 65) dX9_openUp_1 rfl gf_X9_33 rfl rfl ?_
  refine rn_aload_n (i := 0) (x := 58) dX9_openUp_4 rfl (by simp) ?_
  refine rn_geti dX9_openUp_5 rfl gf_X9_208 (by decide) ?_
  refine rn_iload_n (i := 1) (x := x1) dX9_openUp_8 rfl (by simp) ?_
  obtain ⟨hi, h⟩ := h
  have h := h _ rfl
  refine rn_iastore dX9_openUp_9 rfl hi ?_
  generalize wi M 65 (nx (ri M 58 19)) x1 = M1 at h ⊢
  refine rn_aload_n (i := 0) (x := 58) dX9_openUp_10 rfl (by simp) ?_
  refine rn_dup dX9_openUp_11 rfl ?_
  refine rn_geti dX9_openUp_12 rfl gf_X9_208 (by decide) ?_
  refine rn_iconst (v := 1) dX9_openUp_15 rfl ?_
  refine rn_iadd dX9_openUp_16 ?_
  have h := h _ rfl
  refine rn_puti dX9_openUp_17 rfl pf_X9_208 (by decide) rfl rfl ?_
  generalize wi M1 58 19 ((ri M1 58 19) + 1) = M2 at h ⊢
  refine rn_aload_n (i := 0) (x := 58) dX9_openUp_20 rfl (by simp) ?_
  refine rn_dup dX9_openUp_21 rfl ?_
  refine rn_geti dX9_openUp_22 rfl gf_X9_218 (by decide) ?_
  refine rn_iconst (v := 1) dX9_openUp_25 rfl ?_
  refine rn_iadd dX9_openUp_26 ?_
  have h := h _ rfl
  refine rn_puti dX9_openUp_27 rfl pf_X9_218 (by decide) rfl rfl ?_
  generalize wi M2 58 23 ((ri M2 58 23) + 1) = M3 at h ⊢
  refine rn_aload_n (i := 0) (x := 58) dX9_openUp_30 rfl (by simp) ?_
  refine rn_geti dX9_openUp_31 rfl gf_X9_143 (by decide) ?_
  refine rn_if_ne (tgt := 41) dX9_openUp_34 (by decide) (ite_go h (fun hc h => ?_) (fun hc h => ?_))
  · refine rn_aload_n (i := 0) (x := 58) dX9_openUp_37 rfl (by simp) ?_
    refine rn_callVv (as := []) (st := []) dX9_openUp_38 mf_X9_token lk_X9_185 im_X9_token rfl rfl rfl rfl (Nat.le_of_ble_eq_true rfl) (Nat.le_of_ble_eq_true rfl) rfl (RV.mono h (fun M4 h => ?_))
    exact rn_ret dX9_openUp_41 rfl ⟨rfl, h⟩
  · exact rn_ret dX9_openUp_41 rfl ⟨rfl, h⟩
theorem dX9_unit_0 : decode μX9_unit.2.1 0 = .ok (.iconst 1, 1) := by decide +kernel
theorem dX9_unit_1 : decode μX9_unit.2.1 1 = .ok (.istore_n 1, 1) := by decide +kernel
theorem dX9_unit_2 : decode μX9_unit.2.1 2 = .ok (.iload_n 1, 1) := by decide +kernel
theorem dX9_unit_3 : decode μX9_unit.2.1 3 = .ok (.ifCond .eq 98, 3) := by decide +kernel
theorem dX9_unit_6 : decode μX9_unit.2.1 6 = .ok (.aload_n 0, 1) := by decide +kernel
theorem dX9_unit_7 : decode μX9_unit.2.1 7 = .ok (.getfield 143, 3) := by decide +kernel
theorem dX9_unit_10 : decode μX9_unit.2.1 10 = .ok (.ifCond .ne 91, 3) := by decide +kernel
theorem dX9_unit_13 : decode μX9_unit.2.1 13 = .ok (.aload_n 0, 1) := by decide +kernel
theorem dX9_unit_14 : decode μX9_unit.2.1 14 = .ok (.ldc2_w 172, 3) := by decide +kernel
theorem dX9_unit_17 : decode μX9_unit.2.1 17 = .ok (.invokevirtual 178, 3) := by decide +kernel
theorem dX9_unit_20 : decode μX9_unit.2.1 20 = .ok (.ifCond .eq 33, 3) := by decide +kernel
theorem dX9_unit_23 : decode μX9_unit.2.1 23 = .ok (.aload_n 0, 1) := by decide +kernel
theorem dX9_unit_24 : decode μX9_unit.2.1 24 = .ok (.invokevirtual 227, 3) := by decide +kernel
theorem dX9_unit_27 : decode μX9_unit.2.1 27 = .ok (.ifCond .eq 26, 3) := by decide +kernel
theorem dX9_unit_30 : decode μX9_unit.2.1 30 = .ok (.aload_n 0, 1) := by decide +kernel
theorem dX9_unit_31 : decode μX9_unit.2.1 31 = .ok (.getfield 218, 3) := by decide +kernel
theorem dX9_unit_34 : decode μX9_unit.2.1 34 = .ok (.bipush 6, 2) := by decide +kernel
theorem dX9_unit_36 : decode μX9_unit.2.1 36 = .ok (.if_icmp .le 8, 3) := by decide +kernel
theorem dX9_unit_39 : decode μX9_unit.2.1 39 = .ok (.aload_n 0, 1) := by decide +kernel
theorem dX9_unit_40 : decode μX9_unit.2.1 40 = .ok (.iconst 2, 1) := by decide +kernel
theorem dX9_unit_41 : decode μX9_unit.2.1 41 = .ok (.invokevirtual 182, 3) := by decide +kernel
theorem dX9_unit_44 : decode μX9_unit.2.1 44 = .ok (.aload_n 0, 1) := by decide +kernel
theorem dX9_unit_45 : decode μX9_unit.2.1 45 = .ok (.bipush 21, 2) := by decide +kernel
theorem dX9_unit_47 : decode μX9_unit.2.1 47 = .ok (.invokevirtual 230, 3) := by decide +kernel
theorem dX9_unit_50 : decode μX9_unit.2.1 50 = .ok (.goto (-48), 3) := by decide +kernel
theorem dX9_unit_53 : decode μX9_unit.2.1 53 = .ok (.aload_n 0, 1) := by decide +kernel
theorem dX9_unit_54 : decode μX9_unit.2.1 54 = .ok (.getfield 130, 3) := by decide +kernel
theorem dX9_unit_57 : decode μX9_unit.2.1 57 = .ok (.bipush 40, 2) := by decide +kernel
theorem dX9_unit_59 : decode μX9_unit.2.1 59 = .ok (.if_icmp .ne 37, 3) := by decide +kernel
theorem dX9_unit_62 : decode μX9_unit.2.1 62 = .ok (.aload_n 0, 1) := by decide +kernel
theorem dX9_unit_63 : decode μX9_unit.2.1 63 = .ok (.invokevirtual 233, 3) := by decide +kernel
theorem dX9_unit_66 : decode μX9_unit.2.1 66 = .ok (.ifCond .ne 12, 3) := by decide +kernel
theorem dX9_unit_69 : decode μX9_unit.2.1 69 = .ok (.aload_n 0, 1) := by decide +kernel
theorem dX9_unit_70 : decode μX9_unit.2.1 70 = .ok (.getfield 218, 3) := by decide +kernel
theorem dX9_unit_73 : decode μX9_unit.2.1 73 = .ok (.bipush 6, 2) := by decide +kernel
theorem dX9_unit_75 : decode μX9_unit.2.1 75 = .ok (.if_icmp .le 8, 3) := by decide +kernel
theorem dX9_unit_78 : decode μX9_unit.2.1 78 = .ok (.aload_n 0, 1) := by decide +kernel
theorem dX9_unit_79 : decode μX9_unit.2.1 79 = .ok (.iconst 2, 1) := by decide +kernel
theorem dX9_unit_80 : decode μX9_unit.2.1 80 = .ok (.invokevirtual 182, 3) := by decide +kernel
theorem dX9_unit_83 : decode μX9_unit.2.1 83 = .ok (.aload_n 0, 1) := by decide +kernel
theorem dX9_unit_84 : decode μX9_unit.2.1 84 = .ok (.invokevirtual 236, 3) := by decide +kernel
theorem dX9_unit_87 : decode μX9_unit.2.1 87 = .ok (.aload_n 0, 1) := by decide +kernel
theorem dX9_unit_88 : decode μX9_unit.2.1 88 = .ok (.bipush 20, 2) := by decide +kernel
theorem dX9_unit_90 : decode μX9_unit.2.1 90 = .ok (.invokevirtual 230, 3) := by decide +kernel
theorem dX9_unit_93 : decode μX9_unit.2.1 93 = .ok (.goto (-91), 3) := by decide +kernel
theorem dX9_unit_96 : decode μX9_unit.2.1 96 = .ok (.iconst 0, 1) := by decide +kernel
theorem dX9_unit_97 : decode μX9_unit.2.1 97 = .ok (.istore_n 1, 1) := by decide +kernel
theorem dX9_unit_98 : decode μX9_unit.2.1 98 = .ok (.goto (-96), 3) := by decide +kernel
theorem dX9_unit_101 : decode μX9_unit.2.1 101 = .ok (.aload_n 0, 1) := by decide +kernel
theorem dX9_unit_102 : decode μX9_unit.2.1 102 = .ok (.getfield 143, 3) := by decide +kernel
theorem dX9_unit_105 : decode μX9_unit.2.1 105 = .ok (.ifCond .le 4, 3) := by decide +kernel
theorem dX9_unit_108 : decode μX9_unit.2.1 108 = .ok (.return_, 1) := by decide +kernel
theorem dX9_unit_109 : decode μX9_unit.2.1 109 = .ok (.aload_n 0, 1) := by decide +kernel
theorem dX9_unit_110 : decode μX9_unit.2.1 110 = .ok (.invokevirtual 239, 3) := by decide +kernel
theorem dX9_unit_113 : decode μX9_unit.2.1 113 = .ok (.istore_n 2, 1) := by decide +kernel
theorem dX9_unit_114 : decode μX9_unit.2.1 114 = .ok (.aload_n 0, 1) := by decide +kernel
theorem dX9_unit_115 : decode μX9_unit.2.1 115 = .ok (.getfield 130, 3) := by decide +kernel
theorem dX9_unit_118 : decode μX9_unit.2.1 118 = .ok (.iconst 2, 1) := by decide +kernel
theorem dX9_unit_119 : decode μX9_unit.2.1 119 = .ok (.if_icmp .eq 7, 3) := by decide +kernel
theorem dX9_unit_122 : decode μX9_unit.2.1 122 = .ok (.iload_n 2, 1) := by decide +kernel
theorem dX9_unit_123 : decode μX9_unit.2.1 123 = .ok (.ifCond .lt 10, 3) := by decide +kernel
theorem dX9_unit_126 : decode μX9_unit.2.1 126 = .ok (.aload_n 0, 1) := by decide +kernel
theorem dX9_unit_127 : decode μX9_unit.2.1 127 = .ok (.invokevirtual 233, 3) := by decide +kernel
theorem dX9_unit_130 : decode μX9_unit.2.1 130 = .ok (.ifCond .eq 8, 3) := by decide +kernel
theorem dX9_unit_133 : decode μX9_unit.2.1 133 = .ok (.aload_n 0, 1) := by decide +kernel
theorem dX9_unit_134 : decode μX9_unit.2.1 134 = .ok (.iconst 2, 1) := by decide +kernel
theorem dX9_unit_135 : decode μX9_unit.2.1 135 = .ok (.invokevirtual 182, 3) := by decide +kernel
theorem dX9_unit_138 : decode μX9_unit.2.1 138 = .ok (.aload_n 0, 1) := by decide +kernel
theorem dX9_unit_139 : decode μX9_unit.2.1 139 = .ok (.getfield 143, 3) := by decide +kernel
theorem dX9_unit_142 : decode μX9_unit.2.1 142 = .ok (.ifCond .le 4, 3) := by decide +kernel
theorem dX9_unit_145 : decode μX9_unit.2.1 145 = .ok (.return_, 1) := by decide +kernel
theorem dX9_unit_146 : decode μX9_unit.2.1 146 = .ok (.aload_n 0, 1) := by decide +kernel
theorem dX9_unit_147 : decode μX9_unit.2.1 147 = .ok (.invokevirtual 236, 3) := by decide +kernel
theorem dX9_unit_150 : decode μX9_unit.2.1 150 = .ok (.aload_n 0, 1) := by decide +kernel
theorem dX9_unit_151 : decode μX9_unit.2.1 151 = .ok (.iload_n 2, 1) := by decide +kernel
theorem dX9_unit_152 : decode μX9_unit.2.1 152 = .ok (.ifCond .ge 7, 3) := by decide +kernel
theorem dX9_unit_155 : decode μX9_unit.2.1 155 = .ok (.iconst 0, 1) := by decide +kernel
theorem dX9_unit_156 : decode μX9_unit.2.1 156 = .ok (.goto 4, 3) := by decide +kernel
theorem dX9_unit_159 : decode μX9_unit.2.1 159 = .ok (.iconst 1, 1) := by decide +kernel
theorem dX9_unit_160 : decode μX9_unit.2.1 160 = .ok (.iload_n 2, 1) := by decide +kernel
theorem dX9_unit_161 : decode μX9_unit.2.1 161 = .ok (.ifCond .ge 10, 3) := by decide +kernel
theorem dX9_unit_164 : decode μX9_unit.2.1 164 = .ok (.aload_n 0, 1) := by decide +kernel
theorem dX9_unit_165 : decode μX9_unit.2.1 165 = .ok (.getfield 127, 3) := by decide +kernel
theorem dX9_unit_168 : decode μX9_unit.2.1 168 = .ok (.goto 4, 3) := by decide +kernel
theorem dX9_unit_171 : decode μX9_unit.2.1 171 = .ok (.iload_n 2, 1) := by decide +kernel
theorem dX9_unit_172 : decode μX9_unit.2.1 172 = .ok (.invokevirtual 214, 3) := by decide +kernel
theorem dX9_unit_175 : decode μX9_unit.2.1 175 = .ok (.aload_n 0, 1) := by decide +kernel
theorem dX9_unit_176 : decode μX9_unit.2.1 176 = .ok (.invokevirtual 185, 3) := by decide +kernel
theorem dX9_unit_179 : decode μX9_unit.2.1 179 = .ok (.return_, 1) := by decide +kernel
set_option maxRecDepth 20000 in
theorem sg_X9_unit_0 {d : Nat}  {M : Mem} {K : (Mem → Prop)}  (h : RV (d + 1) μX9_unit 2 [(0, .ref 58), (1, .int 1)] [] M K) : CV (d + 1) μX9_unit [.ref 58] M K := by
  show Rn (d + 1) μX9_unit 0 [(0, .ref 58)] [] M _
  refine rn_iconst (v := 1) dX9_unit_0 rfl ?_
  refine rn_istore_n (lv' := [(0, .ref 58), (1, .int 1)]) (hd := dX9_unit_1) (i := 1) (hi := rfl) (hn := by decide) (hf := rfl) (hl := rfl) ?_
  exact h
set_option maxRecDepth 20000 in
theorem sg_X9_unit_2 {d : Nat} {x1 : Int32} {M : Mem} {K : (Mem → Prop)}  (h : (if x1 = 0 then RV (d + 1) μX9_unit 101 [(0, .ref 58), (1, .int x1)] [] M K else (if ri M 58 2 = 0 then (CI d μX9_isWord [.ref 58, .long 7237492] M (fun r2 M1 => (if r2 = 0 then RV (d + 1) μX9_unit 53 [(0, .ref 58), (1, .int x1)] [] M1 K else (CI d μX9_mayNot [.ref 58] M1 (fun r4 M3 => (if r4 = 0 then RV (d + 1) μX9_unit 53 [(0, .ref 58), (1, .int x1)] [] M3 K else (if ri M3 58 23 ≤ 6 then (CV d μX9_openUp [.ref 58, .int 21] M3 (fun M5 => RV (d + 1) μX9_unit 2 [(0, .ref 58), (1, .int x1)] [] M5 K)) else (CV d μX9_wrong [.ref 58, .int 2] M3 (fun M6 => (CV d μX9_openUp [.ref 58, .int 21] M6 (fun M7 => RV (d + 1) μX9_unit 2 [(0, .ref 58), (1, .int x1)] [] M7 K))))))))))) else RV (d + 1) μX9_unit 101 [(0, .ref 58), (1, .int x1)] [] M K))) : RV (d + 1) μX9_unit 2 [(0, .ref 58), (1, .int x1)] [] M K := by
  show Rn (d + 1) μX9_unit 2 [(0, .ref 58), (1, .int x1)] [] M _
  refine rn_iload_n (i := 1) (x := x1) dX9_unit_2 rfl (by simp) ?_
  refine rn_if_eq (tgt := 101) dX9_unit_3 (by decide) (ite_go h (fun hc h => ?_) (fun hc h => ?_))
  · exact h
  · refine rn_aload_n (i := 0) (x := 58) dX9_unit_6 rfl (by simp) ?_
    refine rn_geti dX9_unit_7 rfl gf_X9_143 (by decide) ?_
    refine rn_if_ne (tgt := 101) dX9_unit_10 (by decide) (ite_go h (fun hc h => ?_) (fun hc h => ?_))
    · refine rn_aload_n (i := 0) (x := 58) dX9_unit_13 rfl (by simp) ?_
      refine rn_ldc2 (v := 7237492) dX9_unit_14 lk_X9_172 ?_
      refine rn_callVi (as := [.long 7237492]) (st := []) dX9_unit_17 mf_X9_isWord lk_X9_178 im_X9_isWord rfl rfl rfl rfl (Nat.le_of_ble_eq_true rfl) (Nat.le_of_ble_eq_true rfl) rfl (RI.mono h (fun r2 M1 h => ?_))
      refine rn_if_eq (tgt := 53) dX9_unit_20 (by decide) (ite_go h (fun hc h => ?_) (fun hc h => ?_))
      · exact h
      · refine rn_aload_n (i := 0) (x := 58) dX9_unit_23 rfl (by simp) ?_
        refine rn_callVi (as := []) (st := []) dX9_unit_24 mf_X9_mayNot lk_X9_227 im_X9_mayNot rfl rfl rfl rfl (Nat.le_of_ble_eq_true rfl) (Nat.le_of_ble_eq_true rfl) rfl (RI.mono h (fun r4 M3 h => ?_))
        refine rn_if_eq (tgt := 53) dX9_unit_27 (by decide) (ite_go h (fun hc h => ?_) (fun hc h => ?_))
        · exact h
        · refine rn_aload_n (i := 0) (x := 58) dX9_unit_30 rfl (by simp) ?_
          refine rn_geti dX9_unit_31 rfl gf_X9_218 (by decide) ?_
          refine rn_bipush (v := 6) dX9_unit_34 rfl ?_
          refine rn_icmp_le (tgt := 44) dX9_unit_36 (by decide) (ite_go h (fun hc h => ?_) (fun hc h => ?_))
          · refine rn_aload_n (i := 0) (x := 58) dX9_unit_44 rfl (by simp) ?_
            refine rn_bipush (v := 21) dX9_unit_45 rfl ?_
            refine rn_callVv (as := [.int 21]) (st := []) dX9_unit_47 mf_X9_openUp lk_X9_230 im_X9_openUp rfl rfl rfl rfl (Nat.le_of_ble_eq_true rfl) (Nat.le_of_ble_eq_true rfl) rfl (RV.mono h (fun M5 h => ?_))
            refine rn_goto (tgt := 2) dX9_unit_50 (by decide) ?_
            exact h
          · refine rn_aload_n (i := 0) (x := 58) dX9_unit_39 rfl (by simp) ?_
            refine rn_iconst (v := 2) dX9_unit_40 rfl ?_
            refine rn_callVv (as := [.int 2]) (st := []) dX9_unit_41 mf_X9_wrong lk_X9_182 im_X9_wrong rfl rfl rfl rfl (Nat.le_of_ble_eq_true rfl) (Nat.le_of_ble_eq_true rfl) rfl (RV.mono h (fun M6 h => ?_))
            refine rn_aload_n (i := 0) (x := 58) dX9_unit_44 rfl (by simp) ?_
            refine rn_bipush (v := 21) dX9_unit_45 rfl ?_
            refine rn_callVv (as := [.int 21]) (st := []) dX9_unit_47 mf_X9_openUp lk_X9_230 im_X9_openUp rfl rfl rfl rfl (Nat.le_of_ble_eq_true rfl) (Nat.le_of_ble_eq_true rfl) rfl (RV.mono h (fun M7 h => ?_))
            refine rn_goto (tgt := 2) dX9_unit_50 (by decide) ?_
            exact h
    · exact h
set_option maxRecDepth 20000 in
theorem sg_X9_unit_53 {d : Nat} {x1 : Int32} {M : Mem} {K : (Mem → Prop)}  (h : (if ri M 58 6 = 40 then (CI d μX9_isFull [.ref 58] M (fun r2 M1 => (if r2 = 0 then (if ri M1 58 23 ≤ 6 then RV (d + 1) μX9_unit 83 [(0, .ref 58), (1, .int x1)] [] M1 K else (CV d μX9_wrong [.ref 58, .int 2] M1 (fun M3 => RV (d + 1) μX9_unit 83 [(0, .ref 58), (1, .int x1)] [] M3 K))) else (CV d μX9_wrong [.ref 58, .int 2] M1 (fun M4 => RV (d + 1) μX9_unit 83 [(0, .ref 58), (1, .int x1)] [] M4 K))))) else RV (d + 1) μX9_unit 2 [(0, .ref 58), (1, .int 0)] [] M K)) : RV (d + 1) μX9_unit 53 [(0, .ref 58), (1, .int x1)] [] M K := by
  show Rn (d + 1) μX9_unit 53 [(0, .ref 58), (1, .int x1)] [] M _
  refine rn_aload_n (i := 0) (x := 58) dX9_unit_53 rfl (by simp) ?_
  refine rn_geti dX9_unit_54 rfl gf_X9_130 (by decide) ?_
  refine rn_bipush (v := 40) dX9_unit_57 rfl ?_
  refine rn_icmp_ne (tgt := 96) dX9_unit_59 (by decide) (ite_go h (fun hc h => ?_) (fun hc h => ?_))
  · refine rn_aload_n (i := 0) (x := 58) dX9_unit_62 rfl (by simp) ?_
    refine rn_callVi (as := []) (st := []) dX9_unit_63 mf_X9_isFull lk_X9_233 im_X9_isFull rfl rfl rfl rfl (Nat.le_of_ble_eq_true rfl) (Nat.le_of_ble_eq_true rfl) rfl (RI.mono h (fun r2 M1 h => ?_))
    refine rn_if_ne (tgt := 78) dX9_unit_66 (by decide) (ite_go h (fun hc h => ?_) (fun hc h => ?_))
    · refine rn_aload_n (i := 0) (x := 58) dX9_unit_69 rfl (by simp) ?_
      refine rn_geti dX9_unit_70 rfl gf_X9_218 (by decide) ?_
      refine rn_bipush (v := 6) dX9_unit_73 rfl ?_
      refine rn_icmp_le (tgt := 83) dX9_unit_75 (by decide) (ite_go h (fun hc h => ?_) (fun hc h => ?_))
      · exact h
      · refine rn_aload_n (i := 0) (x := 58) dX9_unit_78 rfl (by simp) ?_
        refine rn_iconst (v := 2) dX9_unit_79 rfl ?_
        refine rn_callVv (as := [.int 2]) (st := []) dX9_unit_80 mf_X9_wrong lk_X9_182 im_X9_wrong rfl rfl rfl rfl (Nat.le_of_ble_eq_true rfl) (Nat.le_of_ble_eq_true rfl) rfl (RV.mono h (fun M3 h => ?_))
        exact h
    · refine rn_aload_n (i := 0) (x := 58) dX9_unit_78 rfl (by simp) ?_
      refine rn_iconst (v := 2) dX9_unit_79 rfl ?_
      refine rn_callVv (as := [.int 2]) (st := []) dX9_unit_80 mf_X9_wrong lk_X9_182 im_X9_wrong rfl rfl rfl rfl (Nat.le_of_ble_eq_true rfl) (Nat.le_of_ble_eq_true rfl) rfl (RV.mono h (fun M4 h => ?_))
      exact h
  · refine rn_iconst (v := 0) dX9_unit_96 rfl ?_
    refine rn_istore_n (lv' := [(0, .ref 58), (1, .int 0)]) (hd := dX9_unit_97) (i := 1) (hi := rfl) (hn := by decide) (hf := rfl) (hl := rfl) ?_
    refine rn_goto (tgt := 2) dX9_unit_98 (by decide) ?_
    exact h
set_option maxRecDepth 20000 in
theorem sg_X9_unit_83 {d : Nat} {x1 : Int32} {M : Mem} {K : (Mem → Prop)}  (h : (CV d μX9_countUnit [.ref 58] M (fun M1 => (CV d μX9_openUp [.ref 58, .int 20] M1 (fun M2 => RV (d + 1) μX9_unit 2 [(0, .ref 58), (1, .int x1)] [] M2 K))))) : RV (d + 1) μX9_unit 83 [(0, .ref 58), (1, .int x1)] [] M K := by
  show Rn (d + 1) μX9_unit 83 [(0, .ref 58), (1, .int x1)] [] M _
  refine rn_aload_n (i := 0) (x := 58) dX9_unit_83 rfl (by simp) ?_
  refine rn_callVv (as := []) (st := []) dX9_unit_84 mf_X9_countUnit lk_X9_236 im_X9_countUnit rfl rfl rfl rfl (Nat.le_of_ble_eq_true rfl) (Nat.le_of_ble_eq_true rfl) rfl (RV.mono h (fun M1 h => ?_))
  refine rn_aload_n (i := 0) (x := 58) dX9_unit_87 rfl (by simp) ?_
  refine rn_bipush (v := 20) dX9_unit_88 rfl ?_
  refine rn_callVv (as := [.int 20]) (st := []) dX9_unit_90 mf_X9_openUp lk_X9_230 im_X9_openUp rfl rfl rfl rfl (Nat.le_of_ble_eq_true rfl) (Nat.le_of_ble_eq_true rfl) rfl (RV.mono h (fun M2 h => ?_))
  refine rn_goto (tgt := 2) dX9_unit_93 (by decide) ?_
  exact h
set_option maxRecDepth 20000 in
theorem sg_X9_unit_101 {d : Nat} {x1 : Int32} {M : Mem} {K : (Mem → Prop)}  (h : (if ri M 58 2 ≤ 0 then (CI d μX9_asked [.ref 58] M (fun r2 M1 => (if ri M1 58 6 = 2 then RV (d + 1) μX9_unit 126 [(0, .ref 58), (1, .int x1), (2, .int r2)] [] M1 K else (if r2 < 0 then (CV d μX9_wrong [.ref 58, .int 2] M1 (fun M3 => RV (d + 1) μX9_unit 138 [(0, .ref 58), (1, .int x1), (2, .int r2)] [] M3 K)) else RV (d + 1) μX9_unit 126 [(0, .ref 58), (1, .int x1), (2, .int r2)] [] M1 K)))) else K M)) : RV (d + 1) μX9_unit 101 [(0, .ref 58), (1, .int x1)] [] M K := by
  show Rn (d + 1) μX9_unit 101 [(0, .ref 58), (1, .int x1)] [] M _
  refine rn_aload_n (i := 0) (x := 58) dX9_unit_101 rfl (by simp) ?_
  refine rn_geti dX9_unit_102 rfl gf_X9_143 (by decide) ?_
  refine rn_if_le (tgt := 109) dX9_unit_105 (by decide) (ite_go h (fun hc h => ?_) (fun hc h => ?_))
  · refine rn_aload_n (i := 0) (x := 58) dX9_unit_109 rfl (by simp) ?_
    refine rn_callVi (as := []) (st := []) dX9_unit_110 mf_X9_asked lk_X9_239 im_X9_asked rfl rfl rfl rfl (Nat.le_of_ble_eq_true rfl) (Nat.le_of_ble_eq_true rfl) rfl (RI.mono h (fun r2 M1 h => ?_))
    refine rn_istore_n (lv' := [(0, .ref 58), (1, .int x1), (2, .int r2)]) (hd := dX9_unit_113) (i := 2) (hi := rfl) (hn := by decide) (hf := rfl) (hl := rfl) ?_
    refine rn_aload_n (i := 0) (x := 58) dX9_unit_114 rfl (by simp) ?_
    refine rn_geti dX9_unit_115 rfl gf_X9_130 (by decide) ?_
    refine rn_iconst (v := 2) dX9_unit_118 rfl ?_
    refine rn_icmp_eq (tgt := 126) dX9_unit_119 (by decide) (ite_go h (fun hc h => ?_) (fun hc h => ?_))
    · exact h
    · refine rn_iload_n (i := 2) (x := r2) dX9_unit_122 rfl (by simp) ?_
      refine rn_if_lt (tgt := 133) dX9_unit_123 (by decide) (ite_go h (fun hc h => ?_) (fun hc h => ?_))
      · refine rn_aload_n (i := 0) (x := 58) dX9_unit_133 rfl (by simp) ?_
        refine rn_iconst (v := 2) dX9_unit_134 rfl ?_
        refine rn_callVv (as := [.int 2]) (st := []) dX9_unit_135 mf_X9_wrong lk_X9_182 im_X9_wrong rfl rfl rfl rfl (Nat.le_of_ble_eq_true rfl) (Nat.le_of_ble_eq_true rfl) rfl (RV.mono h (fun M3 h => ?_))
        exact h
      · exact h
  · exact rn_ret dX9_unit_108 rfl ⟨rfl, h⟩
set_option maxRecDepth 20000 in
theorem sg_X9_unit_126 {d : Nat} {x1 : Int32} {x2 : Int32} {M : Mem} {K : (Mem → Prop)}  (h : (CI d μX9_isFull [.ref 58] M (fun r2 M1 => (if r2 = 0 then RV (d + 1) μX9_unit 138 [(0, .ref 58), (1, .int x1), (2, .int x2)] [] M1 K else (CV d μX9_wrong [.ref 58, .int 2] M1 (fun M3 => RV (d + 1) μX9_unit 138 [(0, .ref 58), (1, .int x1), (2, .int x2)] [] M3 K)))))) : RV (d + 1) μX9_unit 126 [(0, .ref 58), (1, .int x1), (2, .int x2)] [] M K := by
  show Rn (d + 1) μX9_unit 126 [(0, .ref 58), (1, .int x1), (2, .int x2)] [] M _
  refine rn_aload_n (i := 0) (x := 58) dX9_unit_126 rfl (by simp) ?_
  refine rn_callVi (as := []) (st := []) dX9_unit_127 mf_X9_isFull lk_X9_233 im_X9_isFull rfl rfl rfl rfl (Nat.le_of_ble_eq_true rfl) (Nat.le_of_ble_eq_true rfl) rfl (RI.mono h (fun r2 M1 h => ?_))
  refine rn_if_eq (tgt := 138) dX9_unit_130 (by decide) (ite_go h (fun hc h => ?_) (fun hc h => ?_))
  · exact h
  · refine rn_aload_n (i := 0) (x := 58) dX9_unit_133 rfl (by simp) ?_
    refine rn_iconst (v := 2) dX9_unit_134 rfl ?_
    refine rn_callVv (as := [.int 2]) (st := []) dX9_unit_135 mf_X9_wrong lk_X9_182 im_X9_wrong rfl rfl rfl rfl (Nat.le_of_ble_eq_true rfl) (Nat.le_of_ble_eq_true rfl) rfl (RV.mono h (fun M3 h => ?_))
    exact h
set_option maxRecDepth 20000 in
theorem sg_X9_unit_138 {d : Nat} {x1 : Int32} {x2 : Int32} {M : Mem} {K : (Mem → Prop)}  (h : (if ri M 58 2 ≤ 0 then (CV d μX9_countUnit [.ref 58] M (fun M1 => (if 0 ≤ x2 then (if 0 ≤ x2 then RV (d + 1) μX9_unit 172 [(0, .ref 58), (1, .int x1), (2, .int x2)] [.int x2, .int 1, .ref 58] M1 K else RV (d + 1) μX9_unit 172 [(0, .ref 58), (1, .int x1), (2, .int x2)] [.int (ri M1 58 8), .int 1, .ref 58] M1 K) else (if 0 ≤ x2 then RV (d + 1) μX9_unit 172 [(0, .ref 58), (1, .int x1), (2, .int x2)] [.int x2, .int 0, .ref 58] M1 K else RV (d + 1) μX9_unit 172 [(0, .ref 58), (1, .int x1), (2, .int x2)] [.int (ri M1 58 8), .int 0, .ref 58] M1 K)))) else K M)) : RV (d + 1) μX9_unit 138 [(0, .ref 58), (1, .int x1), (2, .int x2)] [] M K := by
  show Rn (d + 1) μX9_unit 138 [(0, .ref 58), (1, .int x1), (2, .int x2)] [] M _
  refine rn_aload_n (i := 0) (x := 58) dX9_unit_138 rfl (by simp) ?_
  refine rn_geti dX9_unit_139 rfl gf_X9_143 (by decide) ?_
  refine rn_if_le (tgt := 146) dX9_unit_142 (by decide) (ite_go h (fun hc h => ?_) (fun hc h => ?_))
  · refine rn_aload_n (i := 0) (x := 58) dX9_unit_146 rfl (by simp) ?_
    refine rn_callVv (as := []) (st := []) dX9_unit_147 mf_X9_countUnit lk_X9_236 im_X9_countUnit rfl rfl rfl rfl (Nat.le_of_ble_eq_true rfl) (Nat.le_of_ble_eq_true rfl) rfl (RV.mono h (fun M1 h => ?_))
    refine rn_aload_n (i := 0) (x := 58) dX9_unit_150 rfl (by simp) ?_
    refine rn_iload_n (i := 2) (x := x2) dX9_unit_151 rfl (by simp) ?_
    refine rn_if_ge (tgt := 159) dX9_unit_152 (by decide) (ite_go h (fun hc h => ?_) (fun hc h => ?_))
    · refine rn_iconst (v := 1) dX9_unit_159 rfl ?_
      refine rn_iload_n (i := 2) (x := x2) dX9_unit_160 rfl (by simp) ?_
      refine rn_if_ge (tgt := 171) dX9_unit_161 (by decide) (ite_go h (fun hc h => ?_) (fun hc h => ?_))
      · refine rn_iload_n (i := 2) (x := x2) dX9_unit_171 rfl (by simp) ?_
        exact h
      · refine rn_aload_n (i := 0) (x := 58) dX9_unit_164 rfl (by simp) ?_
        refine rn_geti dX9_unit_165 rfl gf_X9_127 (by decide) ?_
        refine rn_goto (tgt := 172) dX9_unit_168 (by decide) ?_
        exact h
    · refine rn_iconst (v := 0) dX9_unit_155 rfl ?_
      refine rn_goto (tgt := 160) dX9_unit_156 (by decide) ?_
      refine rn_iload_n (i := 2) (x := x2) dX9_unit_160 rfl (by simp) ?_
      refine rn_if_ge (tgt := 171) dX9_unit_161 (by decide) (ite_go h (fun hc h => ?_) (fun hc h => ?_))
      · refine rn_iload_n (i := 2) (x := x2) dX9_unit_171 rfl (by simp) ?_
        exact h
      · refine rn_aload_n (i := 0) (x := 58) dX9_unit_164 rfl (by simp) ?_
        refine rn_geti dX9_unit_165 rfl gf_X9_127 (by decide) ?_
        refine rn_goto (tgt := 172) dX9_unit_168 (by decide) ?_
        exact h
  · exact rn_ret dX9_unit_145 rfl ⟨rfl, h⟩
set_option maxRecDepth 20000 in
theorem sg_X9_unit_172 {d : Nat} {x1 : Int32} {x2 : Int32} {y1 : Int32} {y2 : Int32} {M : Mem} {K : (Mem → Prop)}  (h : (CV d μX9_add [.ref 58, .int y1, .int y2] M (fun M1 => (CV d μX9_token [.ref 58] M1 (fun M2 => K M2))))) : RV (d + 1) μX9_unit 172 [(0, .ref 58), (1, .int x1), (2, .int x2)] [.int y2, .int y1, .ref 58] M K := by
  show Rn (d + 1) μX9_unit 172 [(0, .ref 58), (1, .int x1), (2, .int x2)] [.int y2, .int y1, .ref 58] M _
  refine rn_callVv (as := [.int y1, .int y2]) (st := []) dX9_unit_172 mf_X9_add lk_X9_214 im_X9_add rfl rfl rfl rfl (Nat.le_of_ble_eq_true rfl) (Nat.le_of_ble_eq_true rfl) rfl (RV.mono h (fun M1 h => ?_))
  refine rn_aload_n (i := 0) (x := 58) dX9_unit_175 rfl (by simp) ?_
  refine rn_callVv (as := []) (st := []) dX9_unit_176 mf_X9_token lk_X9_185 im_X9_token rfl rfl rfl rfl (Nat.le_of_ble_eq_true rfl) (Nat.le_of_ble_eq_true rfl) rfl (RV.mono h (fun M2 h => ?_))
  exact rn_ret dX9_unit_179 rfl ⟨rfl, h⟩
theorem dX9_sign_0 : decode μX9_sign.2.1 0 = .ok (.aload_n 0, 1) := by decide +kernel
theorem dX9_sign_1 : decode μX9_sign.2.1 1 = .ok (.ldc2_w 168, 3) := by decide +kernel
theorem dX9_sign_4 : decode μX9_sign.2.1 4 = .ok (.invokevirtual 178, 3) := by decide +kernel
theorem dX9_sign_7 : decode μX9_sign.2.1 7 = .ok (.ifCond .eq 6, 3) := by decide +kernel
theorem dX9_sign_10 : decode μX9_sign.2.1 10 = .ok (.bipush 38, 2) := by decide +kernel
theorem dX9_sign_12 : decode μX9_sign.2.1 12 = .ok (.ireturn, 1) := by decide +kernel
theorem dX9_sign_13 : decode μX9_sign.2.1 13 = .ok (.aload_n 0, 1) := by decide +kernel
theorem dX9_sign_14 : decode μX9_sign.2.1 14 = .ok (.ldc2_w 170, 3) := by decide +kernel
theorem dX9_sign_17 : decode μX9_sign.2.1 17 = .ok (.invokevirtual 178, 3) := by decide +kernel
theorem dX9_sign_20 : decode μX9_sign.2.1 20 = .ok (.ifCond .eq 6, 3) := by decide +kernel
theorem dX9_sign_23 : decode μX9_sign.2.1 23 = .ok (.bipush 124, 2) := by decide +kernel
theorem dX9_sign_25 : decode μX9_sign.2.1 25 = .ok (.ireturn, 1) := by decide +kernel
theorem dX9_sign_26 : decode μX9_sign.2.1 26 = .ok (.aload_n 0, 1) := by decide +kernel
theorem dX9_sign_27 : decode μX9_sign.2.1 27 = .ok (.getfield 130, 3) := by decide +kernel
theorem dX9_sign_30 : decode μX9_sign.2.1 30 = .ok (.bipush 60, 2) := by decide +kernel
theorem dX9_sign_32 : decode μX9_sign.2.1 32 = .ok (.if_icmp .eq 66, 3) := by decide +kernel
theorem dX9_sign_35 : decode μX9_sign.2.1 35 = .ok (.aload_n 0, 1) := by decide +kernel
theorem dX9_sign_36 : decode μX9_sign.2.1 36 = .ok (.getfield 130, 3) := by decide +kernel
theorem dX9_sign_39 : decode μX9_sign.2.1 39 = .ok (.bipush 62, 2) := by decide +kernel
theorem dX9_sign_41 : decode μX9_sign.2.1 41 = .ok (.if_icmp .eq 57, 3) := by decide +kernel
theorem dX9_sign_44 : decode μX9_sign.2.1 44 = .ok (.aload_n 0, 1) := by decide +kernel
theorem dX9_sign_45 : decode μX9_sign.2.1 45 = .ok (.getfield 130, 3) := by decide +kernel
theorem dX9_sign_48 : decode μX9_sign.2.1 48 = .ok (.bipush 61, 2) := by decide +kernel
theorem dX9_sign_50 : decode μX9_sign.2.1 50 = .ok (.if_icmp .eq 48, 3) := by decide +kernel
theorem dX9_sign_53 : decode μX9_sign.2.1 53 = .ok (.aload_n 0, 1) := by decide +kernel
theorem dX9_sign_54 : decode μX9_sign.2.1 54 = .ok (.getfield 130, 3) := by decide +kernel
theorem dX9_sign_57 : decode μX9_sign.2.1 57 = .ok (.bipush 43, 2) := by decide +kernel
theorem dX9_sign_59 : decode μX9_sign.2.1 59 = .ok (.if_icmp .eq 39, 3) := by decide +kernel
theorem dX9_sign_62 : decode μX9_sign.2.1 62 = .ok (.aload_n 0, 1) := by decide +kernel
theorem dX9_sign_63 : decode μX9_sign.2.1 63 = .ok (.getfield 130, 3) := by decide +kernel
theorem dX9_sign_66 : decode μX9_sign.2.1 66 = .ok (.bipush 45, 2) := by decide +kernel
theorem dX9_sign_68 : decode μX9_sign.2.1 68 = .ok (.if_icmp .eq 30, 3) := by decide +kernel
theorem dX9_sign_71 : decode μX9_sign.2.1 71 = .ok (.aload_n 0, 1) := by decide +kernel
theorem dX9_sign_72 : decode μX9_sign.2.1 72 = .ok (.getfield 130, 3) := by decide +kernel
theorem dX9_sign_75 : decode μX9_sign.2.1 75 = .ok (.bipush 42, 2) := by decide +kernel
theorem dX9_sign_77 : decode μX9_sign.2.1 77 = .ok (.if_icmp .eq 21, 3) := by decide +kernel
theorem dX9_sign_80 : decode μX9_sign.2.1 80 = .ok (.aload_n 0, 1) := by decide +kernel
theorem dX9_sign_81 : decode μX9_sign.2.1 81 = .ok (.getfield 130, 3) := by decide +kernel
theorem dX9_sign_84 : decode μX9_sign.2.1 84 = .ok (.bipush 47, 2) := by decide +kernel
theorem dX9_sign_86 : decode μX9_sign.2.1 86 = .ok (.if_icmp .eq 12, 3) := by decide +kernel
theorem dX9_sign_89 : decode μX9_sign.2.1 89 = .ok (.aload_n 0, 1) := by decide +kernel
theorem dX9_sign_90 : decode μX9_sign.2.1 90 = .ok (.getfield 130, 3) := by decide +kernel
theorem dX9_sign_93 : decode μX9_sign.2.1 93 = .ok (.bipush 37, 2) := by decide +kernel
theorem dX9_sign_95 : decode μX9_sign.2.1 95 = .ok (.if_icmp .ne 10, 3) := by decide +kernel
theorem dX9_sign_98 : decode μX9_sign.2.1 98 = .ok (.aload_n 0, 1) := by decide +kernel
theorem dX9_sign_99 : decode μX9_sign.2.1 99 = .ok (.getfield 130, 3) := by decide +kernel
theorem dX9_sign_102 : decode μX9_sign.2.1 102 = .ok (.goto 4, 3) := by decide +kernel
theorem dX9_sign_105 : decode μX9_sign.2.1 105 = .ok (.iconst 0, 1) := by decide +kernel
theorem dX9_sign_106 : decode μX9_sign.2.1 106 = .ok (.ireturn, 1) := by decide +kernel
set_option maxRecDepth 20000 in
theorem sg_X9_sign_0 {d : Nat}  {M : Mem} {K : (Int32 → Mem → Prop)}  (h : (CI d μX9_isWord [.ref 58, .long 6385252] M (fun r2 M1 => (if r2 = 0 then (CI d μX9_isWord [.ref 58, .long 28530] M1 (fun r4 M3 => (if r4 = 0 then (if ri M3 58 6 = 60 then K (ri M3 58 6) M3 else (if ri M3 58 6 = 62 then K (ri M3 58 6) M3 else (if ri M3 58 6 = 61 then K (ri M3 58 6) M3 else (if ri M3 58 6 = 43 then K (ri M3 58 6) M3 else (if ri M3 58 6 = 45 then K (ri M3 58 6) M3 else (if ri M3 58 6 = 42 then K (ri M3 58 6) M3 else (if ri M3 58 6 = 47 then K (ri M3 58 6) M3 else (if ri M3 58 6 = 37 then K (ri M3 58 6) M3 else K 0 M3)))))))) else K 124 M3))) else K 38 M1)))) : CI (d + 1) μX9_sign [.ref 58] M K := by
  show Rn (d + 1) μX9_sign 0 [(0, .ref 58)] [] M _
  refine rn_aload_n (i := 0) (x := 58) dX9_sign_0 rfl (by simp) ?_
  refine rn_ldc2 (v := 6385252) dX9_sign_1 lk_X9_168 ?_
  refine rn_callVi (as := [.long 6385252]) (st := []) dX9_sign_4 mf_X9_isWord lk_X9_178 im_X9_isWord rfl rfl rfl rfl (Nat.le_of_ble_eq_true rfl) (Nat.le_of_ble_eq_true rfl) rfl (RI.mono h (fun r2 M1 h => ?_))
  refine rn_if_eq (tgt := 13) dX9_sign_7 (by decide) (ite_go h (fun hc h => ?_) (fun hc h => ?_))
  · refine rn_aload_n (i := 0) (x := 58) dX9_sign_13 rfl (by simp) ?_
    refine rn_ldc2 (v := 28530) dX9_sign_14 lk_X9_170 ?_
    refine rn_callVi (as := [.long 28530]) (st := []) dX9_sign_17 mf_X9_isWord lk_X9_178 im_X9_isWord rfl rfl rfl rfl (Nat.le_of_ble_eq_true rfl) (Nat.le_of_ble_eq_true rfl) rfl (RI.mono h (fun r4 M3 h => ?_))
    refine rn_if_eq (tgt := 26) dX9_sign_20 (by decide) (ite_go h (fun hc h => ?_) (fun hc h => ?_))
    · refine rn_aload_n (i := 0) (x := 58) dX9_sign_26 rfl (by simp) ?_
      refine rn_geti dX9_sign_27 rfl gf_X9_130 (by decide) ?_
      refine rn_bipush (v := 60) dX9_sign_30 rfl ?_
      refine rn_icmp_eq (tgt := 98) dX9_sign_32 (by decide) (ite_go h (fun hc h => ?_) (fun hc h => ?_))
      · refine rn_aload_n (i := 0) (x := 58) dX9_sign_98 rfl (by simp) ?_
        refine rn_geti dX9_sign_99 rfl gf_X9_130 (by decide) ?_
        refine rn_goto (tgt := 106) dX9_sign_102 (by decide) ?_
        exact rn_iret dX9_sign_106 rfl ⟨_, rfl, h⟩
      · refine rn_aload_n (i := 0) (x := 58) dX9_sign_35 rfl (by simp) ?_
        refine rn_geti dX9_sign_36 rfl gf_X9_130 (by decide) ?_
        refine rn_bipush (v := 62) dX9_sign_39 rfl ?_
        refine rn_icmp_eq (tgt := 98) dX9_sign_41 (by decide) (ite_go h (fun hc h => ?_) (fun hc h => ?_))
        · refine rn_aload_n (i := 0) (x := 58) dX9_sign_98 rfl (by simp) ?_
          refine rn_geti dX9_sign_99 rfl gf_X9_130 (by decide) ?_
          refine rn_goto (tgt := 106) dX9_sign_102 (by decide) ?_
          exact rn_iret dX9_sign_106 rfl ⟨_, rfl, h⟩
        · refine rn_aload_n (i := 0) (x := 58) dX9_sign_44 rfl (by simp) ?_
          refine rn_geti dX9_sign_45 rfl gf_X9_130 (by decide) ?_
          refine rn_bipush (v := 61) dX9_sign_48 rfl ?_
          refine rn_icmp_eq (tgt := 98) dX9_sign_50 (by decide) (ite_go h (fun hc h => ?_) (fun hc h => ?_))
          · refine rn_aload_n (i := 0) (x := 58) dX9_sign_98 rfl (by simp) ?_
            refine rn_geti dX9_sign_99 rfl gf_X9_130 (by decide) ?_
            refine rn_goto (tgt := 106) dX9_sign_102 (by decide) ?_
            exact rn_iret dX9_sign_106 rfl ⟨_, rfl, h⟩
          · refine rn_aload_n (i := 0) (x := 58) dX9_sign_53 rfl (by simp) ?_
            refine rn_geti dX9_sign_54 rfl gf_X9_130 (by decide) ?_
            refine rn_bipush (v := 43) dX9_sign_57 rfl ?_
            refine rn_icmp_eq (tgt := 98) dX9_sign_59 (by decide) (ite_go h (fun hc h => ?_) (fun hc h => ?_))
            · refine rn_aload_n (i := 0) (x := 58) dX9_sign_98 rfl (by simp) ?_
              refine rn_geti dX9_sign_99 rfl gf_X9_130 (by decide) ?_
              refine rn_goto (tgt := 106) dX9_sign_102 (by decide) ?_
              exact rn_iret dX9_sign_106 rfl ⟨_, rfl, h⟩
            · refine rn_aload_n (i := 0) (x := 58) dX9_sign_62 rfl (by simp) ?_
              refine rn_geti dX9_sign_63 rfl gf_X9_130 (by decide) ?_
              refine rn_bipush (v := 45) dX9_sign_66 rfl ?_
              refine rn_icmp_eq (tgt := 98) dX9_sign_68 (by decide) (ite_go h (fun hc h => ?_) (fun hc h => ?_))
              · refine rn_aload_n (i := 0) (x := 58) dX9_sign_98 rfl (by simp) ?_
                refine rn_geti dX9_sign_99 rfl gf_X9_130 (by decide) ?_
                refine rn_goto (tgt := 106) dX9_sign_102 (by decide) ?_
                exact rn_iret dX9_sign_106 rfl ⟨_, rfl, h⟩
              · refine rn_aload_n (i := 0) (x := 58) dX9_sign_71 rfl (by simp) ?_
                refine rn_geti dX9_sign_72 rfl gf_X9_130 (by decide) ?_
                refine rn_bipush (v := 42) dX9_sign_75 rfl ?_
                refine rn_icmp_eq (tgt := 98) dX9_sign_77 (by decide) (ite_go h (fun hc h => ?_) (fun hc h => ?_))
                · refine rn_aload_n (i := 0) (x := 58) dX9_sign_98 rfl (by simp) ?_
                  refine rn_geti dX9_sign_99 rfl gf_X9_130 (by decide) ?_
                  refine rn_goto (tgt := 106) dX9_sign_102 (by decide) ?_
                  exact rn_iret dX9_sign_106 rfl ⟨_, rfl, h⟩
                · refine rn_aload_n (i := 0) (x := 58) dX9_sign_80 rfl (by simp) ?_
                  refine rn_geti dX9_sign_81 rfl gf_X9_130 (by decide) ?_
                  refine rn_bipush (v := 47) dX9_sign_84 rfl ?_
                  refine rn_icmp_eq (tgt := 98) dX9_sign_86 (by decide) (ite_go h (fun hc h => ?_) (fun hc h => ?_))
                  · refine rn_aload_n (i := 0) (x := 58) dX9_sign_98 rfl (by simp) ?_
                    refine rn_geti dX9_sign_99 rfl gf_X9_130 (by decide) ?_
                    refine rn_goto (tgt := 106) dX9_sign_102 (by decide) ?_
                    exact rn_iret dX9_sign_106 rfl ⟨_, rfl, h⟩
                  · refine rn_aload_n (i := 0) (x := 58) dX9_sign_89 rfl (by simp) ?_
                    refine rn_geti dX9_sign_90 rfl gf_X9_130 (by decide) ?_
                    refine rn_bipush (v := 37) dX9_sign_93 rfl ?_
                    refine rn_icmp_ne (tgt := 105) dX9_sign_95 (by decide) (ite_go h (fun hc h => ?_) (fun hc h => ?_))
                    · refine rn_aload_n (i := 0) (x := 58) dX9_sign_98 rfl (by simp) ?_
                      refine rn_geti dX9_sign_99 rfl gf_X9_130 (by decide) ?_
                      refine rn_goto (tgt := 106) dX9_sign_102 (by decide) ?_
                      exact rn_iret dX9_sign_106 rfl ⟨_, rfl, h⟩
                    · refine rn_iconst (v := 0) dX9_sign_105 rfl ?_
                      exact rn_iret dX9_sign_106 rfl ⟨_, rfl, h⟩
    · refine rn_bipush (v := 124) dX9_sign_23 rfl ?_
      exact rn_iret dX9_sign_25 rfl ⟨_, rfl, h⟩
  · refine rn_bipush (v := 38) dX9_sign_10 rfl ?_
    exact rn_iret dX9_sign_12 rfl ⟨_, rfl, h⟩
theorem dX9_hasBracket_0 : decode μX9_hasBracket.2.1 0 = .ok (.iconst 0, 1) := by decide +kernel
theorem dX9_hasBracket_1 : decode μX9_hasBracket.2.1 1 = .ok (.istore_n 1, 1) := by decide +kernel
theorem dX9_hasBracket_2 : decode μX9_hasBracket.2.1 2 = .ok (.iconst 0, 1) := by decide +kernel
theorem dX9_hasBracket_3 : decode μX9_hasBracket.2.1 3 = .ok (.istore_n 2, 1) := by decide +kernel
theorem dX9_hasBracket_4 : decode μX9_hasBracket.2.1 4 = .ok (.iload_n 2, 1) := by decide +kernel
theorem dX9_hasBracket_5 : decode μX9_hasBracket.2.1 5 = .ok (.aload_n 0, 1) := by decide +kernel
theorem dX9_hasBracket_6 : decode μX9_hasBracket.2.1 6 = .ok (.getfield 208, 3) := by decide +kernel
theorem dX9_hasBracket_9 : decode μX9_hasBracket.2.1 9 = .ok (.if_icmp .ge 30, 3) := by decide +kernel
theorem dX9_hasBracket_12 : decode μX9_hasBracket.2.1 12 = .ok (.iload_n 1, 1) := by decide +kernel
theorem dX9_hasBracket_13 : decode μX9_hasBracket.2.1 13 = .ok (.ifCond .ne 14, 3) := by decide +kernel
theorem dX9_hasBracket_16 : decode μX9_hasBracket.2.1 16 = .ok (.aload_n 0, 1) := by decide +kernel
theorem dX9_hasBracket_17 : decode μX9_hasBracket.2.1 17 = .ok (.getfield 33, 3) := by decide +kernel
theorem dX9_hasBracket_20 : decode μX9_hasBracket.2.1 20 = .ok (.iload_n 2, 1) := by decide +kernel
theorem dX9_hasBracket_21 : decode μX9_hasBracket.2.1 21 = .ok (.iaload, 1) := by decide +kernel
theorem dX9_hasBracket_22 : decode μX9_hasBracket.2.1 22 = .ok (.bipush 20, 2) := by decide +kernel
theorem dX9_hasBracket_24 : decode μX9_hasBracket.2.1 24 = .ok (.if_icmp .ne 7, 3) := by decide +kernel
theorem dX9_hasBracket_27 : decode μX9_hasBracket.2.1 27 = .ok (.iconst 1, 1) := by decide +kernel
theorem dX9_hasBracket_28 : decode μX9_hasBracket.2.1 28 = .ok (.goto 4, 3) := by decide +kernel
theorem dX9_hasBracket_31 : decode μX9_hasBracket.2.1 31 = .ok (.iconst 0, 1) := by decide +kernel
theorem dX9_hasBracket_32 : decode μX9_hasBracket.2.1 32 = .ok (.istore_n 1, 1) := by decide +kernel
theorem dX9_hasBracket_33 : decode μX9_hasBracket.2.1 33 = .ok (.iinc 2 1, 3) := by decide +kernel
theorem dX9_hasBracket_36 : decode μX9_hasBracket.2.1 36 = .ok (.goto (-32), 3) := by decide +kernel
theorem dX9_hasBracket_39 : decode μX9_hasBracket.2.1 39 = .ok (.iload_n 1, 1) := by decide +kernel
theorem dX9_hasBracket_40 : decode μX9_hasBracket.2.1 40 = .ok (.ireturn, 1) := by decide +kernel
set_option maxRecDepth 20000 in
theorem sg_X9_hasBracket_0 {d : Nat}  {M : Mem} {K : (Int32 → Mem → Prop)}  (h : RI d μX9_hasBracket 4 [(0, .ref 58), (1, .int 0), (2, .int 0)] [] M K) : CI d μX9_hasBracket [.ref 58] M K := by
  show Rn d μX9_hasBracket 0 [(0, .ref 58)] [] M _
  refine rn_iconst (v := 0) dX9_hasBracket_0 rfl ?_
  refine rn_istore_n (lv' := [(0, .ref 58), (1, .int 0)]) (hd := dX9_hasBracket_1) (i := 1) (hi := rfl) (hn := by decide) (hf := rfl) (hl := rfl) ?_
  refine rn_iconst (v := 0) dX9_hasBracket_2 rfl ?_
  refine rn_istore_n (lv' := [(0, .ref 58), (1, .int 0), (2, .int 0)]) (hd := dX9_hasBracket_3) (i := 2) (hi := rfl) (hn := by decide) (hf := rfl) (hl := rfl) ?_
  exact h
set_option maxRecDepth 20000 in
theorem sg_X9_hasBracket_4 {d : Nat} {x1 : Int32} {x2 : Int32} {M : Mem} {K : (Int32 → Mem → Prop)}  (h : (if ri M 58 19 ≤ x2 then ((x1 = 0 ∨ x1 = 1) ∧ K x1 M) else (if x1 = 0 then (vp_in x2 160 ∧ (if ri M 65 (nx x2) = 20 then RI d μX9_hasBracket 4 [(0, .ref 58), (1, .int 1), (2, .int (x2 + 1))] [] M K else RI d μX9_hasBracket 4 [(0, .ref 58), (1, .int 0), (2, .int (x2 + 1))] [] M K)) else RI d μX9_hasBracket 4 [(0, .ref 58), (1, .int 1), (2, .int (x2 + 1))] [] M K))) : RI d μX9_hasBracket 4 [(0, .ref 58), (1, .int x1), (2, .int x2)] [] M K := by
  show Rn d μX9_hasBracket 4 [(0, .ref 58), (1, .int x1), (2, .int x2)] [] M _
  refine rn_iload_n (i := 2) (x := x2) dX9_hasBracket_4 rfl (by simp) ?_
  refine rn_aload_n (i := 0) (x := 58) dX9_hasBracket_5 rfl (by simp) ?_
  refine rn_geti dX9_hasBracket_6 rfl gf_X9_208 (by decide) ?_
  refine rn_icmp_ge (tgt := 39) dX9_hasBracket_9 (by decide) (ite_go h (fun hc h => ?_) (fun hc h => ?_))
  · refine rn_iload_n (i := 1) (x := x1) dX9_hasBracket_39 rfl (by simp) ?_
    exact rn_zret dX9_hasBracket_40 rfl h.1 ⟨_, rfl, h.2⟩
  · refine rn_iload_n (i := 1) (x := x1) dX9_hasBracket_12 rfl (by simp) ?_
    refine rn_if_ne (tgt := 27) dX9_hasBracket_13 (by decide) (ite_go h (fun hc h => ?_) (fun hc h => ?_))
    · refine rn_aload_n (i := 0) (x := 58) dX9_hasBracket_16 rfl (by simp) ?_
      refine rn_getr (t := 65) dX9_hasBracket_17 rfl gf_X9_33 rfl rfl ?_
      refine rn_iload_n (i := 2) (x := x2) dX9_hasBracket_20 rfl (by simp) ?_
      obtain ⟨hi, h⟩ := h
      refine rn_iaload dX9_hasBracket_21 rfl hi ?_
      refine rn_bipush (v := 20) dX9_hasBracket_22 rfl ?_
      refine rn_icmp_ne (tgt := 31) dX9_hasBracket_24 (by decide) (ite_go h (fun hc h => ?_) (fun hc h => ?_))
      · refine rn_iconst (v := 1) dX9_hasBracket_27 rfl ?_
        refine rn_goto (tgt := 32) dX9_hasBracket_28 (by decide) ?_
        refine rn_istore_n (lv' := [(0, .ref 58), (1, .int 1), (2, .int x2)]) (hd := dX9_hasBracket_32) (i := 1) (hi := rfl) (hn := by decide) (hf := rfl) (hl := rfl) ?_
        refine rn_iinc (x := x2) (v := x2 + 1) (lv' := [(0, .ref 58), (1, .int 1), (2, .int (x2 + 1))]) dX9_hasBracket_33 (by simp) rfl (by decide) rfl rfl ?_
        refine rn_goto (tgt := 4) dX9_hasBracket_36 (by decide) ?_
        exact h
      · refine rn_iconst (v := 0) dX9_hasBracket_31 rfl ?_
        refine rn_istore_n (lv' := [(0, .ref 58), (1, .int 0), (2, .int x2)]) (hd := dX9_hasBracket_32) (i := 1) (hi := rfl) (hn := by decide) (hf := rfl) (hl := rfl) ?_
        refine rn_iinc (x := x2) (v := x2 + 1) (lv' := [(0, .ref 58), (1, .int 0), (2, .int (x2 + 1))]) dX9_hasBracket_33 (by simp) rfl (by decide) rfl rfl ?_
        refine rn_goto (tgt := 4) dX9_hasBracket_36 (by decide) ?_
        exact h
    · refine rn_iconst (v := 1) dX9_hasBracket_27 rfl ?_
      refine rn_goto (tgt := 32) dX9_hasBracket_28 (by decide) ?_
      refine rn_istore_n (lv' := [(0, .ref 58), (1, .int 1), (2, .int x2)]) (hd := dX9_hasBracket_32) (i := 1) (hi := rfl) (hn := by decide) (hf := rfl) (hl := rfl) ?_
      refine rn_iinc (x := x2) (v := x2 + 1) (lv' := [(0, .ref 58), (1, .int 1), (2, .int (x2 + 1))]) dX9_hasBracket_33 (by simp) rfl (by decide) rfl rfl ?_
      refine rn_goto (tgt := 4) dX9_hasBracket_36 (by decide) ?_
      exact h
theorem dX9_formula_0 : decode μX9_formula.2.1 0 = .ok (.aload_n 0, 1) := by decide +kernel
theorem dX9_formula_1 : decode μX9_formula.2.1 1 = .ok (.invokevirtual 185, 3) := by decide +kernel
theorem dX9_formula_4 : decode μX9_formula.2.1 4 = .ok (.aload_n 0, 1) := by decide +kernel
theorem dX9_formula_5 : decode μX9_formula.2.1 5 = .ok (.iconst 1, 1) := by decide +kernel
theorem dX9_formula_6 : decode μX9_formula.2.1 6 = .ok (.putfield 242, 3) := by decide +kernel
theorem dX9_formula_9 : decode μX9_formula.2.1 9 = .ok (.aload_n 0, 1) := by decide +kernel
theorem dX9_formula_10 : decode μX9_formula.2.1 10 = .ok (.iconst 0, 1) := by decide +kernel
theorem dX9_formula_11 : decode μX9_formula.2.1 11 = .ok (.putfield 205, 3) := by decide +kernel
theorem dX9_formula_14 : decode μX9_formula.2.1 14 = .ok (.aload_n 0, 1) := by decide +kernel
theorem dX9_formula_15 : decode μX9_formula.2.1 15 = .ok (.iconst 0, 1) := by decide +kernel
theorem dX9_formula_16 : decode μX9_formula.2.1 16 = .ok (.putfield 208, 3) := by decide +kernel
theorem dX9_formula_19 : decode μX9_formula.2.1 19 = .ok (.aload_n 0, 1) := by decide +kernel
theorem dX9_formula_20 : decode μX9_formula.2.1 20 = .ok (.iconst 0, 1) := by decide +kernel
theorem dX9_formula_21 : decode μX9_formula.2.1 21 = .ok (.putfield 218, 3) := by decide +kernel
theorem dX9_formula_24 : decode μX9_formula.2.1 24 = .ok (.aload_n 0, 1) := by decide +kernel
theorem dX9_formula_25 : decode μX9_formula.2.1 25 = .ok (.iconst 0, 1) := by decide +kernel
theorem dX9_formula_26 : decode μX9_formula.2.1 26 = .ok (.putfield 224, 3) := by decide +kernel
theorem dX9_formula_29 : decode μX9_formula.2.1 29 = .ok (.aload_n 0, 1) := by decide +kernel
theorem dX9_formula_30 : decode μX9_formula.2.1 30 = .ok (.invokevirtual 246, 3) := by decide +kernel
theorem dX9_formula_33 : decode μX9_formula.2.1 33 = .ok (.iconst 1, 1) := by decide +kernel
theorem dX9_formula_34 : decode μX9_formula.2.1 34 = .ok (.istore_n 1, 1) := by decide +kernel
theorem dX9_formula_35 : decode μX9_formula.2.1 35 = .ok (.iload_n 1, 1) := by decide +kernel
theorem dX9_formula_36 : decode μX9_formula.2.1 36 = .ok (.ifCond .eq 126, 3) := by decide +kernel
theorem dX9_formula_39 : decode μX9_formula.2.1 39 = .ok (.aload_n 0, 1) := by decide +kernel
theorem dX9_formula_40 : decode μX9_formula.2.1 40 = .ok (.getfield 143, 3) := by decide +kernel
theorem dX9_formula_43 : decode μX9_formula.2.1 43 = .ok (.ifCond .ne 119, 3) := by decide +kernel
theorem dX9_formula_46 : decode μX9_formula.2.1 46 = .ok (.aload_n 0, 1) := by decide +kernel
theorem dX9_formula_47 : decode μX9_formula.2.1 47 = .ok (.invokevirtual 249, 3) := by decide +kernel
theorem dX9_formula_50 : decode μX9_formula.2.1 50 = .ok (.istore_n 2, 1) := by decide +kernel
theorem dX9_formula_51 : decode μX9_formula.2.1 51 = .ok (.aload_n 0, 1) := by decide +kernel
theorem dX9_formula_52 : decode μX9_formula.2.1 52 = .ok (.getfield 130, 3) := by decide +kernel
theorem dX9_formula_55 : decode μX9_formula.2.1 55 = .ok (.bipush 41, 2) := by decide +kernel
theorem dX9_formula_57 : decode μX9_formula.2.1 57 = .ok (.if_icmp .ne 42, 3) := by decide +kernel
theorem dX9_formula_60 : decode μX9_formula.2.1 60 = .ok (.aload_n 0, 1) := by decide +kernel
theorem dX9_formula_61 : decode μX9_formula.2.1 61 = .ok (.invokevirtual 252, 3) := by decide +kernel
theorem dX9_formula_64 : decode μX9_formula.2.1 64 = .ok (.ifCond .eq 35, 3) := by decide +kernel
theorem dX9_formula_67 : decode μX9_formula.2.1 67 = .ok (.aload_n 0, 1) := by decide +kernel
theorem dX9_formula_68 : decode μX9_formula.2.1 68 = .ok (.iconst 0, 1) := by decide +kernel
theorem dX9_formula_69 : decode μX9_formula.2.1 69 = .ok (.invokevirtual 255, 3) := by decide +kernel
theorem dX9_formula_72 : decode μX9_formula.2.1 72 = .ok (.aload_n 0, 1) := by decide +kernel
theorem dX9_formula_73 : decode μX9_formula.2.1 73 = .ok (.dup, 1) := by decide +kernel
theorem dX9_formula_74 : decode μX9_formula.2.1 74 = .ok (.getfield 208, 3) := by decide +kernel
theorem dX9_formula_77 : decode μX9_formula.2.1 77 = .ok (.iconst 1, 1) := by decide +kernel
theorem dX9_formula_78 : decode μX9_formula.2.1 78 = .ok (.isub, 1) := by decide +kernel
theorem dX9_formula_79 : decode μX9_formula.2.1 79 = .ok (.putfield 208, 3) := by decide +kernel
theorem dX9_formula_82 : decode μX9_formula.2.1 82 = .ok (.aload_n 0, 1) := by decide +kernel
theorem dX9_formula_83 : decode μX9_formula.2.1 83 = .ok (.dup, 1) := by decide +kernel
theorem dX9_formula_84 : decode μX9_formula.2.1 84 = .ok (.getfield 218, 3) := by decide +kernel
theorem dX9_formula_87 : decode μX9_formula.2.1 87 = .ok (.iconst 1, 1) := by decide +kernel
theorem dX9_formula_88 : decode μX9_formula.2.1 88 = .ok (.isub, 1) := by decide +kernel
theorem dX9_formula_89 : decode μX9_formula.2.1 89 = .ok (.putfield 218, 3) := by decide +kernel
theorem dX9_formula_92 : decode μX9_formula.2.1 92 = .ok (.aload_n 0, 1) := by decide +kernel
theorem dX9_formula_93 : decode μX9_formula.2.1 93 = .ok (.invokevirtual 185, 3) := by decide +kernel
theorem dX9_formula_96 : decode μX9_formula.2.1 96 = .ok (.goto 63, 3) := by decide +kernel
theorem dX9_formula_99 : decode μX9_formula.2.1 99 = .ok (.iload_n 2, 1) := by decide +kernel
theorem dX9_formula_100 : decode μX9_formula.2.1 100 = .ok (.ifCond .eq 57, 3) := by decide +kernel
theorem dX9_formula_103 : decode μX9_formula.2.1 103 = .ok (.iload_n 2, 1) := by decide +kernel
theorem dX9_formula_104 : decode μX9_formula.2.1 104 = .ok (.invokestatic 211, 3) := by decide +kernel
theorem dX9_formula_107 : decode μX9_formula.2.1 107 = .ok (.iconst 4, 1) := by decide +kernel
theorem dX9_formula_108 : decode μX9_formula.2.1 108 = .ok (.if_icmp .ne 10, 3) := by decide +kernel
theorem dX9_formula_111 : decode μX9_formula.2.1 111 = .ok (.aload_n 0, 1) := by decide +kernel
theorem dX9_formula_112 : decode μX9_formula.2.1 112 = .ok (.invokevirtual 258, 3) := by decide +kernel
theorem dX9_formula_115 : decode μX9_formula.2.1 115 = .ok (.ifCond .ne 42, 3) := by decide +kernel
theorem dX9_formula_118 : decode μX9_formula.2.1 118 = .ok (.aload_n 0, 1) := by decide +kernel
theorem dX9_formula_119 : decode μX9_formula.2.1 119 = .ok (.iload_n 2, 1) := by decide +kernel
theorem dX9_formula_120 : decode μX9_formula.2.1 120 = .ok (.invokestatic 211, 3) := by decide +kernel
theorem dX9_formula_123 : decode μX9_formula.2.1 123 = .ok (.invokevirtual 255, 3) := by decide +kernel
theorem dX9_formula_126 : decode μX9_formula.2.1 126 = .ok (.aload_n 0, 1) := by decide +kernel
theorem dX9_formula_127 : decode μX9_formula.2.1 127 = .ok (.getfield 33, 3) := by decide +kernel
theorem dX9_formula_130 : decode μX9_formula.2.1 130 = .ok (.aload_n 0, 1) := by decide +kernel
theorem dX9_formula_131 : decode μX9_formula.2.1 131 = .ok (.getfield 208, 3) := by decide +kernel
theorem dX9_formula_134 : decode μX9_formula.2.1 134 = .ok (.iload_n 2, 1) := by decide +kernel
theorem dX9_formula_135 : decode μX9_formula.2.1 135 = .ok (.iastore, 1) := by decide +kernel
theorem dX9_formula_136 : decode μX9_formula.2.1 136 = .ok (.aload_n 0, 1) := by decide +kernel
theorem dX9_formula_137 : decode μX9_formula.2.1 137 = .ok (.dup, 1) := by decide +kernel
theorem dX9_formula_138 : decode μX9_formula.2.1 138 = .ok (.getfield 208, 3) := by decide +kernel
theorem dX9_formula_141 : decode μX9_formula.2.1 141 = .ok (.iconst 1, 1) := by decide +kernel
theorem dX9_formula_142 : decode μX9_formula.2.1 142 = .ok (.iadd, 1) := by decide +kernel
theorem dX9_formula_143 : decode μX9_formula.2.1 143 = .ok (.putfield 208, 3) := by decide +kernel
theorem dX9_formula_146 : decode μX9_formula.2.1 146 = .ok (.aload_n 0, 1) := by decide +kernel
theorem dX9_formula_147 : decode μX9_formula.2.1 147 = .ok (.invokevirtual 185, 3) := by decide +kernel
theorem dX9_formula_150 : decode μX9_formula.2.1 150 = .ok (.aload_n 0, 1) := by decide +kernel
theorem dX9_formula_151 : decode μX9_formula.2.1 151 = .ok (.invokevirtual 246, 3) := by decide +kernel
theorem dX9_formula_154 : decode μX9_formula.2.1 154 = .ok (.goto 5, 3) := by decide +kernel
theorem dX9_formula_157 : decode μX9_formula.2.1 157 = .ok (.iconst 0, 1) := by decide +kernel
theorem dX9_formula_158 : decode μX9_formula.2.1 158 = .ok (.istore_n 1, 1) := by decide +kernel
theorem dX9_formula_159 : decode μX9_formula.2.1 159 = .ok (.goto (-124), 3) := by decide +kernel
theorem dX9_formula_162 : decode μX9_formula.2.1 162 = .ok (.aload_n 0, 1) := by decide +kernel
theorem dX9_formula_163 : decode μX9_formula.2.1 163 = .ok (.getfield 143, 3) := by decide +kernel
theorem dX9_formula_166 : decode μX9_formula.2.1 166 = .ok (.ifCond .ne 15, 3) := by decide +kernel
theorem dX9_formula_169 : decode μX9_formula.2.1 169 = .ok (.aload_n 0, 1) := by decide +kernel
theorem dX9_formula_170 : decode μX9_formula.2.1 170 = .ok (.invokevirtual 252, 3) := by decide +kernel
theorem dX9_formula_173 : decode μX9_formula.2.1 173 = .ok (.ifCond .eq 8, 3) := by decide +kernel
theorem dX9_formula_176 : decode μX9_formula.2.1 176 = .ok (.aload_n 0, 1) := by decide +kernel
theorem dX9_formula_177 : decode μX9_formula.2.1 177 = .ok (.iconst 2, 1) := by decide +kernel
theorem dX9_formula_178 : decode μX9_formula.2.1 178 = .ok (.invokevirtual 182, 3) := by decide +kernel
theorem dX9_formula_181 : decode μX9_formula.2.1 181 = .ok (.aload_n 0, 1) := by decide +kernel
theorem dX9_formula_182 : decode μX9_formula.2.1 182 = .ok (.getfield 143, 3) := by decide +kernel
theorem dX9_formula_185 : decode μX9_formula.2.1 185 = .ok (.ifCond .ne 8, 3) := by decide +kernel
theorem dX9_formula_188 : decode μX9_formula.2.1 188 = .ok (.aload_n 0, 1) := by decide +kernel
theorem dX9_formula_189 : decode μX9_formula.2.1 189 = .ok (.iconst 0, 1) := by decide +kernel
theorem dX9_formula_190 : decode μX9_formula.2.1 190 = .ok (.invokevirtual 255, 3) := by decide +kernel
theorem dX9_formula_193 : decode μX9_formula.2.1 193 = .ok (.return_, 1) := by decide +kernel
set_option maxRecDepth 20000 in
theorem sg_X9_formula_0 {d : Nat}  {M : Mem} {K : (Mem → Prop)}  (h : (CV d μX9_token [.ref 58] M (fun M1 => (∀ M2, M2 = wi M1 58 24 1 → (∀ M3, M3 = wi M2 58 17 0 → (∀ M4, M4 = wi M3 58 19 0 → (∀ M5, M5 = wi M4 58 23 0 → (∀ M6, M6 = wi M5 58 22 0 → (CV d μX9_unit [.ref 58] M6 (fun M7 => RV (d + 1) μX9_formula 35 [(0, .ref 58), (1, .int 1)] [] M7 K)))))))))) : CV (d + 1) μX9_formula [.ref 58] M K := by
  show Rn (d + 1) μX9_formula 0 [(0, .ref 58)] [] M _
  refine rn_aload_n (i := 0) (x := 58) dX9_formula_0 rfl (by simp) ?_
  refine rn_callVv (as := []) (st := []) dX9_formula_1 mf_X9_token lk_X9_185 im_X9_token rfl rfl rfl rfl (Nat.le_of_ble_eq_true rfl) (Nat.le_of_ble_eq_true rfl) rfl (RV.mono h (fun M1 h => ?_))
  refine rn_aload_n (i := 0) (x := 58) dX9_formula_4 rfl (by simp) ?_
  refine rn_iconst (v := 1) dX9_formula_5 rfl ?_
  have h := h _ rfl
  refine rn_puti dX9_formula_6 rfl pf_X9_242 (by decide) rfl rfl ?_
  generalize wi M1 58 24 1 = M2 at h ⊢
  refine rn_aload_n (i := 0) (x := 58) dX9_formula_9 rfl (by simp) ?_
  refine rn_iconst (v := 0) dX9_formula_10 rfl ?_
  have h := h _ rfl
  refine rn_puti dX9_formula_11 rfl pf_X9_205 (by decide) rfl rfl ?_
  generalize wi M2 58 17 0 = M3 at h ⊢
  refine rn_aload_n (i := 0) (x := 58) dX9_formula_14 rfl (by simp) ?_
  refine rn_iconst (v := 0) dX9_formula_15 rfl ?_
  have h := h _ rfl
  refine rn_puti dX9_formula_16 rfl pf_X9_208 (by decide) rfl rfl ?_
  generalize wi M3 58 19 0 = M4 at h ⊢
  refine rn_aload_n (i := 0) (x := 58) dX9_formula_19 rfl (by simp) ?_
  refine rn_iconst (v := 0) dX9_formula_20 rfl ?_
  have h := h _ rfl
  refine rn_puti dX9_formula_21 rfl pf_X9_218 (by decide) rfl rfl ?_
  generalize wi M4 58 23 0 = M5 at h ⊢
  refine rn_aload_n (i := 0) (x := 58) dX9_formula_24 rfl (by simp) ?_
  refine rn_iconst (v := 0) dX9_formula_25 rfl ?_
  have h := h _ rfl
  refine rn_puti dX9_formula_26 rfl pf_X9_224 (by decide) rfl rfl ?_
  generalize wi M5 58 22 0 = M6 at h ⊢
  refine rn_aload_n (i := 0) (x := 58) dX9_formula_29 rfl (by simp) ?_
  refine rn_callVv (as := []) (st := []) dX9_formula_30 mf_X9_unit lk_X9_246 im_X9_unit rfl rfl rfl rfl (Nat.le_of_ble_eq_true rfl) (Nat.le_of_ble_eq_true rfl) rfl (RV.mono h (fun M7 h => ?_))
  refine rn_iconst (v := 1) dX9_formula_33 rfl ?_
  refine rn_istore_n (lv' := [(0, .ref 58), (1, .int 1)]) (hd := dX9_formula_34) (i := 1) (hi := rfl) (hn := by decide) (hf := rfl) (hl := rfl) ?_
  exact h
set_option maxRecDepth 20000 in
theorem sg_X9_formula_35 {d : Nat} {x1 : Int32} {M : Mem} {K : (Mem → Prop)}  (h : (if x1 = 0 then RV (d + 1) μX9_formula 162 [(0, .ref 58), (1, .int x1)] [] M K else (if ri M 58 2 = 0 then (CI d μX9_sign [.ref 58] M (fun r2 M1 => (if ri M1 58 6 = 41 then (CI d μX9_hasBracket [.ref 58] M1 (fun r4 M3 => (if r4 = 0 then RV (d + 1) μX9_formula 99 [(0, .ref 58), (1, .int x1), (2, .int r2)] [] M3 K else (CV d μX9_close [.ref 58, .int 0] M3 (fun M5 => (∀ M6, M6 = wi M5 58 19 ((ri M5 58 19) - 1) → (∀ M7, M7 = wi M6 58 23 ((ri M6 58 23) - 1) → (CV d μX9_token [.ref 58] M7 (fun M8 => RV (d + 1) μX9_formula 35 [(0, .ref 58), (1, .int x1)] [] M8 K))))))))) else RV (d + 1) μX9_formula 99 [(0, .ref 58), (1, .int x1), (2, .int r2)] [] M1 K))) else RV (d + 1) μX9_formula 162 [(0, .ref 58), (1, .int x1)] [] M K))) : RV (d + 1) μX9_formula 35 [(0, .ref 58), (1, .int x1)] [] M K := by
  show Rn (d + 1) μX9_formula 35 [(0, .ref 58), (1, .int x1)] [] M _
  refine rn_iload_n (i := 1) (x := x1) dX9_formula_35 rfl (by simp) ?_
  refine rn_if_eq (tgt := 162) dX9_formula_36 (by decide) (ite_go h (fun hc h => ?_) (fun hc h => ?_))
  · exact h
  · refine rn_aload_n (i := 0) (x := 58) dX9_formula_39 rfl (by simp) ?_
    refine rn_geti dX9_formula_40 rfl gf_X9_143 (by decide) ?_
    refine rn_if_ne (tgt := 162) dX9_formula_43 (by decide) (ite_go h (fun hc h => ?_) (fun hc h => ?_))
    · refine rn_aload_n (i := 0) (x := 58) dX9_formula_46 rfl (by simp) ?_
      refine rn_callVi (as := []) (st := []) dX9_formula_47 mf_X9_sign lk_X9_249 im_X9_sign rfl rfl rfl rfl (Nat.le_of_ble_eq_true rfl) (Nat.le_of_ble_eq_true rfl) rfl (RI.mono h (fun r2 M1 h => ?_))
      refine rn_istore_n (lv' := [(0, .ref 58), (1, .int x1), (2, .int r2)]) (hd := dX9_formula_50) (i := 2) (hi := rfl) (hn := by decide) (hf := rfl) (hl := rfl) ?_
      refine rn_aload_n (i := 0) (x := 58) dX9_formula_51 rfl (by simp) ?_
      refine rn_geti dX9_formula_52 rfl gf_X9_130 (by decide) ?_
      refine rn_bipush (v := 41) dX9_formula_55 rfl ?_
      refine rn_icmp_ne (tgt := 99) dX9_formula_57 (by decide) (ite_go h (fun hc h => ?_) (fun hc h => ?_))
      · refine rn_aload_n (i := 0) (x := 58) dX9_formula_60 rfl (by simp) ?_
        refine rn_callVi (as := []) (st := []) dX9_formula_61 mf_X9_hasBracket lk_X9_252 im_X9_hasBracket rfl rfl rfl rfl (Nat.le_of_ble_eq_true rfl) (Nat.le_of_ble_eq_true rfl) rfl (RI.mono h (fun r4 M3 h => ?_))
        refine rn_if_eq (tgt := 99) dX9_formula_64 (by decide) (ite_go h (fun hc h => ?_) (fun hc h => ?_))
        · exact h
        · refine rn_aload_n (i := 0) (x := 58) dX9_formula_67 rfl (by simp) ?_
          refine rn_iconst (v := 0) dX9_formula_68 rfl ?_
          refine rn_callVv (as := [.int 0]) (st := []) dX9_formula_69 mf_X9_close lk_X9_255 im_X9_close rfl rfl rfl rfl (Nat.le_of_ble_eq_true rfl) (Nat.le_of_ble_eq_true rfl) rfl (RV.mono h (fun M5 h => ?_))
          refine rn_aload_n (i := 0) (x := 58) dX9_formula_72 rfl (by simp) ?_
          refine rn_dup dX9_formula_73 rfl ?_
          refine rn_geti dX9_formula_74 rfl gf_X9_208 (by decide) ?_
          refine rn_iconst (v := 1) dX9_formula_77 rfl ?_
          refine rn_isub dX9_formula_78 ?_
          have h := h _ rfl
          refine rn_puti dX9_formula_79 rfl pf_X9_208 (by decide) rfl rfl ?_
          generalize wi M5 58 19 ((ri M5 58 19) - 1) = M6 at h ⊢
          refine rn_aload_n (i := 0) (x := 58) dX9_formula_82 rfl (by simp) ?_
          refine rn_dup dX9_formula_83 rfl ?_
          refine rn_geti dX9_formula_84 rfl gf_X9_218 (by decide) ?_
          refine rn_iconst (v := 1) dX9_formula_87 rfl ?_
          refine rn_isub dX9_formula_88 ?_
          have h := h _ rfl
          refine rn_puti dX9_formula_89 rfl pf_X9_218 (by decide) rfl rfl ?_
          generalize wi M6 58 23 ((ri M6 58 23) - 1) = M7 at h ⊢
          refine rn_aload_n (i := 0) (x := 58) dX9_formula_92 rfl (by simp) ?_
          refine rn_callVv (as := []) (st := []) dX9_formula_93 mf_X9_token lk_X9_185 im_X9_token rfl rfl rfl rfl (Nat.le_of_ble_eq_true rfl) (Nat.le_of_ble_eq_true rfl) rfl (RV.mono h (fun M8 h => ?_))
          refine rn_goto (tgt := 159) dX9_formula_96 (by decide) ?_
          refine rn_goto (tgt := 35) dX9_formula_159 (by decide) ?_
          refine Rn.sub (lv' := [(0, .ref 58), (1, .int x1)]) (by simp) ?_
          exact h
      · exact h
    · exact h
set_option maxRecDepth 20000 in
theorem sg_X9_formula_99 {d : Nat} {x1 : Int32} {x2 : Int32} {M : Mem} {K : (Mem → Prop)}  (h : (if x2 = 0 then RV (d + 1) μX9_formula 35 [(0, .ref 58), (1, .int 0)] [] M K else (CI d μX9_tight [.int x2] M (fun r2 M1 => (if r2 = 4 then (CI d μX9_hasRelation [.ref 58] M1 (fun r4 M3 => (if r4 = 0 then RV (d + 1) μX9_formula 118 [(0, .ref 58), (1, .int x1), (2, .int x2)] [] M3 K else RV (d + 1) μX9_formula 35 [(0, .ref 58), (1, .int 0)] [] M3 K))) else RV (d + 1) μX9_formula 118 [(0, .ref 58), (1, .int x1), (2, .int x2)] [] M1 K))))) : RV (d + 1) μX9_formula 99 [(0, .ref 58), (1, .int x1), (2, .int x2)] [] M K := by
  show Rn (d + 1) μX9_formula 99 [(0, .ref 58), (1, .int x1), (2, .int x2)] [] M _
  refine rn_iload_n (i := 2) (x := x2) dX9_formula_99 rfl (by simp) ?_
  refine rn_if_eq (tgt := 157) dX9_formula_100 (by decide) (ite_go h (fun hc h => ?_) (fun hc h => ?_))
  · refine rn_iconst (v := 0) dX9_formula_157 rfl ?_
    refine rn_istore_n (lv' := [(0, .ref 58), (1, .int 0), (2, .int x2)]) (hd := dX9_formula_158) (i := 1) (hi := rfl) (hn := by decide) (hf := rfl) (hl := rfl) ?_
    refine rn_goto (tgt := 35) dX9_formula_159 (by decide) ?_
    refine Rn.sub (lv' := [(0, .ref 58), (1, .int 0)]) (by simp) ?_
    exact h
  · refine rn_iload_n (i := 2) (x := x2) dX9_formula_103 rfl (by simp) ?_
    refine rn_callSi (as := [.int x2]) (st := []) dX9_formula_104 mf_X9_tight lk_X9_211 sm_X9_tight rfl (Nat.le_of_ble_eq_true rfl) (Nat.le_of_ble_eq_true rfl) rfl (RI.mono h (fun r2 M1 h => ?_))
    refine rn_iconst (v := 4) dX9_formula_107 rfl ?_
    refine rn_icmp_ne (tgt := 118) dX9_formula_108 (by decide) (ite_go h (fun hc h => ?_) (fun hc h => ?_))
    · refine rn_aload_n (i := 0) (x := 58) dX9_formula_111 rfl (by simp) ?_
      refine rn_callVi (as := []) (st := []) dX9_formula_112 mf_X9_hasRelation lk_X9_258 im_X9_hasRelation rfl rfl rfl rfl (Nat.le_of_ble_eq_true rfl) (Nat.le_of_ble_eq_true rfl) rfl (RI.mono h (fun r4 M3 h => ?_))
      refine rn_if_ne (tgt := 157) dX9_formula_115 (by decide) (ite_go h (fun hc h => ?_) (fun hc h => ?_))
      · exact h
      · refine rn_iconst (v := 0) dX9_formula_157 rfl ?_
        refine rn_istore_n (lv' := [(0, .ref 58), (1, .int 0), (2, .int x2)]) (hd := dX9_formula_158) (i := 1) (hi := rfl) (hn := by decide) (hf := rfl) (hl := rfl) ?_
        refine rn_goto (tgt := 35) dX9_formula_159 (by decide) ?_
        refine Rn.sub (lv' := [(0, .ref 58), (1, .int 0)]) (by simp) ?_
        exact h
    · exact h
set_option maxRecDepth 20000 in
theorem sg_X9_formula_118 {d : Nat} {x1 : Int32} {x2 : Int32} {M : Mem} {K : (Mem → Prop)}  (h : (CI d μX9_tight [.int x2] M (fun r2 M1 => (CV d μX9_close [.ref 58, .int r2] M1 (fun M3 => (vp_in (ri M3 58 19) 160 ∧ ∀ M4, M4 = wi M3 65 (nx (ri M3 58 19)) x2 → (∀ M5, M5 = wi M4 58 19 ((ri M4 58 19) + 1) → (CV d μX9_token [.ref 58] M5 (fun M6 => (CV d μX9_unit [.ref 58] M6 (fun M7 => RV (d + 1) μX9_formula 35 [(0, .ref 58), (1, .int x1)] [] M7 K))))))))))) : RV (d + 1) μX9_formula 118 [(0, .ref 58), (1, .int x1), (2, .int x2)] [] M K := by
  show Rn (d + 1) μX9_formula 118 [(0, .ref 58), (1, .int x1), (2, .int x2)] [] M _
  refine rn_aload_n (i := 0) (x := 58) dX9_formula_118 rfl (by simp) ?_
  refine rn_iload_n (i := 2) (x := x2) dX9_formula_119 rfl (by simp) ?_
  refine rn_callSi (as := [.int x2]) (st := [.ref 58]) dX9_formula_120 mf_X9_tight lk_X9_211 sm_X9_tight rfl (Nat.le_of_ble_eq_true rfl) (Nat.le_of_ble_eq_true rfl) rfl (RI.mono h (fun r2 M1 h => ?_))
  refine rn_callVv (as := [.int r2]) (st := []) dX9_formula_123 mf_X9_close lk_X9_255 im_X9_close rfl rfl rfl rfl (Nat.le_of_ble_eq_true rfl) (Nat.le_of_ble_eq_true rfl) rfl (RV.mono h (fun M3 h => ?_))
  refine rn_aload_n (i := 0) (x := 58) dX9_formula_126 rfl (by simp) ?_
  refine rn_getr (t := 65) dX9_formula_127 rfl gf_X9_33 rfl rfl ?_
  refine rn_aload_n (i := 0) (x := 58) dX9_formula_130 rfl (by simp) ?_
  refine rn_geti dX9_formula_131 rfl gf_X9_208 (by decide) ?_
  refine rn_iload_n (i := 2) (x := x2) dX9_formula_134 rfl (by simp) ?_
  obtain ⟨hi, h⟩ := h
  have h := h _ rfl
  refine rn_iastore dX9_formula_135 rfl hi ?_
  generalize wi M3 65 (nx (ri M3 58 19)) x2 = M4 at h ⊢
  refine rn_aload_n (i := 0) (x := 58) dX9_formula_136 rfl (by simp) ?_
  refine rn_dup dX9_formula_137 rfl ?_
  refine rn_geti dX9_formula_138 rfl gf_X9_208 (by decide) ?_
  refine rn_iconst (v := 1) dX9_formula_141 rfl ?_
  refine rn_iadd dX9_formula_142 ?_
  have h := h _ rfl
  refine rn_puti dX9_formula_143 rfl pf_X9_208 (by decide) rfl rfl ?_
  generalize wi M4 58 19 ((ri M4 58 19) + 1) = M5 at h ⊢
  refine rn_aload_n (i := 0) (x := 58) dX9_formula_146 rfl (by simp) ?_
  refine rn_callVv (as := []) (st := []) dX9_formula_147 mf_X9_token lk_X9_185 im_X9_token rfl rfl rfl rfl (Nat.le_of_ble_eq_true rfl) (Nat.le_of_ble_eq_true rfl) rfl (RV.mono h (fun M6 h => ?_))
  refine rn_aload_n (i := 0) (x := 58) dX9_formula_150 rfl (by simp) ?_
  refine rn_callVv (as := []) (st := []) dX9_formula_151 mf_X9_unit lk_X9_246 im_X9_unit rfl rfl rfl rfl (Nat.le_of_ble_eq_true rfl) (Nat.le_of_ble_eq_true rfl) rfl (RV.mono h (fun M7 h => ?_))
  refine rn_goto (tgt := 159) dX9_formula_154 (by decide) ?_
  refine rn_goto (tgt := 35) dX9_formula_159 (by decide) ?_
  refine Rn.sub (lv' := [(0, .ref 58), (1, .int x1)]) (by simp) ?_
  exact h
set_option maxRecDepth 20000 in
theorem sg_X9_formula_162 {d : Nat} {x1 : Int32} {M : Mem} {K : (Mem → Prop)}  (h : (if ri M 58 2 = 0 then (CI d μX9_hasBracket [.ref 58] M (fun r2 M1 => (if r2 = 0 then (if ri M1 58 2 = 0 then (CV d μX9_close [.ref 58, .int 0] M1 (fun M3 => K M3)) else K M1) else (CV d μX9_wrong [.ref 58, .int 2] M1 (fun M4 => (if ri M4 58 2 = 0 then (CV d μX9_close [.ref 58, .int 0] M4 (fun M5 => K M5)) else K M4)))))) else (if ri M 58 2 = 0 then (CV d μX9_close [.ref 58, .int 0] M (fun M6 => K M6)) else K M))) : RV (d + 1) μX9_formula 162 [(0, .ref 58), (1, .int x1)] [] M K := by
  show Rn (d + 1) μX9_formula 162 [(0, .ref 58), (1, .int x1)] [] M _
  refine rn_aload_n (i := 0) (x := 58) dX9_formula_162 rfl (by simp) ?_
  refine rn_geti dX9_formula_163 rfl gf_X9_143 (by decide) ?_
  refine rn_if_ne (tgt := 181) dX9_formula_166 (by decide) (ite_go h (fun hc h => ?_) (fun hc h => ?_))
  · refine rn_aload_n (i := 0) (x := 58) dX9_formula_169 rfl (by simp) ?_
    refine rn_callVi (as := []) (st := []) dX9_formula_170 mf_X9_hasBracket lk_X9_252 im_X9_hasBracket rfl rfl rfl rfl (Nat.le_of_ble_eq_true rfl) (Nat.le_of_ble_eq_true rfl) rfl (RI.mono h (fun r2 M1 h => ?_))
    refine rn_if_eq (tgt := 181) dX9_formula_173 (by decide) (ite_go h (fun hc h => ?_) (fun hc h => ?_))
    · refine rn_aload_n (i := 0) (x := 58) dX9_formula_181 rfl (by simp) ?_
      refine rn_geti dX9_formula_182 rfl gf_X9_143 (by decide) ?_
      refine rn_if_ne (tgt := 193) dX9_formula_185 (by decide) (ite_go h (fun hc h => ?_) (fun hc h => ?_))
      · refine rn_aload_n (i := 0) (x := 58) dX9_formula_188 rfl (by simp) ?_
        refine rn_iconst (v := 0) dX9_formula_189 rfl ?_
        refine rn_callVv (as := [.int 0]) (st := []) dX9_formula_190 mf_X9_close lk_X9_255 im_X9_close rfl rfl rfl rfl (Nat.le_of_ble_eq_true rfl) (Nat.le_of_ble_eq_true rfl) rfl (RV.mono h (fun M3 h => ?_))
        exact rn_ret dX9_formula_193 rfl ⟨rfl, h⟩
      · exact rn_ret dX9_formula_193 rfl ⟨rfl, h⟩
    · refine rn_aload_n (i := 0) (x := 58) dX9_formula_176 rfl (by simp) ?_
      refine rn_iconst (v := 2) dX9_formula_177 rfl ?_
      refine rn_callVv (as := [.int 2]) (st := []) dX9_formula_178 mf_X9_wrong lk_X9_182 im_X9_wrong rfl rfl rfl rfl (Nat.le_of_ble_eq_true rfl) (Nat.le_of_ble_eq_true rfl) rfl (RV.mono h (fun M4 h => ?_))
      refine rn_aload_n (i := 0) (x := 58) dX9_formula_181 rfl (by simp) ?_
      refine rn_geti dX9_formula_182 rfl gf_X9_143 (by decide) ?_
      refine rn_if_ne (tgt := 193) dX9_formula_185 (by decide) (ite_go h (fun hc h => ?_) (fun hc h => ?_))
      · refine rn_aload_n (i := 0) (x := 58) dX9_formula_188 rfl (by simp) ?_
        refine rn_iconst (v := 0) dX9_formula_189 rfl ?_
        refine rn_callVv (as := [.int 0]) (st := []) dX9_formula_190 mf_X9_close lk_X9_255 im_X9_close rfl rfl rfl rfl (Nat.le_of_ble_eq_true rfl) (Nat.le_of_ble_eq_true rfl) rfl (RV.mono h (fun M5 h => ?_))
        exact rn_ret dX9_formula_193 rfl ⟨rfl, h⟩
      · exact rn_ret dX9_formula_193 rfl ⟨rfl, h⟩
  · refine rn_aload_n (i := 0) (x := 58) dX9_formula_181 rfl (by simp) ?_
    refine rn_geti dX9_formula_182 rfl gf_X9_143 (by decide) ?_
    refine rn_if_ne (tgt := 193) dX9_formula_185 (by decide) (ite_go h (fun hc h => ?_) (fun hc h => ?_))
    · refine rn_aload_n (i := 0) (x := 58) dX9_formula_188 rfl (by simp) ?_
      refine rn_iconst (v := 0) dX9_formula_189 rfl ?_
      refine rn_callVv (as := [.int 0]) (st := []) dX9_formula_190 mf_X9_close lk_X9_255 im_X9_close rfl rfl rfl rfl (Nat.le_of_ble_eq_true rfl) (Nat.le_of_ble_eq_true rfl) rfl (RV.mono h (fun M6 h => ?_))
      exact rn_ret dX9_formula_193 rfl ⟨rfl, h⟩
    · exact rn_ret dX9_formula_193 rfl ⟨rfl, h⟩
theorem dX9_truth_0 : decode μX9_truth.2.1 0 = .ok (.iload_n 0, 1) := by decide +kernel
theorem dX9_truth_1 : decode μX9_truth.2.1 1 = .ok (.ifCond .eq 7, 3) := by decide +kernel
theorem dX9_truth_4 : decode μX9_truth.2.1 4 = .ok (.iconst 1, 1) := by decide +kernel
theorem dX9_truth_5 : decode μX9_truth.2.1 5 = .ok (.goto 4, 3) := by decide +kernel
theorem dX9_truth_8 : decode μX9_truth.2.1 8 = .ok (.iconst 0, 1) := by decide +kernel
theorem dX9_truth_9 : decode μX9_truth.2.1 9 = .ok (.ireturn, 1) := by decide +kernel
set_option maxRecDepth 20000 in
theorem sg_X9_truth_0 {d : Nat} {x0 : Int32} {M : Mem} {K : (Int32 → Mem → Prop)}  (h : (if x0 = 0 then K 0 M else K 1 M)) : CI d μX9_truth [.int x0] M K := by
  show Rn d μX9_truth 0 [(0, .int x0)] [] M _
  refine rn_iload_n (i := 0) (x := x0) dX9_truth_0 rfl (by simp) ?_
  refine rn_if_eq (tgt := 8) dX9_truth_1 (by decide) (ite_go h (fun hc h => ?_) (fun hc h => ?_))
  · refine rn_iconst (v := 0) dX9_truth_8 rfl ?_
    exact rn_iret dX9_truth_9 rfl ⟨_, rfl, h⟩
  · refine rn_iconst (v := 1) dX9_truth_4 rfl ?_
    refine rn_goto (tgt := 9) dX9_truth_5 (by decide) ?_
    exact rn_iret dX9_truth_9 rfl ⟨_, rfl, h⟩
theorem dX9_done_0 : decode μX9_done.2.1 0 = .ok (.iload_n 0, 1) := by decide +kernel
theorem dX9_done_1 : decode μX9_done.2.1 1 = .ok (.tableswitch 214 37 62 #[143, 197, 214, 214, 214, 127, 119, 214, 123, 214, 131, 214, 214, 214, 214, 214, 214, 214, 214, 214, 214, 214, 214, 155, 183, 169], 119) := by decide +kernel
theorem dX9_done_120 : decode μX9_done.2.1 120 = .ok (.iload_n 1, 1) := by decide +kernel
theorem dX9_done_121 : decode μX9_done.2.1 121 = .ok (.iload_n 2, 1) := by decide +kernel
theorem dX9_done_122 : decode μX9_done.2.1 122 = .ok (.iadd, 1) := by decide +kernel
theorem dX9_done_123 : decode μX9_done.2.1 123 = .ok (.ireturn, 1) := by decide +kernel
theorem dX9_done_124 : decode μX9_done.2.1 124 = .ok (.iload_n 1, 1) := by decide +kernel
theorem dX9_done_125 : decode μX9_done.2.1 125 = .ok (.iload_n 2, 1) := by decide +kernel
theorem dX9_done_126 : decode μX9_done.2.1 126 = .ok (.isub, 1) := by decide +kernel
theorem dX9_done_127 : decode μX9_done.2.1 127 = .ok (.ireturn, 1) := by decide +kernel
theorem dX9_done_128 : decode μX9_done.2.1 128 = .ok (.iload_n 1, 1) := by decide +kernel
theorem dX9_done_129 : decode μX9_done.2.1 129 = .ok (.iload_n 2, 1) := by decide +kernel
theorem dX9_done_130 : decode μX9_done.2.1 130 = .ok (.imul, 1) := by decide +kernel
theorem dX9_done_131 : decode μX9_done.2.1 131 = .ok (.ireturn, 1) := by decide +kernel
theorem dX9_done_132 : decode μX9_done.2.1 132 = .ok (.iload_n 2, 1) := by decide +kernel
theorem dX9_done_133 : decode μX9_done.2.1 133 = .ok (.ifCond .ne 7, 3) := by decide +kernel
theorem dX9_done_136 : decode μX9_done.2.1 136 = .ok (.iconst 0, 1) := by decide +kernel
theorem dX9_done_137 : decode μX9_done.2.1 137 = .ok (.goto 6, 3) := by decide +kernel
theorem dX9_done_140 : decode μX9_done.2.1 140 = .ok (.iload_n 1, 1) := by decide +kernel
theorem dX9_done_141 : decode μX9_done.2.1 141 = .ok (.iload_n 2, 1) := by decide +kernel
theorem dX9_done_142 : decode μX9_done.2.1 142 = .ok (.idiv, 1) := by decide +kernel
theorem dX9_done_143 : decode μX9_done.2.1 143 = .ok (.ireturn, 1) := by decide +kernel
theorem dX9_done_144 : decode μX9_done.2.1 144 = .ok (.iload_n 2, 1) := by decide +kernel
theorem dX9_done_145 : decode μX9_done.2.1 145 = .ok (.ifCond .ne 7, 3) := by decide +kernel
theorem dX9_done_148 : decode μX9_done.2.1 148 = .ok (.iconst 0, 1) := by decide +kernel
theorem dX9_done_149 : decode μX9_done.2.1 149 = .ok (.goto 6, 3) := by decide +kernel
theorem dX9_done_152 : decode μX9_done.2.1 152 = .ok (.iload_n 1, 1) := by decide +kernel
theorem dX9_done_153 : decode μX9_done.2.1 153 = .ok (.iload_n 2, 1) := by decide +kernel
theorem dX9_done_154 : decode μX9_done.2.1 154 = .ok (.irem, 1) := by decide +kernel
theorem dX9_done_155 : decode μX9_done.2.1 155 = .ok (.ireturn, 1) := by decide +kernel
theorem dX9_done_156 : decode μX9_done.2.1 156 = .ok (.iload_n 1, 1) := by decide +kernel
theorem dX9_done_157 : decode μX9_done.2.1 157 = .ok (.iload_n 2, 1) := by decide +kernel
theorem dX9_done_158 : decode μX9_done.2.1 158 = .ok (.if_icmp .ge 7, 3) := by decide +kernel
theorem dX9_done_161 : decode μX9_done.2.1 161 = .ok (.iconst 1, 1) := by decide +kernel
theorem dX9_done_162 : decode μX9_done.2.1 162 = .ok (.goto 4, 3) := by decide +kernel
theorem dX9_done_165 : decode μX9_done.2.1 165 = .ok (.iconst 0, 1) := by decide +kernel
theorem dX9_done_166 : decode μX9_done.2.1 166 = .ok (.invokestatic 261, 3) := by decide +kernel
theorem dX9_done_169 : decode μX9_done.2.1 169 = .ok (.ireturn, 1) := by decide +kernel
theorem dX9_done_170 : decode μX9_done.2.1 170 = .ok (.iload_n 1, 1) := by decide +kernel
theorem dX9_done_171 : decode μX9_done.2.1 171 = .ok (.iload_n 2, 1) := by decide +kernel
theorem dX9_done_172 : decode μX9_done.2.1 172 = .ok (.if_icmp .le 7, 3) := by decide +kernel
theorem dX9_done_175 : decode μX9_done.2.1 175 = .ok (.iconst 1, 1) := by decide +kernel
theorem dX9_done_176 : decode μX9_done.2.1 176 = .ok (.goto 4, 3) := by decide +kernel
theorem dX9_done_179 : decode μX9_done.2.1 179 = .ok (.iconst 0, 1) := by decide +kernel
theorem dX9_done_180 : decode μX9_done.2.1 180 = .ok (.invokestatic 261, 3) := by decide +kernel
theorem dX9_done_183 : decode μX9_done.2.1 183 = .ok (.ireturn, 1) := by decide +kernel
theorem dX9_done_184 : decode μX9_done.2.1 184 = .ok (.iload_n 1, 1) := by decide +kernel
theorem dX9_done_185 : decode μX9_done.2.1 185 = .ok (.iload_n 2, 1) := by decide +kernel
theorem dX9_done_186 : decode μX9_done.2.1 186 = .ok (.if_icmp .ne 7, 3) := by decide +kernel
theorem dX9_done_189 : decode μX9_done.2.1 189 = .ok (.iconst 1, 1) := by decide +kernel
theorem dX9_done_190 : decode μX9_done.2.1 190 = .ok (.goto 4, 3) := by decide +kernel
theorem dX9_done_193 : decode μX9_done.2.1 193 = .ok (.iconst 0, 1) := by decide +kernel
theorem dX9_done_194 : decode μX9_done.2.1 194 = .ok (.invokestatic 261, 3) := by decide +kernel
theorem dX9_done_197 : decode μX9_done.2.1 197 = .ok (.ireturn, 1) := by decide +kernel
theorem dX9_done_198 : decode μX9_done.2.1 198 = .ok (.iload_n 1, 1) := by decide +kernel
theorem dX9_done_199 : decode μX9_done.2.1 199 = .ok (.ifCond .eq 11, 3) := by decide +kernel
theorem dX9_done_202 : decode μX9_done.2.1 202 = .ok (.iload_n 2, 1) := by decide +kernel
theorem dX9_done_203 : decode μX9_done.2.1 203 = .ok (.ifCond .eq 7, 3) := by decide +kernel
theorem dX9_done_206 : decode μX9_done.2.1 206 = .ok (.iconst 1, 1) := by decide +kernel
theorem dX9_done_207 : decode μX9_done.2.1 207 = .ok (.goto 4, 3) := by decide +kernel
theorem dX9_done_210 : decode μX9_done.2.1 210 = .ok (.iconst 0, 1) := by decide +kernel
theorem dX9_done_211 : decode μX9_done.2.1 211 = .ok (.invokestatic 261, 3) := by decide +kernel
theorem dX9_done_214 : decode μX9_done.2.1 214 = .ok (.ireturn, 1) := by decide +kernel
theorem dX9_done_215 : decode μX9_done.2.1 215 = .ok (.iload_n 1, 1) := by decide +kernel
theorem dX9_done_216 : decode μX9_done.2.1 216 = .ok (.ifCond .ne 7, 3) := by decide +kernel
theorem dX9_done_219 : decode μX9_done.2.1 219 = .ok (.iload_n 2, 1) := by decide +kernel
theorem dX9_done_220 : decode μX9_done.2.1 220 = .ok (.ifCond .eq 7, 3) := by decide +kernel
theorem dX9_done_223 : decode μX9_done.2.1 223 = .ok (.iconst 1, 1) := by decide +kernel
theorem dX9_done_224 : decode μX9_done.2.1 224 = .ok (.goto 4, 3) := by decide +kernel
theorem dX9_done_227 : decode μX9_done.2.1 227 = .ok (.iconst 0, 1) := by decide +kernel
theorem dX9_done_228 : decode μX9_done.2.1 228 = .ok (.invokestatic 261, 3) := by decide +kernel
theorem dX9_done_231 : decode μX9_done.2.1 231 = .ok (.ireturn, 1) := by decide +kernel
set_option maxRecDepth 20000 in
theorem sg_X9_done_0 {d : Nat} {x0 : Int32} {x1 : Int32} {x2 : Int32} {M : Mem} {K : (Int32 → Mem → Prop)}  (h : ((x0 = 37 → (if x2 = 0 then K 0 M else (¬ x2 = 0 ∧ K (x1 - x1 / x2 * x2) M))) ∧ (x0 = 38 → (if x1 = 0 then (CI d μX9_truth [.int 0] M (fun r2 M1 => K r2 M1)) else (if x2 = 0 then (CI d μX9_truth [.int 0] M (fun r4 M3 => K r4 M3)) else (CI d μX9_truth [.int 1] M (fun r6 M5 => K r6 M5))))) ∧ (x0 = 39 → RI (d + 1) μX9_done 215 [(0, .int x0), (1, .int x1), (2, .int x2)] [] M K) ∧ (x0 = 40 → RI (d + 1) μX9_done 215 [(0, .int x0), (1, .int x1), (2, .int x2)] [] M K) ∧ (x0 = 41 → RI (d + 1) μX9_done 215 [(0, .int x0), (1, .int x1), (2, .int x2)] [] M K) ∧ (x0 = 42 → K (x1 * x2) M) ∧ (x0 = 43 → K (x1 + x2) M) ∧ (x0 = 44 → RI (d + 1) μX9_done 215 [(0, .int x0), (1, .int x1), (2, .int x2)] [] M K) ∧ (x0 = 45 → K (x1 - x2) M) ∧ (x0 = 46 → RI (d + 1) μX9_done 215 [(0, .int x0), (1, .int x1), (2, .int x2)] [] M K) ∧ (x0 = 47 → (if x2 = 0 then K 0 M else (¬ x2 = 0 ∧ K (x1 / x2) M))) ∧ (x0 = 48 → RI (d + 1) μX9_done 215 [(0, .int x0), (1, .int x1), (2, .int x2)] [] M K) ∧ (x0 = 49 → RI (d + 1) μX9_done 215 [(0, .int x0), (1, .int x1), (2, .int x2)] [] M K) ∧ (x0 = 50 → RI (d + 1) μX9_done 215 [(0, .int x0), (1, .int x1), (2, .int x2)] [] M K) ∧ (x0 = 51 → RI (d + 1) μX9_done 215 [(0, .int x0), (1, .int x1), (2, .int x2)] [] M K) ∧ (x0 = 52 → RI (d + 1) μX9_done 215 [(0, .int x0), (1, .int x1), (2, .int x2)] [] M K) ∧ (x0 = 53 → RI (d + 1) μX9_done 215 [(0, .int x0), (1, .int x1), (2, .int x2)] [] M K) ∧ (x0 = 54 → RI (d + 1) μX9_done 215 [(0, .int x0), (1, .int x1), (2, .int x2)] [] M K) ∧ (x0 = 55 → RI (d + 1) μX9_done 215 [(0, .int x0), (1, .int x1), (2, .int x2)] [] M K) ∧ (x0 = 56 → RI (d + 1) μX9_done 215 [(0, .int x0), (1, .int x1), (2, .int x2)] [] M K) ∧ (x0 = 57 → RI (d + 1) μX9_done 215 [(0, .int x0), (1, .int x1), (2, .int x2)] [] M K) ∧ (x0 = 58 → RI (d + 1) μX9_done 215 [(0, .int x0), (1, .int x1), (2, .int x2)] [] M K) ∧ (x0 = 59 → RI (d + 1) μX9_done 215 [(0, .int x0), (1, .int x1), (2, .int x2)] [] M K) ∧ (x0 = 60 → (if x2 ≤ x1 then (CI d μX9_truth [.int 0] M (fun r8 M7 => K r8 M7)) else (CI d μX9_truth [.int 1] M (fun r10 M9 => K r10 M9)))) ∧ (x0 = 61 → (if x1 = x2 then (CI d μX9_truth [.int 1] M (fun r12 M11 => K r12 M11)) else (CI d μX9_truth [.int 0] M (fun r14 M13 => K r14 M13)))) ∧ (x0 = 62 → (if x1 ≤ x2 then (CI d μX9_truth [.int 0] M (fun r16 M15 => K r16 M15)) else (CI d μX9_truth [.int 1] M (fun r18 M17 => K r18 M17)))) ∧ ((x0).toInt < 37 ∨ 62 < (x0).toInt → RI (d + 1) μX9_done 215 [(0, .int x0), (1, .int x1), (2, .int x2)] [] M K))) : CI (d + 1) μX9_done [.int x0, .int x1, .int x2] M K := by
  show Rn (d + 1) μX9_done 0 [(0, .int x0), (1, .int x1), (2, .int x2)] [] M _
  refine rn_iload_n (i := 0) (x := x0) dX9_done_0 rfl (by simp) ?_
  by_cases hlo : (x0).toInt < 37
  · have h := h.2.2.2.2.2.2.2.2.2.2.2.2.2.2.2.2.2.2.2.2.2.2.2.2.2.2 (Or.inl hlo)
    refine rn_tswitch (tgt := 215) dX9_done_1 (Or.inl ⟨Or.inl hlo, by decide⟩) ?_
    exact h
  by_cases hhi : 62 < (x0).toInt
  · have h := h.2.2.2.2.2.2.2.2.2.2.2.2.2.2.2.2.2.2.2.2.2.2.2.2.2.2 (Or.inr hhi)
    refine rn_tswitch (tgt := 215) dX9_done_1 (Or.inl ⟨Or.inr hhi, by decide⟩) ?_
    exact h
  have hv : (x0).toInt = 37 ∨ (x0).toInt = 38 ∨ (x0).toInt = 39 ∨ (x0).toInt = 40 ∨ (x0).toInt = 41 ∨ (x0).toInt = 42 ∨ (x0).toInt = 43 ∨ (x0).toInt = 44 ∨ (x0).toInt = 45 ∨ (x0).toInt = 46 ∨ (x0).toInt = 47 ∨ (x0).toInt = 48 ∨ (x0).toInt = 49 ∨ (x0).toInt = 50 ∨ (x0).toInt = 51 ∨ (x0).toInt = 52 ∨ (x0).toInt = 53 ∨ (x0).toInt = 54 ∨ (x0).toInt = 55 ∨ (x0).toInt = 56 ∨ (x0).toInt = 57 ∨ (x0).toInt = 58 ∨ (x0).toInt = 59 ∨ (x0).toInt = 60 ∨ (x0).toInt = 61 ∨ (x0).toInt = 62 := by omega
  rcases hv with hv | hv | hv | hv | hv | hv | hv | hv | hv | hv | hv | hv | hv | hv | hv | hv | hv | hv | hv | hv | hv | hv | hv | hv | hv | hv
  · have h := h.1 (Int32.toInt_inj.mp hv)
    refine rn_tswitch (tgt := 144) dX9_done_1 (Or.inr ⟨hlo, hhi, _, by rw [hv]; rfl, by decide⟩) ?_
    refine rn_iload_n (i := 2) (x := x2) dX9_done_144 rfl (by simp) ?_
    refine rn_if_ne (tgt := 152) dX9_done_145 (by decide) (ite_go h (fun hc h => ?_) (fun hc h => ?_))
    · refine rn_iconst (v := 0) dX9_done_148 rfl ?_
      refine rn_goto (tgt := 155) dX9_done_149 (by decide) ?_
      exact rn_iret dX9_done_155 rfl ⟨_, rfl, h⟩
    · refine rn_iload_n (i := 1) (x := x1) dX9_done_152 rfl (by simp) ?_
      refine rn_iload_n (i := 2) (x := x2) dX9_done_153 rfl (by simp) ?_
      obtain ⟨hne, h⟩ := h
      refine rn_irem dX9_done_154 hne ?_
      exact rn_iret dX9_done_155 rfl ⟨_, rfl, h⟩
  · have h := h.2.1 (Int32.toInt_inj.mp hv)
    refine rn_tswitch (tgt := 198) dX9_done_1 (Or.inr ⟨hlo, hhi, _, by rw [hv]; rfl, by decide⟩) ?_
    refine rn_iload_n (i := 1) (x := x1) dX9_done_198 rfl (by simp) ?_
    refine rn_if_eq (tgt := 210) dX9_done_199 (by decide) (ite_go h (fun hc h => ?_) (fun hc h => ?_))
    · refine rn_iconst (v := 0) dX9_done_210 rfl ?_
      refine rn_callSi (as := [.int 0]) (st := []) dX9_done_211 mf_X9_truth lk_X9_261 sm_X9_truth rfl (Nat.le_of_ble_eq_true rfl) (Nat.le_of_ble_eq_true rfl) rfl (RI.mono h (fun r2 M1 h => ?_))
      exact rn_iret dX9_done_214 rfl ⟨_, rfl, h⟩
    · refine rn_iload_n (i := 2) (x := x2) dX9_done_202 rfl (by simp) ?_
      refine rn_if_eq (tgt := 210) dX9_done_203 (by decide) (ite_go h (fun hc h => ?_) (fun hc h => ?_))
      · refine rn_iconst (v := 0) dX9_done_210 rfl ?_
        refine rn_callSi (as := [.int 0]) (st := []) dX9_done_211 mf_X9_truth lk_X9_261 sm_X9_truth rfl (Nat.le_of_ble_eq_true rfl) (Nat.le_of_ble_eq_true rfl) rfl (RI.mono h (fun r4 M3 h => ?_))
        exact rn_iret dX9_done_214 rfl ⟨_, rfl, h⟩
      · refine rn_iconst (v := 1) dX9_done_206 rfl ?_
        refine rn_goto (tgt := 211) dX9_done_207 (by decide) ?_
        refine rn_callSi (as := [.int 1]) (st := []) dX9_done_211 mf_X9_truth lk_X9_261 sm_X9_truth rfl (Nat.le_of_ble_eq_true rfl) (Nat.le_of_ble_eq_true rfl) rfl (RI.mono h (fun r6 M5 h => ?_))
        exact rn_iret dX9_done_214 rfl ⟨_, rfl, h⟩
  · have h := h.2.2.1 (Int32.toInt_inj.mp hv)
    refine rn_tswitch (tgt := 215) dX9_done_1 (Or.inr ⟨hlo, hhi, _, by rw [hv]; rfl, by decide⟩) ?_
    exact h
  · have h := h.2.2.2.1 (Int32.toInt_inj.mp hv)
    refine rn_tswitch (tgt := 215) dX9_done_1 (Or.inr ⟨hlo, hhi, _, by rw [hv]; rfl, by decide⟩) ?_
    exact h
  · have h := h.2.2.2.2.1 (Int32.toInt_inj.mp hv)
    refine rn_tswitch (tgt := 215) dX9_done_1 (Or.inr ⟨hlo, hhi, _, by rw [hv]; rfl, by decide⟩) ?_
    exact h
  · have h := h.2.2.2.2.2.1 (Int32.toInt_inj.mp hv)
    refine rn_tswitch (tgt := 128) dX9_done_1 (Or.inr ⟨hlo, hhi, _, by rw [hv]; rfl, by decide⟩) ?_
    refine rn_iload_n (i := 1) (x := x1) dX9_done_128 rfl (by simp) ?_
    refine rn_iload_n (i := 2) (x := x2) dX9_done_129 rfl (by simp) ?_
    refine rn_imul dX9_done_130 ?_
    exact rn_iret dX9_done_131 rfl ⟨_, rfl, h⟩
  · have h := h.2.2.2.2.2.2.1 (Int32.toInt_inj.mp hv)
    refine rn_tswitch (tgt := 120) dX9_done_1 (Or.inr ⟨hlo, hhi, _, by rw [hv]; rfl, by decide⟩) ?_
    refine rn_iload_n (i := 1) (x := x1) dX9_done_120 rfl (by simp) ?_
    refine rn_iload_n (i := 2) (x := x2) dX9_done_121 rfl (by simp) ?_
    refine rn_iadd dX9_done_122 ?_
    exact rn_iret dX9_done_123 rfl ⟨_, rfl, h⟩
  · have h := h.2.2.2.2.2.2.2.1 (Int32.toInt_inj.mp hv)
    refine rn_tswitch (tgt := 215) dX9_done_1 (Or.inr ⟨hlo, hhi, _, by rw [hv]; rfl, by decide⟩) ?_
    exact h
  · have h := h.2.2.2.2.2.2.2.2.1 (Int32.toInt_inj.mp hv)
    refine rn_tswitch (tgt := 124) dX9_done_1 (Or.inr ⟨hlo, hhi, _, by rw [hv]; rfl, by decide⟩) ?_
    refine rn_iload_n (i := 1) (x := x1) dX9_done_124 rfl (by simp) ?_
    refine rn_iload_n (i := 2) (x := x2) dX9_done_125 rfl (by simp) ?_
    refine rn_isub dX9_done_126 ?_
    exact rn_iret dX9_done_127 rfl ⟨_, rfl, h⟩
  · have h := h.2.2.2.2.2.2.2.2.2.1 (Int32.toInt_inj.mp hv)
    refine rn_tswitch (tgt := 215) dX9_done_1 (Or.inr ⟨hlo, hhi, _, by rw [hv]; rfl, by decide⟩) ?_
    exact h
  · have h := h.2.2.2.2.2.2.2.2.2.2.1 (Int32.toInt_inj.mp hv)
    refine rn_tswitch (tgt := 132) dX9_done_1 (Or.inr ⟨hlo, hhi, _, by rw [hv]; rfl, by decide⟩) ?_
    refine rn_iload_n (i := 2) (x := x2) dX9_done_132 rfl (by simp) ?_
    refine rn_if_ne (tgt := 140) dX9_done_133 (by decide) (ite_go h (fun hc h => ?_) (fun hc h => ?_))
    · refine rn_iconst (v := 0) dX9_done_136 rfl ?_
      refine rn_goto (tgt := 143) dX9_done_137 (by decide) ?_
      exact rn_iret dX9_done_143 rfl ⟨_, rfl, h⟩
    · refine rn_iload_n (i := 1) (x := x1) dX9_done_140 rfl (by simp) ?_
      refine rn_iload_n (i := 2) (x := x2) dX9_done_141 rfl (by simp) ?_
      obtain ⟨hne, h⟩ := h
      refine rn_idiv dX9_done_142 hne ?_
      exact rn_iret dX9_done_143 rfl ⟨_, rfl, h⟩
  · have h := h.2.2.2.2.2.2.2.2.2.2.2.1 (Int32.toInt_inj.mp hv)
    refine rn_tswitch (tgt := 215) dX9_done_1 (Or.inr ⟨hlo, hhi, _, by rw [hv]; rfl, by decide⟩) ?_
    exact h
  · have h := h.2.2.2.2.2.2.2.2.2.2.2.2.1 (Int32.toInt_inj.mp hv)
    refine rn_tswitch (tgt := 215) dX9_done_1 (Or.inr ⟨hlo, hhi, _, by rw [hv]; rfl, by decide⟩) ?_
    exact h
  · have h := h.2.2.2.2.2.2.2.2.2.2.2.2.2.1 (Int32.toInt_inj.mp hv)
    refine rn_tswitch (tgt := 215) dX9_done_1 (Or.inr ⟨hlo, hhi, _, by rw [hv]; rfl, by decide⟩) ?_
    exact h
  · have h := h.2.2.2.2.2.2.2.2.2.2.2.2.2.2.1 (Int32.toInt_inj.mp hv)
    refine rn_tswitch (tgt := 215) dX9_done_1 (Or.inr ⟨hlo, hhi, _, by rw [hv]; rfl, by decide⟩) ?_
    exact h
  · have h := h.2.2.2.2.2.2.2.2.2.2.2.2.2.2.2.1 (Int32.toInt_inj.mp hv)
    refine rn_tswitch (tgt := 215) dX9_done_1 (Or.inr ⟨hlo, hhi, _, by rw [hv]; rfl, by decide⟩) ?_
    exact h
  · have h := h.2.2.2.2.2.2.2.2.2.2.2.2.2.2.2.2.1 (Int32.toInt_inj.mp hv)
    refine rn_tswitch (tgt := 215) dX9_done_1 (Or.inr ⟨hlo, hhi, _, by rw [hv]; rfl, by decide⟩) ?_
    exact h
  · have h := h.2.2.2.2.2.2.2.2.2.2.2.2.2.2.2.2.2.1 (Int32.toInt_inj.mp hv)
    refine rn_tswitch (tgt := 215) dX9_done_1 (Or.inr ⟨hlo, hhi, _, by rw [hv]; rfl, by decide⟩) ?_
    exact h
  · have h := h.2.2.2.2.2.2.2.2.2.2.2.2.2.2.2.2.2.2.1 (Int32.toInt_inj.mp hv)
    refine rn_tswitch (tgt := 215) dX9_done_1 (Or.inr ⟨hlo, hhi, _, by rw [hv]; rfl, by decide⟩) ?_
    exact h
  · have h := h.2.2.2.2.2.2.2.2.2.2.2.2.2.2.2.2.2.2.2.1 (Int32.toInt_inj.mp hv)
    refine rn_tswitch (tgt := 215) dX9_done_1 (Or.inr ⟨hlo, hhi, _, by rw [hv]; rfl, by decide⟩) ?_
    exact h
  · have h := h.2.2.2.2.2.2.2.2.2.2.2.2.2.2.2.2.2.2.2.2.1 (Int32.toInt_inj.mp hv)
    refine rn_tswitch (tgt := 215) dX9_done_1 (Or.inr ⟨hlo, hhi, _, by rw [hv]; rfl, by decide⟩) ?_
    exact h
  · have h := h.2.2.2.2.2.2.2.2.2.2.2.2.2.2.2.2.2.2.2.2.2.1 (Int32.toInt_inj.mp hv)
    refine rn_tswitch (tgt := 215) dX9_done_1 (Or.inr ⟨hlo, hhi, _, by rw [hv]; rfl, by decide⟩) ?_
    exact h
  · have h := h.2.2.2.2.2.2.2.2.2.2.2.2.2.2.2.2.2.2.2.2.2.2.1 (Int32.toInt_inj.mp hv)
    refine rn_tswitch (tgt := 215) dX9_done_1 (Or.inr ⟨hlo, hhi, _, by rw [hv]; rfl, by decide⟩) ?_
    exact h
  · have h := h.2.2.2.2.2.2.2.2.2.2.2.2.2.2.2.2.2.2.2.2.2.2.2.1 (Int32.toInt_inj.mp hv)
    refine rn_tswitch (tgt := 156) dX9_done_1 (Or.inr ⟨hlo, hhi, _, by rw [hv]; rfl, by decide⟩) ?_
    refine rn_iload_n (i := 1) (x := x1) dX9_done_156 rfl (by simp) ?_
    refine rn_iload_n (i := 2) (x := x2) dX9_done_157 rfl (by simp) ?_
    refine rn_icmp_ge (tgt := 165) dX9_done_158 (by decide) (ite_go h (fun hc h => ?_) (fun hc h => ?_))
    · refine rn_iconst (v := 0) dX9_done_165 rfl ?_
      refine rn_callSi (as := [.int 0]) (st := []) dX9_done_166 mf_X9_truth lk_X9_261 sm_X9_truth rfl (Nat.le_of_ble_eq_true rfl) (Nat.le_of_ble_eq_true rfl) rfl (RI.mono h (fun r8 M7 h => ?_))
      exact rn_iret dX9_done_169 rfl ⟨_, rfl, h⟩
    · refine rn_iconst (v := 1) dX9_done_161 rfl ?_
      refine rn_goto (tgt := 166) dX9_done_162 (by decide) ?_
      refine rn_callSi (as := [.int 1]) (st := []) dX9_done_166 mf_X9_truth lk_X9_261 sm_X9_truth rfl (Nat.le_of_ble_eq_true rfl) (Nat.le_of_ble_eq_true rfl) rfl (RI.mono h (fun r10 M9 h => ?_))
      exact rn_iret dX9_done_169 rfl ⟨_, rfl, h⟩
  · have h := h.2.2.2.2.2.2.2.2.2.2.2.2.2.2.2.2.2.2.2.2.2.2.2.2.1 (Int32.toInt_inj.mp hv)
    refine rn_tswitch (tgt := 184) dX9_done_1 (Or.inr ⟨hlo, hhi, _, by rw [hv]; rfl, by decide⟩) ?_
    refine rn_iload_n (i := 1) (x := x1) dX9_done_184 rfl (by simp) ?_
    refine rn_iload_n (i := 2) (x := x2) dX9_done_185 rfl (by simp) ?_
    refine rn_icmp_ne (tgt := 193) dX9_done_186 (by decide) (ite_go h (fun hc h => ?_) (fun hc h => ?_))
    · refine rn_iconst (v := 1) dX9_done_189 rfl ?_
      refine rn_goto (tgt := 194) dX9_done_190 (by decide) ?_
      refine rn_callSi (as := [.int 1]) (st := []) dX9_done_194 mf_X9_truth lk_X9_261 sm_X9_truth rfl (Nat.le_of_ble_eq_true rfl) (Nat.le_of_ble_eq_true rfl) rfl (RI.mono h (fun r12 M11 h => ?_))
      exact rn_iret dX9_done_197 rfl ⟨_, rfl, h⟩
    · refine rn_iconst (v := 0) dX9_done_193 rfl ?_
      refine rn_callSi (as := [.int 0]) (st := []) dX9_done_194 mf_X9_truth lk_X9_261 sm_X9_truth rfl (Nat.le_of_ble_eq_true rfl) (Nat.le_of_ble_eq_true rfl) rfl (RI.mono h (fun r14 M13 h => ?_))
      exact rn_iret dX9_done_197 rfl ⟨_, rfl, h⟩
  · have h := h.2.2.2.2.2.2.2.2.2.2.2.2.2.2.2.2.2.2.2.2.2.2.2.2.2.1 (Int32.toInt_inj.mp hv)
    refine rn_tswitch (tgt := 170) dX9_done_1 (Or.inr ⟨hlo, hhi, _, by rw [hv]; rfl, by decide⟩) ?_
    refine rn_iload_n (i := 1) (x := x1) dX9_done_170 rfl (by simp) ?_
    refine rn_iload_n (i := 2) (x := x2) dX9_done_171 rfl (by simp) ?_
    refine rn_icmp_le (tgt := 179) dX9_done_172 (by decide) (ite_go h (fun hc h => ?_) (fun hc h => ?_))
    · refine rn_iconst (v := 0) dX9_done_179 rfl ?_
      refine rn_callSi (as := [.int 0]) (st := []) dX9_done_180 mf_X9_truth lk_X9_261 sm_X9_truth rfl (Nat.le_of_ble_eq_true rfl) (Nat.le_of_ble_eq_true rfl) rfl (RI.mono h (fun r16 M15 h => ?_))
      exact rn_iret dX9_done_183 rfl ⟨_, rfl, h⟩
    · refine rn_iconst (v := 1) dX9_done_175 rfl ?_
      refine rn_goto (tgt := 180) dX9_done_176 (by decide) ?_
      refine rn_callSi (as := [.int 1]) (st := []) dX9_done_180 mf_X9_truth lk_X9_261 sm_X9_truth rfl (Nat.le_of_ble_eq_true rfl) (Nat.le_of_ble_eq_true rfl) rfl (RI.mono h (fun r18 M17 h => ?_))
      exact rn_iret dX9_done_183 rfl ⟨_, rfl, h⟩
set_option maxRecDepth 20000 in
theorem sg_X9_done_215 {d : Nat} {x0 : Int32} {x1 : Int32} {x2 : Int32} {M : Mem} {K : (Int32 → Mem → Prop)}  (h : (if x1 = 0 then (if x2 = 0 then (CI d μX9_truth [.int 0] M (fun r2 M1 => K r2 M1)) else (CI d μX9_truth [.int 1] M (fun r4 M3 => K r4 M3))) else (CI d μX9_truth [.int 1] M (fun r6 M5 => K r6 M5)))) : RI (d + 1) μX9_done 215 [(0, .int x0), (1, .int x1), (2, .int x2)] [] M K := by
  show Rn (d + 1) μX9_done 215 [(0, .int x0), (1, .int x1), (2, .int x2)] [] M _
  refine rn_iload_n (i := 1) (x := x1) dX9_done_215 rfl (by simp) ?_
  refine rn_if_ne (tgt := 223) dX9_done_216 (by decide) (ite_go h (fun hc h => ?_) (fun hc h => ?_))
  · refine rn_iload_n (i := 2) (x := x2) dX9_done_219 rfl (by simp) ?_
    refine rn_if_eq (tgt := 227) dX9_done_220 (by decide) (ite_go h (fun hc h => ?_) (fun hc h => ?_))
    · refine rn_iconst (v := 0) dX9_done_227 rfl ?_
      refine rn_callSi (as := [.int 0]) (st := []) dX9_done_228 mf_X9_truth lk_X9_261 sm_X9_truth rfl (Nat.le_of_ble_eq_true rfl) (Nat.le_of_ble_eq_true rfl) rfl (RI.mono h (fun r2 M1 h => ?_))
      exact rn_iret dX9_done_231 rfl ⟨_, rfl, h⟩
    · refine rn_iconst (v := 1) dX9_done_223 rfl ?_
      refine rn_goto (tgt := 228) dX9_done_224 (by decide) ?_
      refine rn_callSi (as := [.int 1]) (st := []) dX9_done_228 mf_X9_truth lk_X9_261 sm_X9_truth rfl (Nat.le_of_ble_eq_true rfl) (Nat.le_of_ble_eq_true rfl) rfl (RI.mono h (fun r4 M3 h => ?_))
      exact rn_iret dX9_done_231 rfl ⟨_, rfl, h⟩
  · refine rn_iconst (v := 1) dX9_done_223 rfl ?_
    refine rn_goto (tgt := 228) dX9_done_224 (by decide) ?_
    refine rn_callSi (as := [.int 1]) (st := []) dX9_done_228 mf_X9_truth lk_X9_261 sm_X9_truth rfl (Nat.le_of_ble_eq_true rfl) (Nat.le_of_ble_eq_true rfl) rfl (RI.mono h (fun r6 M5 h => ?_))
    exact rn_iret dX9_done_231 rfl ⟨_, rfl, h⟩
theorem dX9_within_0 : decode μX9_within.2.1 0 = .ok (.iload_n 0, 1) := by decide +kernel
theorem dX9_within_1 : decode μX9_within.2.1 1 = .ok (.iload_n 1, 1) := by decide +kernel
theorem dX9_within_2 : decode μX9_within.2.1 2 = .ok (.if_icmp .ge 7, 3) := by decide +kernel
theorem dX9_within_5 : decode μX9_within.2.1 5 = .ok (.iload_n 1, 1) := by decide +kernel
theorem dX9_within_6 : decode μX9_within.2.1 6 = .ok (.goto 13, 3) := by decide +kernel
theorem dX9_within_9 : decode μX9_within.2.1 9 = .ok (.iload_n 0, 1) := by decide +kernel
theorem dX9_within_10 : decode μX9_within.2.1 10 = .ok (.iload_n 2, 1) := by decide +kernel
theorem dX9_within_11 : decode μX9_within.2.1 11 = .ok (.if_icmp .le 7, 3) := by decide +kernel
theorem dX9_within_14 : decode μX9_within.2.1 14 = .ok (.iload_n 2, 1) := by decide +kernel
theorem dX9_within_15 : decode μX9_within.2.1 15 = .ok (.goto 4, 3) := by decide +kernel
theorem dX9_within_18 : decode μX9_within.2.1 18 = .ok (.iload_n 0, 1) := by decide +kernel
theorem dX9_within_19 : decode μX9_within.2.1 19 = .ok (.ireturn, 1) := by decide +kernel
set_option maxRecDepth 20000 in
theorem sg_X9_within_0 {d : Nat} {x0 : Int32} {x1 : Int32} {x2 : Int32} {M : Mem} {K : (Int32 → Mem → Prop)}  (h : (if x1 ≤ x0 then (if x0 ≤ x2 then K x0 M else K x2 M) else K x1 M)) : CI d μX9_within [.int x0, .int x1, .int x2] M K := by
  show Rn d μX9_within 0 [(0, .int x0), (1, .int x1), (2, .int x2)] [] M _
  refine rn_iload_n (i := 0) (x := x0) dX9_within_0 rfl (by simp) ?_
  refine rn_iload_n (i := 1) (x := x1) dX9_within_1 rfl (by simp) ?_
  refine rn_icmp_ge (tgt := 9) dX9_within_2 (by decide) (ite_go h (fun hc h => ?_) (fun hc h => ?_))
  · refine rn_iload_n (i := 0) (x := x0) dX9_within_9 rfl (by simp) ?_
    refine rn_iload_n (i := 2) (x := x2) dX9_within_10 rfl (by simp) ?_
    refine rn_icmp_le (tgt := 18) dX9_within_11 (by decide) (ite_go h (fun hc h => ?_) (fun hc h => ?_))
    · refine rn_iload_n (i := 0) (x := x0) dX9_within_18 rfl (by simp) ?_
      exact rn_iret dX9_within_19 rfl ⟨_, rfl, h⟩
    · refine rn_iload_n (i := 2) (x := x2) dX9_within_14 rfl (by simp) ?_
      refine rn_goto (tgt := 19) dX9_within_15 (by decide) ?_
      exact rn_iret dX9_within_19 rfl ⟨_, rfl, h⟩
  · refine rn_iload_n (i := 1) (x := x1) dX9_within_5 rfl (by simp) ?_
    refine rn_goto (tgt := 19) dX9_within_6 (by decide) ?_
    exact rn_iret dX9_within_19 rfl ⟨_, rfl, h⟩
theorem dX9_lesser_0 : decode μX9_lesser.2.1 0 = .ok (.iload_n 0, 1) := by decide +kernel
theorem dX9_lesser_1 : decode μX9_lesser.2.1 1 = .ok (.iload_n 1, 1) := by decide +kernel
theorem dX9_lesser_2 : decode μX9_lesser.2.1 2 = .ok (.if_icmp .ge 7, 3) := by decide +kernel
theorem dX9_lesser_5 : decode μX9_lesser.2.1 5 = .ok (.iload_n 0, 1) := by decide +kernel
theorem dX9_lesser_6 : decode μX9_lesser.2.1 6 = .ok (.goto 4, 3) := by decide +kernel
theorem dX9_lesser_9 : decode μX9_lesser.2.1 9 = .ok (.iload_n 1, 1) := by decide +kernel
theorem dX9_lesser_10 : decode μX9_lesser.2.1 10 = .ok (.ireturn, 1) := by decide +kernel
set_option maxRecDepth 20000 in
theorem sg_X9_lesser_0 {d : Nat} {x0 : Int32} {x1 : Int32} {M : Mem} {K : (Int32 → Mem → Prop)}  (h : (if x1 ≤ x0 then K x1 M else K x0 M)) : CI d μX9_lesser [.int x0, .int x1] M K := by
  show Rn d μX9_lesser 0 [(0, .int x0), (1, .int x1)] [] M _
  refine rn_iload_n (i := 0) (x := x0) dX9_lesser_0 rfl (by simp) ?_
  refine rn_iload_n (i := 1) (x := x1) dX9_lesser_1 rfl (by simp) ?_
  refine rn_icmp_ge (tgt := 9) dX9_lesser_2 (by decide) (ite_go h (fun hc h => ?_) (fun hc h => ?_))
  · refine rn_iload_n (i := 1) (x := x1) dX9_lesser_9 rfl (by simp) ?_
    exact rn_iret dX9_lesser_10 rfl ⟨_, rfl, h⟩
  · refine rn_iload_n (i := 0) (x := x0) dX9_lesser_5 rfl (by simp) ?_
    refine rn_goto (tgt := 10) dX9_lesser_6 (by decide) ?_
    exact rn_iret dX9_lesser_10 rfl ⟨_, rfl, h⟩
theorem dX9_greater_0 : decode μX9_greater.2.1 0 = .ok (.iload_n 0, 1) := by decide +kernel
theorem dX9_greater_1 : decode μX9_greater.2.1 1 = .ok (.iload_n 1, 1) := by decide +kernel
theorem dX9_greater_2 : decode μX9_greater.2.1 2 = .ok (.if_icmp .le 7, 3) := by decide +kernel
theorem dX9_greater_5 : decode μX9_greater.2.1 5 = .ok (.iload_n 0, 1) := by decide +kernel
theorem dX9_greater_6 : decode μX9_greater.2.1 6 = .ok (.goto 4, 3) := by decide +kernel
theorem dX9_greater_9 : decode μX9_greater.2.1 9 = .ok (.iload_n 1, 1) := by decide +kernel
theorem dX9_greater_10 : decode μX9_greater.2.1 10 = .ok (.ireturn, 1) := by decide +kernel
set_option maxRecDepth 20000 in
theorem sg_X9_greater_0 {d : Nat} {x0 : Int32} {x1 : Int32} {M : Mem} {K : (Int32 → Mem → Prop)}  (h : (if x0 ≤ x1 then K x1 M else K x0 M)) : CI d μX9_greater [.int x0, .int x1] M K := by
  show Rn d μX9_greater 0 [(0, .int x0), (1, .int x1)] [] M _
  refine rn_iload_n (i := 0) (x := x0) dX9_greater_0 rfl (by simp) ?_
  refine rn_iload_n (i := 1) (x := x1) dX9_greater_1 rfl (by simp) ?_
  refine rn_icmp_le (tgt := 9) dX9_greater_2 (by decide) (ite_go h (fun hc h => ?_) (fun hc h => ?_))
  · refine rn_iload_n (i := 1) (x := x1) dX9_greater_9 rfl (by simp) ?_
    exact rn_iret dX9_greater_10 rfl ⟨_, rfl, h⟩
  · refine rn_iload_n (i := 0) (x := x0) dX9_greater_5 rfl (by simp) ?_
    refine rn_goto (tgt := 10) dX9_greater_6 (by decide) ?_
    exact rn_iret dX9_greater_10 rfl ⟨_, rfl, h⟩
theorem dX9_growth_0 : decode μX9_growth.2.1 0 = .ok (.aload_n 0, 1) := by decide +kernel
theorem dX9_growth_1 : decode μX9_growth.2.1 1 = .ok (.getfield 39, 3) := by decide +kernel
theorem dX9_growth_4 : decode μX9_growth.2.1 4 = .ok (.iconst 0, 1) := by decide +kernel
theorem dX9_growth_5 : decode μX9_growth.2.1 5 = .ok (.aload_n 0, 1) := by decide +kernel
theorem dX9_growth_6 : decode μX9_growth.2.1 6 = .ok (.iload_n 1, 1) := by decide +kernel
theorem dX9_growth_7 : decode μX9_growth.2.1 7 = .ok (.invokevirtual 265, 3) := by decide +kernel
theorem dX9_growth_10 : decode μX9_growth.2.1 10 = .ok (.iastore, 1) := by decide +kernel
theorem dX9_growth_11 : decode μX9_growth.2.1 11 = .ok (.aload_n 0, 1) := by decide +kernel
theorem dX9_growth_12 : decode μX9_growth.2.1 12 = .ok (.getfield 39, 3) := by decide +kernel
theorem dX9_growth_15 : decode μX9_growth.2.1 15 = .ok (.iconst 1, 1) := by decide +kernel
theorem dX9_growth_16 : decode μX9_growth.2.1 16 = .ok (.aload_n 0, 1) := by decide +kernel
theorem dX9_growth_17 : decode μX9_growth.2.1 17 = .ok (.getfield 45, 3) := by decide +kernel
theorem dX9_growth_20 : decode μX9_growth.2.1 20 = .ok (.bipush 14, 2) := by decide +kernel
theorem dX9_growth_22 : decode μX9_growth.2.1 22 = .ok (.iload_n 1, 1) := by decide +kernel
theorem dX9_growth_23 : decode μX9_growth.2.1 23 = .ok (.iadd, 1) := by decide +kernel
theorem dX9_growth_24 : decode μX9_growth.2.1 24 = .ok (.iaload, 1) := by decide +kernel
theorem dX9_growth_25 : decode μX9_growth.2.1 25 = .ok (.iastore, 1) := by decide +kernel
theorem dX9_growth_26 : decode μX9_growth.2.1 26 = .ok (.aload_n 0, 1) := by decide +kernel
theorem dX9_growth_27 : decode μX9_growth.2.1 27 = .ok (.getfield 39, 3) := by decide +kernel
theorem dX9_growth_30 : decode μX9_growth.2.1 30 = .ok (.iconst 2, 1) := by decide +kernel
theorem dX9_growth_31 : decode μX9_growth.2.1 31 = .ok (.aload_n 0, 1) := by decide +kernel
theorem dX9_growth_32 : decode μX9_growth.2.1 32 = .ok (.aload_n 0, 1) := by decide +kernel
theorem dX9_growth_33 : decode μX9_growth.2.1 33 = .ok (.iload_n 1, 1) := by decide +kernel
theorem dX9_growth_34 : decode μX9_growth.2.1 34 = .ok (.invokevirtual 268, 3) := by decide +kernel
theorem dX9_growth_37 : decode μX9_growth.2.1 37 = .ok (.invokevirtual 271, 3) := by decide +kernel
theorem dX9_growth_40 : decode μX9_growth.2.1 40 = .ok (.iastore, 1) := by decide +kernel
theorem dX9_growth_41 : decode μX9_growth.2.1 41 = .ok (.aload_n 0, 1) := by decide +kernel
theorem dX9_growth_42 : decode μX9_growth.2.1 42 = .ok (.getfield 39, 3) := by decide +kernel
theorem dX9_growth_45 : decode μX9_growth.2.1 45 = .ok (.iconst 3, 1) := by decide +kernel
theorem dX9_growth_46 : decode μX9_growth.2.1 46 = .ok (.aload_n 0, 1) := by decide +kernel
theorem dX9_growth_47 : decode μX9_growth.2.1 47 = .ok (.getfield 45, 3) := by decide +kernel
theorem dX9_growth_50 : decode μX9_growth.2.1 50 = .ok (.bipush 13, 2) := by decide +kernel
theorem dX9_growth_52 : decode μX9_growth.2.1 52 = .ok (.iaload, 1) := by decide +kernel
theorem dX9_growth_53 : decode μX9_growth.2.1 53 = .ok (.invokestatic 274, 3) := by decide +kernel
theorem dX9_growth_56 : decode μX9_growth.2.1 56 = .ok (.iastore, 1) := by decide +kernel
theorem dX9_growth_57 : decode μX9_growth.2.1 57 = .ok (.aload_n 0, 1) := by decide +kernel
theorem dX9_growth_58 : decode μX9_growth.2.1 58 = .ok (.getfield 39, 3) := by decide +kernel
theorem dX9_growth_61 : decode μX9_growth.2.1 61 = .ok (.iconst 4, 1) := by decide +kernel
theorem dX9_growth_62 : decode μX9_growth.2.1 62 = .ok (.aload_n 0, 1) := by decide +kernel
theorem dX9_growth_63 : decode μX9_growth.2.1 63 = .ok (.getfield 45, 3) := by decide +kernel
theorem dX9_growth_66 : decode μX9_growth.2.1 66 = .ok (.bipush 22, 2) := by decide +kernel
theorem dX9_growth_68 : decode μX9_growth.2.1 68 = .ok (.iaload, 1) := by decide +kernel
theorem dX9_growth_69 : decode μX9_growth.2.1 69 = .ok (.iastore, 1) := by decide +kernel
theorem dX9_growth_70 : decode μX9_growth.2.1 70 = .ok (.aload_n 0, 1) := by decide +kernel
theorem dX9_growth_71 : decode μX9_growth.2.1 71 = .ok (.getfield 277, 3) := by decide +kernel
theorem dX9_growth_74 : decode μX9_growth.2.1 74 = .ok (.ifCond .ne 19, 3) := by decide +kernel
theorem dX9_growth_77 : decode μX9_growth.2.1 77 = .ok (.aload_n 0, 1) := by decide +kernel
theorem dX9_growth_78 : decode μX9_growth.2.1 78 = .ok (.getfield 39, 3) := by decide +kernel
theorem dX9_growth_81 : decode μX9_growth.2.1 81 = .ok (.iconst 0, 1) := by decide +kernel
theorem dX9_growth_82 : decode μX9_growth.2.1 82 = .ok (.iaload, 1) := by decide +kernel
theorem dX9_growth_83 : decode μX9_growth.2.1 83 = .ok (.iconst 4, 1) := by decide +kernel
theorem dX9_growth_84 : decode μX9_growth.2.1 84 = .ok (.isub, 1) := by decide +kernel
theorem dX9_growth_85 : decode μX9_growth.2.1 85 = .ok (.bipush (-99), 2) := by decide +kernel
theorem dX9_growth_87 : decode μX9_growth.2.1 87 = .ok (.bipush 99, 2) := by decide +kernel
theorem dX9_growth_89 : decode μX9_growth.2.1 89 = .ok (.invokestatic 280, 3) := by decide +kernel
theorem dX9_growth_92 : decode μX9_growth.2.1 92 = .ok (.ireturn, 1) := by decide +kernel
theorem dX9_growth_93 : decode μX9_growth.2.1 93 = .ok (.iconst 0, 1) := by decide +kernel
theorem dX9_growth_94 : decode μX9_growth.2.1 94 = .ok (.istore_n 2, 1) := by decide +kernel
theorem dX9_growth_95 : decode μX9_growth.2.1 95 = .ok (.iconst 0, 1) := by decide +kernel
theorem dX9_growth_96 : decode μX9_growth.2.1 96 = .ok (.istore_n 3, 1) := by decide +kernel
theorem dX9_growth_97 : decode μX9_growth.2.1 97 = .ok (.iload_n 3, 1) := by decide +kernel
theorem dX9_growth_98 : decode μX9_growth.2.1 98 = .ok (.aload_n 0, 1) := by decide +kernel
theorem dX9_growth_99 : decode μX9_growth.2.1 99 = .ok (.getfield 284, 3) := by decide +kernel
theorem dX9_growth_102 : decode μX9_growth.2.1 102 = .ok (.if_icmp .ge 143, 3) := by decide +kernel
theorem dX9_growth_105 : decode μX9_growth.2.1 105 = .ok (.aload_n 0, 1) := by decide +kernel
theorem dX9_growth_106 : decode μX9_growth.2.1 106 = .ok (.getfield 27, 3) := by decide +kernel
theorem dX9_growth_109 : decode μX9_growth.2.1 109 = .ok (.iload_n 3, 1) := by decide +kernel
theorem dX9_growth_110 : decode μX9_growth.2.1 110 = .ok (.iaload, 1) := by decide +kernel
theorem dX9_growth_111 : decode μX9_growth.2.1 111 = .ok (.ifCond .eq 13, 3) := by decide +kernel
theorem dX9_growth_114 : decode μX9_growth.2.1 114 = .ok (.aload_n 0, 1) := by decide +kernel
theorem dX9_growth_115 : decode μX9_growth.2.1 115 = .ok (.getfield 27, 3) := by decide +kernel
theorem dX9_growth_118 : decode μX9_growth.2.1 118 = .ok (.iload_n 3, 1) := by decide +kernel
theorem dX9_growth_119 : decode μX9_growth.2.1 119 = .ok (.iaload, 1) := by decide +kernel
theorem dX9_growth_120 : decode μX9_growth.2.1 120 = .ok (.iconst 1, 1) := by decide +kernel
theorem dX9_growth_121 : decode μX9_growth.2.1 121 = .ok (.if_icmp .ne 44, 3) := by decide +kernel
theorem dX9_growth_124 : decode μX9_growth.2.1 124 = .ok (.aload_n 0, 1) := by decide +kernel
theorem dX9_growth_125 : decode μX9_growth.2.1 125 = .ok (.getfield 36, 3) := by decide +kernel
theorem dX9_growth_128 : decode μX9_growth.2.1 128 = .ok (.iload_n 2, 1) := by decide +kernel
theorem dX9_growth_129 : decode μX9_growth.2.1 129 = .ok (.aload_n 0, 1) := by decide +kernel
theorem dX9_growth_130 : decode μX9_growth.2.1 130 = .ok (.getfield 27, 3) := by decide +kernel
theorem dX9_growth_133 : decode μX9_growth.2.1 133 = .ok (.iload_n 3, 1) := by decide +kernel
theorem dX9_growth_134 : decode μX9_growth.2.1 134 = .ok (.iaload, 1) := by decide +kernel
theorem dX9_growth_135 : decode μX9_growth.2.1 135 = .ok (.ifCond .ne 12, 3) := by decide +kernel
theorem dX9_growth_138 : decode μX9_growth.2.1 138 = .ok (.aload_n 0, 1) := by decide +kernel
theorem dX9_growth_139 : decode μX9_growth.2.1 139 = .ok (.getfield 30, 3) := by decide +kernel
theorem dX9_growth_142 : decode μX9_growth.2.1 142 = .ok (.iload_n 3, 1) := by decide +kernel
theorem dX9_growth_143 : decode μX9_growth.2.1 143 = .ok (.iaload, 1) := by decide +kernel
theorem dX9_growth_144 : decode μX9_growth.2.1 144 = .ok (.goto 14, 3) := by decide +kernel
theorem dX9_growth_147 : decode μX9_growth.2.1 147 = .ok (.aload_n 0, 1) := by decide +kernel
theorem dX9_growth_148 : decode μX9_growth.2.1 148 = .ok (.getfield 39, 3) := by decide +kernel
theorem dX9_growth_151 : decode μX9_growth.2.1 151 = .ok (.aload_n 0, 1) := by decide +kernel
theorem dX9_growth_152 : decode μX9_growth.2.1 152 = .ok (.getfield 30, 3) := by decide +kernel
theorem dX9_growth_155 : decode μX9_growth.2.1 155 = .ok (.iload_n 3, 1) := by decide +kernel
theorem dX9_growth_156 : decode μX9_growth.2.1 156 = .ok (.iaload, 1) := by decide +kernel
theorem dX9_growth_157 : decode μX9_growth.2.1 157 = .ok (.iaload, 1) := by decide +kernel
theorem dX9_growth_158 : decode μX9_growth.2.1 158 = .ok (.iastore, 1) := by decide +kernel
theorem dX9_growth_159 : decode μX9_growth.2.1 159 = .ok (.iinc 2 1, 3) := by decide +kernel
theorem dX9_growth_162 : decode μX9_growth.2.1 162 = .ok (.goto 77, 3) := by decide +kernel
theorem dX9_growth_165 : decode μX9_growth.2.1 165 = .ok (.aload_n 0, 1) := by decide +kernel
theorem dX9_growth_166 : decode μX9_growth.2.1 166 = .ok (.getfield 27, 3) := by decide +kernel
theorem dX9_growth_169 : decode μX9_growth.2.1 169 = .ok (.iload_n 3, 1) := by decide +kernel
theorem dX9_growth_170 : decode μX9_growth.2.1 170 = .ok (.iaload, 1) := by decide +kernel
theorem dX9_growth_171 : decode μX9_growth.2.1 171 = .ok (.iconst 2, 1) := by decide +kernel
theorem dX9_growth_172 : decode μX9_growth.2.1 172 = .ok (.if_icmp .ne 33, 3) := by decide +kernel
theorem dX9_growth_175 : decode μX9_growth.2.1 175 = .ok (.aload_n 0, 1) := by decide +kernel
theorem dX9_growth_176 : decode μX9_growth.2.1 176 = .ok (.getfield 36, 3) := by decide +kernel
theorem dX9_growth_179 : decode μX9_growth.2.1 179 = .ok (.iload_n 2, 1) := by decide +kernel
theorem dX9_growth_180 : decode μX9_growth.2.1 180 = .ok (.iconst 1, 1) := by decide +kernel
theorem dX9_growth_181 : decode μX9_growth.2.1 181 = .ok (.isub, 1) := by decide +kernel
theorem dX9_growth_182 : decode μX9_growth.2.1 182 = .ok (.aload_n 0, 1) := by decide +kernel
theorem dX9_growth_183 : decode μX9_growth.2.1 183 = .ok (.getfield 36, 3) := by decide +kernel
theorem dX9_growth_186 : decode μX9_growth.2.1 186 = .ok (.iload_n 2, 1) := by decide +kernel
theorem dX9_growth_187 : decode μX9_growth.2.1 187 = .ok (.iconst 1, 1) := by decide +kernel
theorem dX9_growth_188 : decode μX9_growth.2.1 188 = .ok (.isub, 1) := by decide +kernel
theorem dX9_growth_189 : decode μX9_growth.2.1 189 = .ok (.iaload, 1) := by decide +kernel
theorem dX9_growth_190 : decode μX9_growth.2.1 190 = .ok (.ifCond .ne 7, 3) := by decide +kernel
theorem dX9_growth_193 : decode μX9_growth.2.1 193 = .ok (.iconst 1, 1) := by decide +kernel
theorem dX9_growth_194 : decode μX9_growth.2.1 194 = .ok (.goto 4, 3) := by decide +kernel
theorem dX9_growth_197 : decode μX9_growth.2.1 197 = .ok (.iconst 0, 1) := by decide +kernel
theorem dX9_growth_198 : decode μX9_growth.2.1 198 = .ok (.invokestatic 261, 3) := by decide +kernel
theorem dX9_growth_201 : decode μX9_growth.2.1 201 = .ok (.iastore, 1) := by decide +kernel
theorem dX9_growth_202 : decode μX9_growth.2.1 202 = .ok (.goto 37, 3) := by decide +kernel
theorem dX9_growth_205 : decode μX9_growth.2.1 205 = .ok (.iinc 2 (-1), 3) := by decide +kernel
theorem dX9_growth_208 : decode μX9_growth.2.1 208 = .ok (.aload_n 0, 1) := by decide +kernel
theorem dX9_growth_209 : decode μX9_growth.2.1 209 = .ok (.getfield 36, 3) := by decide +kernel
theorem dX9_growth_212 : decode μX9_growth.2.1 212 = .ok (.iload_n 2, 1) := by decide +kernel
theorem dX9_growth_213 : decode μX9_growth.2.1 213 = .ok (.iconst 1, 1) := by decide +kernel
theorem dX9_growth_214 : decode μX9_growth.2.1 214 = .ok (.isub, 1) := by decide +kernel
theorem dX9_growth_215 : decode μX9_growth.2.1 215 = .ok (.aload_n 0, 1) := by decide +kernel
theorem dX9_growth_216 : decode μX9_growth.2.1 216 = .ok (.getfield 30, 3) := by decide +kernel
theorem dX9_growth_219 : decode μX9_growth.2.1 219 = .ok (.iload_n 3, 1) := by decide +kernel
theorem dX9_growth_220 : decode μX9_growth.2.1 220 = .ok (.iaload, 1) := by decide +kernel
theorem dX9_growth_221 : decode μX9_growth.2.1 221 = .ok (.aload_n 0, 1) := by decide +kernel
theorem dX9_growth_222 : decode μX9_growth.2.1 222 = .ok (.getfield 36, 3) := by decide +kernel
theorem dX9_growth_225 : decode μX9_growth.2.1 225 = .ok (.iload_n 2, 1) := by decide +kernel
theorem dX9_growth_226 : decode μX9_growth.2.1 226 = .ok (.iconst 1, 1) := by decide +kernel
theorem dX9_growth_227 : decode μX9_growth.2.1 227 = .ok (.isub, 1) := by decide +kernel
theorem dX9_growth_228 : decode μX9_growth.2.1 228 = .ok (.iaload, 1) := by decide +kernel
theorem dX9_growth_229 : decode μX9_growth.2.1 229 = .ok (.aload_n 0, 1) := by decide +kernel
theorem dX9_growth_230 : decode μX9_growth.2.1 230 = .ok (.getfield 36, 3) := by decide +kernel
theorem dX9_growth_233 : decode μX9_growth.2.1 233 = .ok (.iload_n 2, 1) := by decide +kernel
theorem dX9_growth_234 : decode μX9_growth.2.1 234 = .ok (.iaload, 1) := by decide +kernel
theorem dX9_growth_235 : decode μX9_growth.2.1 235 = .ok (.invokestatic 287, 3) := by decide +kernel
theorem dX9_growth_238 : decode μX9_growth.2.1 238 = .ok (.iastore, 1) := by decide +kernel
theorem dX9_growth_239 : decode μX9_growth.2.1 239 = .ok (.iinc 3 1, 3) := by decide +kernel
theorem dX9_growth_242 : decode μX9_growth.2.1 242 = .ok (.goto (-145), 3) := by decide +kernel
theorem dX9_growth_245 : decode μX9_growth.2.1 245 = .ok (.aload_n 0, 1) := by decide +kernel
theorem dX9_growth_246 : decode μX9_growth.2.1 246 = .ok (.getfield 36, 3) := by decide +kernel
theorem dX9_growth_249 : decode μX9_growth.2.1 249 = .ok (.iconst 0, 1) := by decide +kernel
theorem dX9_growth_250 : decode μX9_growth.2.1 250 = .ok (.iaload, 1) := by decide +kernel
theorem dX9_growth_251 : decode μX9_growth.2.1 251 = .ok (.bipush (-99), 2) := by decide +kernel
theorem dX9_growth_253 : decode μX9_growth.2.1 253 = .ok (.bipush 99, 2) := by decide +kernel
theorem dX9_growth_255 : decode μX9_growth.2.1 255 = .ok (.invokestatic 280, 3) := by decide +kernel
theorem dX9_growth_258 : decode μX9_growth.2.1 258 = .ok (.ireturn, 1) := by decide +kernel
set_option maxRecDepth 20000 in
theorem sg_X9_growth_0 {d : Nat} {x1 : Int32} {M : Mem} {K : (Int32 → Mem → Prop)}  (h : (CI d μX9_sidesOf [.ref 58, .int x1] M (fun r2 M1 => (∀ M3, M3 = wi M1 67 (nx 0) r2 → (vp_in (14 + x1) 24 ∧ (∀ M4, M4 = wi M3 67 (nx 1) (ri M3 69 (nx (14 + x1))) → (CI d μX9_bordersOf [.ref 58, .int x1] M4 (fun r6 M5 => (CI d μX9_sizesOf [.ref 58, .int r6] M5 (fun r8 M7 => (∀ M9, M9 = wi M7 67 (nx 2) r8 → (CI d μX9_members [.int (ri M9 69 (nx 13))] M9 (fun r11 M10 => (∀ M12, M12 = wi M10 67 (nx 3) r11 → (∀ M13, M13 = wi M12 67 (nx 4) (ri M12 69 (nx 22)) → (if ri M13 58 25 = 0 then (CI d μX9_within [.int ((ri M13 67 (nx 0)) - 4), .int ((-99)), .int 99] M13 (fun r15 M14 => K r15 M14)) else RI (d + 1) μX9_growth 97 [(0, .ref 58), (1, .int x1), (2, .int 0), (3, .int 0)] [] M13 K)))))))))))))))) : CI (d + 1) μX9_growth [.ref 58, .int x1] M K := by
  show Rn (d + 1) μX9_growth 0 [(0, .ref 58), (1, .int x1)] [] M _
  refine rn_aload_n (i := 0) (x := 58) dX9_growth_0 rfl (by simp) ?_
  refine rn_getr (t := 67) dX9_growth_1 rfl gf_X9_39 rfl rfl ?_
  refine rn_iconst (v := 0) dX9_growth_4 rfl ?_
  refine rn_aload_n (i := 0) (x := 58) dX9_growth_5 rfl (by simp) ?_
  refine rn_iload_n (i := 1) (x := x1) dX9_growth_6 rfl (by simp) ?_
  refine rn_callVi (as := [.int x1]) (st := [.int 0, .ref 67]) dX9_growth_7 mf_X9_sidesOf lk_X9_265 im_X9_sidesOf rfl rfl rfl rfl (Nat.le_of_ble_eq_true rfl) (Nat.le_of_ble_eq_true rfl) rfl (RI.mono h (fun r2 M1 h => ?_))
  have h := h _ rfl
  refine rn_iastore dX9_growth_10 rfl (by unfold vp_in; decide) ?_
  generalize wi M1 67 (nx 0) r2 = M3 at h ⊢
  refine rn_aload_n (i := 0) (x := 58) dX9_growth_11 rfl (by simp) ?_
  refine rn_getr (t := 67) dX9_growth_12 rfl gf_X9_39 rfl rfl ?_
  refine rn_iconst (v := 1) dX9_growth_15 rfl ?_
  refine rn_aload_n (i := 0) (x := 58) dX9_growth_16 rfl (by simp) ?_
  refine rn_getr (t := 69) dX9_growth_17 rfl gf_X9_45 rfl rfl ?_
  refine rn_bipush (v := 14) dX9_growth_20 rfl ?_
  refine rn_iload_n (i := 1) (x := x1) dX9_growth_22 rfl (by simp) ?_
  refine rn_iadd dX9_growth_23 ?_
  obtain ⟨hi, h⟩ := h
  refine rn_iaload dX9_growth_24 rfl hi ?_
  have h := h _ rfl
  refine rn_iastore dX9_growth_25 rfl (by unfold vp_in; decide) ?_
  generalize wi M3 67 (nx 1) (ri M3 69 (nx (14 + x1))) = M4 at h ⊢
  refine rn_aload_n (i := 0) (x := 58) dX9_growth_26 rfl (by simp) ?_
  refine rn_getr (t := 67) dX9_growth_27 rfl gf_X9_39 rfl rfl ?_
  refine rn_iconst (v := 2) dX9_growth_30 rfl ?_
  refine rn_aload_n (i := 0) (x := 58) dX9_growth_31 rfl (by simp) ?_
  refine rn_aload_n (i := 0) (x := 58) dX9_growth_32 rfl (by simp) ?_
  refine rn_iload_n (i := 1) (x := x1) dX9_growth_33 rfl (by simp) ?_
  refine rn_callVi (as := [.int x1]) (st := [.ref 58, .int 2, .ref 67]) dX9_growth_34 mf_X9_bordersOf lk_X9_268 im_X9_bordersOf rfl rfl rfl rfl (Nat.le_of_ble_eq_true rfl) (Nat.le_of_ble_eq_true rfl) rfl (RI.mono h (fun r6 M5 h => ?_))
  refine rn_callVi (as := [.int r6]) (st := [.int 2, .ref 67]) dX9_growth_37 mf_X9_sizesOf lk_X9_271 im_X9_sizesOf rfl rfl rfl rfl (Nat.le_of_ble_eq_true rfl) (Nat.le_of_ble_eq_true rfl) rfl (RI.mono h (fun r8 M7 h => ?_))
  have h := h _ rfl
  refine rn_iastore dX9_growth_40 rfl (by unfold vp_in; decide) ?_
  generalize wi M7 67 (nx 2) r8 = M9 at h ⊢
  refine rn_aload_n (i := 0) (x := 58) dX9_growth_41 rfl (by simp) ?_
  refine rn_getr (t := 67) dX9_growth_42 rfl gf_X9_39 rfl rfl ?_
  refine rn_iconst (v := 3) dX9_growth_45 rfl ?_
  refine rn_aload_n (i := 0) (x := 58) dX9_growth_46 rfl (by simp) ?_
  refine rn_getr (t := 69) dX9_growth_47 rfl gf_X9_45 rfl rfl ?_
  refine rn_bipush (v := 13) dX9_growth_50 rfl ?_
  refine rn_iaload dX9_growth_52 rfl (by unfold vp_in; decide) ?_
  refine rn_callSi (as := [.int (ri M9 69 (nx 13))]) (st := [.int 3, .ref 67]) dX9_growth_53 mf_X9_members lk_X9_274 sm_X9_members rfl (Nat.le_of_ble_eq_true rfl) (Nat.le_of_ble_eq_true rfl) rfl (RI.mono h (fun r11 M10 h => ?_))
  have h := h _ rfl
  refine rn_iastore dX9_growth_56 rfl (by unfold vp_in; decide) ?_
  generalize wi M10 67 (nx 3) r11 = M12 at h ⊢
  refine rn_aload_n (i := 0) (x := 58) dX9_growth_57 rfl (by simp) ?_
  refine rn_getr (t := 67) dX9_growth_58 rfl gf_X9_39 rfl rfl ?_
  refine rn_iconst (v := 4) dX9_growth_61 rfl ?_
  refine rn_aload_n (i := 0) (x := 58) dX9_growth_62 rfl (by simp) ?_
  refine rn_getr (t := 69) dX9_growth_63 rfl gf_X9_45 rfl rfl ?_
  refine rn_bipush (v := 22) dX9_growth_66 rfl ?_
  refine rn_iaload dX9_growth_68 rfl (by unfold vp_in; decide) ?_
  have h := h _ rfl
  refine rn_iastore dX9_growth_69 rfl (by unfold vp_in; decide) ?_
  generalize wi M12 67 (nx 4) (ri M12 69 (nx 22)) = M13 at h ⊢
  refine rn_aload_n (i := 0) (x := 58) dX9_growth_70 rfl (by simp) ?_
  refine rn_geti dX9_growth_71 rfl gf_X9_277 (by decide) ?_
  refine rn_if_ne (tgt := 93) dX9_growth_74 (by decide) (ite_go h (fun hc h => ?_) (fun hc h => ?_))
  · refine rn_aload_n (i := 0) (x := 58) dX9_growth_77 rfl (by simp) ?_
    refine rn_getr (t := 67) dX9_growth_78 rfl gf_X9_39 rfl rfl ?_
    refine rn_iconst (v := 0) dX9_growth_81 rfl ?_
    refine rn_iaload dX9_growth_82 rfl (by unfold vp_in; decide) ?_
    refine rn_iconst (v := 4) dX9_growth_83 rfl ?_
    refine rn_isub dX9_growth_84 ?_
    refine rn_bipush (v := -99) dX9_growth_85 rfl ?_
    refine rn_bipush (v := 99) dX9_growth_87 rfl ?_
    refine rn_callSi (as := [.int ((ri M13 67 (nx 0)) - 4), .int ((-99)), .int 99]) (st := []) dX9_growth_89 mf_X9_within lk_X9_280 sm_X9_within rfl (Nat.le_of_ble_eq_true rfl) (Nat.le_of_ble_eq_true rfl) rfl (RI.mono h (fun r15 M14 h => ?_))
    exact rn_iret dX9_growth_92 rfl ⟨_, rfl, h⟩
  · refine rn_iconst (v := 0) dX9_growth_93 rfl ?_
    refine rn_istore_n (lv' := [(0, .ref 58), (1, .int x1), (2, .int 0)]) (hd := dX9_growth_94) (i := 2) (hi := rfl) (hn := by decide) (hf := rfl) (hl := rfl) ?_
    refine rn_iconst (v := 0) dX9_growth_95 rfl ?_
    refine rn_istore_n (lv' := [(0, .ref 58), (1, .int x1), (2, .int 0), (3, .int 0)]) (hd := dX9_growth_96) (i := 3) (hi := rfl) (hn := by decide) (hf := rfl) (hl := rfl) ?_
    exact h
set_option maxRecDepth 20000 in
theorem sg_X9_growth_97 {d : Nat} {x1 : Int32} {x2 : Int32} {x3 : Int32} {M : Mem} {K : (Int32 → Mem → Prop)}  (h : (if ri M 58 18 ≤ x3 then (CI d μX9_within [.int (ri M 66 (nx 0)), .int ((-99)), .int 99] M (fun r2 M1 => K r2 M1)) else (vp_in x3 320 ∧ (if ri M 63 (nx x3) = 0 then RI (d + 1) μX9_growth 124 [(0, .ref 58), (1, .int x1), (2, .int x2), (3, .int x3)] [] M K else (vp_in x3 320 ∧ (if ri M 63 (nx x3) = 1 then RI (d + 1) μX9_growth 124 [(0, .ref 58), (1, .int x1), (2, .int x2), (3, .int x3)] [] M K else (vp_in x3 320 ∧ (if ri M 63 (nx x3) = 2 then (vp_in (x2 - 1) 64 ∧ (if ri M 66 (nx (x2 - 1)) = 0 then (CI d μX9_truth [.int 1] M (fun r4 M3 => (vp_in (x2 - 1) 64 ∧ ∀ M5, M5 = wi M3 66 (nx (x2 - 1)) r4 → RI (d + 1) μX9_growth 97 [(0, .ref 58), (1, .int x1), (2, .int x2), (3, .int (x3 + 1))] [] M5 K))) else (CI d μX9_truth [.int 0] M (fun r7 M6 => (vp_in (x2 - 1) 64 ∧ ∀ M8, M8 = wi M6 66 (nx (x2 - 1)) r7 → RI (d + 1) μX9_growth 97 [(0, .ref 58), (1, .int x1), (2, .int x2), (3, .int (x3 + 1))] [] M8 K))))) else (vp_in x3 320 ∧ (vp_in ((x2 + (-1)) - 1) 64 ∧ (vp_in (x2 + (-1)) 64 ∧ (CI d μX9_done [.int (ri M 64 (nx x3)), .int (ri M 66 (nx ((x2 + (-1)) - 1))), .int (ri M 66 (nx (x2 + (-1))))] M (fun r10 M9 => (vp_in ((x2 + (-1)) - 1) 64 ∧ ∀ M11, M11 = wi M9 66 (nx ((x2 + (-1)) - 1)) r10 → RI (d + 1) μX9_growth 97 [(0, .ref 58), (1, .int x1), (2, .int (x2 + (-1))), (3, .int (x3 + 1))] [] M11 K)))))))))))))) : RI (d + 1) μX9_growth 97 [(0, .ref 58), (1, .int x1), (2, .int x2), (3, .int x3)] [] M K := by
  show Rn (d + 1) μX9_growth 97 [(0, .ref 58), (1, .int x1), (2, .int x2), (3, .int x3)] [] M _
  refine rn_iload_n (i := 3) (x := x3) dX9_growth_97 rfl (by simp) ?_
  refine rn_aload_n (i := 0) (x := 58) dX9_growth_98 rfl (by simp) ?_
  refine rn_geti dX9_growth_99 rfl gf_X9_284 (by decide) ?_
  refine rn_icmp_ge (tgt := 245) dX9_growth_102 (by decide) (ite_go h (fun hc h => ?_) (fun hc h => ?_))
  · refine rn_aload_n (i := 0) (x := 58) dX9_growth_245 rfl (by simp) ?_
    refine rn_getr (t := 66) dX9_growth_246 rfl gf_X9_36 rfl rfl ?_
    refine rn_iconst (v := 0) dX9_growth_249 rfl ?_
    refine rn_iaload dX9_growth_250 rfl (by unfold vp_in; decide) ?_
    refine rn_bipush (v := -99) dX9_growth_251 rfl ?_
    refine rn_bipush (v := 99) dX9_growth_253 rfl ?_
    refine rn_callSi (as := [.int (ri M 66 (nx 0)), .int ((-99)), .int 99]) (st := []) dX9_growth_255 mf_X9_within lk_X9_280 sm_X9_within rfl (Nat.le_of_ble_eq_true rfl) (Nat.le_of_ble_eq_true rfl) rfl (RI.mono h (fun r2 M1 h => ?_))
    exact rn_iret dX9_growth_258 rfl ⟨_, rfl, h⟩
  · refine rn_aload_n (i := 0) (x := 58) dX9_growth_105 rfl (by simp) ?_
    refine rn_getr (t := 63) dX9_growth_106 rfl gf_X9_27 rfl rfl ?_
    refine rn_iload_n (i := 3) (x := x3) dX9_growth_109 rfl (by simp) ?_
    obtain ⟨hi, h⟩ := h
    refine rn_iaload dX9_growth_110 rfl hi ?_
    refine rn_if_eq (tgt := 124) dX9_growth_111 (by decide) (ite_go h (fun hc h => ?_) (fun hc h => ?_))
    · exact h
    · refine rn_aload_n (i := 0) (x := 58) dX9_growth_114 rfl (by simp) ?_
      refine rn_getr (t := 63) dX9_growth_115 rfl gf_X9_27 rfl rfl ?_
      refine rn_iload_n (i := 3) (x := x3) dX9_growth_118 rfl (by simp) ?_
      obtain ⟨hi, h⟩ := h
      refine rn_iaload dX9_growth_119 rfl hi ?_
      refine rn_iconst (v := 1) dX9_growth_120 rfl ?_
      refine rn_icmp_ne (tgt := 165) dX9_growth_121 (by decide) (ite_go h (fun hc h => ?_) (fun hc h => ?_))
      · exact h
      · refine rn_aload_n (i := 0) (x := 58) dX9_growth_165 rfl (by simp) ?_
        refine rn_getr (t := 63) dX9_growth_166 rfl gf_X9_27 rfl rfl ?_
        refine rn_iload_n (i := 3) (x := x3) dX9_growth_169 rfl (by simp) ?_
        obtain ⟨hi, h⟩ := h
        refine rn_iaload dX9_growth_170 rfl hi ?_
        refine rn_iconst (v := 2) dX9_growth_171 rfl ?_
        refine rn_icmp_ne (tgt := 205) dX9_growth_172 (by decide) (ite_go h (fun hc h => ?_) (fun hc h => ?_))
        · refine rn_aload_n (i := 0) (x := 58) dX9_growth_175 rfl (by simp) ?_
          refine rn_getr (t := 66) dX9_growth_176 rfl gf_X9_36 rfl rfl ?_
          refine rn_iload_n (i := 2) (x := x2) dX9_growth_179 rfl (by simp) ?_
          refine rn_iconst (v := 1) dX9_growth_180 rfl ?_
          refine rn_isub dX9_growth_181 ?_
          refine rn_aload_n (i := 0) (x := 58) dX9_growth_182 rfl (by simp) ?_
          refine rn_getr (t := 66) dX9_growth_183 rfl gf_X9_36 rfl rfl ?_
          refine rn_iload_n (i := 2) (x := x2) dX9_growth_186 rfl (by simp) ?_
          refine rn_iconst (v := 1) dX9_growth_187 rfl ?_
          refine rn_isub dX9_growth_188 ?_
          obtain ⟨hi, h⟩ := h
          refine rn_iaload dX9_growth_189 rfl hi ?_
          refine rn_if_ne (tgt := 197) dX9_growth_190 (by decide) (ite_go h (fun hc h => ?_) (fun hc h => ?_))
          · refine rn_iconst (v := 1) dX9_growth_193 rfl ?_
            refine rn_goto (tgt := 198) dX9_growth_194 (by decide) ?_
            refine rn_callSi (as := [.int 1]) (st := [.int (x2 - 1), .ref 66]) dX9_growth_198 mf_X9_truth lk_X9_261 sm_X9_truth rfl (Nat.le_of_ble_eq_true rfl) (Nat.le_of_ble_eq_true rfl) rfl (RI.mono h (fun r4 M3 h => ?_))
            obtain ⟨hi, h⟩ := h
            have h := h _ rfl
            refine rn_iastore dX9_growth_201 rfl hi ?_
            generalize wi M3 66 (nx (x2 - 1)) r4 = M5 at h ⊢
            refine rn_goto (tgt := 239) dX9_growth_202 (by decide) ?_
            refine rn_iinc (x := x3) (v := x3 + 1) (lv' := [(0, .ref 58), (1, .int x1), (2, .int x2), (3, .int (x3 + 1))]) dX9_growth_239 (by simp) rfl (by decide) rfl rfl ?_
            refine rn_goto (tgt := 97) dX9_growth_242 (by decide) ?_
            exact h
          · refine rn_iconst (v := 0) dX9_growth_197 rfl ?_
            refine rn_callSi (as := [.int 0]) (st := [.int (x2 - 1), .ref 66]) dX9_growth_198 mf_X9_truth lk_X9_261 sm_X9_truth rfl (Nat.le_of_ble_eq_true rfl) (Nat.le_of_ble_eq_true rfl) rfl (RI.mono h (fun r7 M6 h => ?_))
            obtain ⟨hi, h⟩ := h
            have h := h _ rfl
            refine rn_iastore dX9_growth_201 rfl hi ?_
            generalize wi M6 66 (nx (x2 - 1)) r7 = M8 at h ⊢
            refine rn_goto (tgt := 239) dX9_growth_202 (by decide) ?_
            refine rn_iinc (x := x3) (v := x3 + 1) (lv' := [(0, .ref 58), (1, .int x1), (2, .int x2), (3, .int (x3 + 1))]) dX9_growth_239 (by simp) rfl (by decide) rfl rfl ?_
            refine rn_goto (tgt := 97) dX9_growth_242 (by decide) ?_
            exact h
        · refine rn_iinc (x := x2) (v := x2 + (-1)) (lv' := [(0, .ref 58), (1, .int x1), (2, .int (x2 + (-1))), (3, .int x3)]) dX9_growth_205 (by simp) rfl (by decide) rfl rfl ?_
          refine rn_aload_n (i := 0) (x := 58) dX9_growth_208 rfl (by simp) ?_
          refine rn_getr (t := 66) dX9_growth_209 rfl gf_X9_36 rfl rfl ?_
          refine rn_iload_n (i := 2) (x := x2 + (-1)) dX9_growth_212 rfl (by simp) ?_
          refine rn_iconst (v := 1) dX9_growth_213 rfl ?_
          refine rn_isub dX9_growth_214 ?_
          refine rn_aload_n (i := 0) (x := 58) dX9_growth_215 rfl (by simp) ?_
          refine rn_getr (t := 64) dX9_growth_216 rfl gf_X9_30 rfl rfl ?_
          refine rn_iload_n (i := 3) (x := x3) dX9_growth_219 rfl (by simp) ?_
          obtain ⟨hi, h⟩ := h
          refine rn_iaload dX9_growth_220 rfl hi ?_
          refine rn_aload_n (i := 0) (x := 58) dX9_growth_221 rfl (by simp) ?_
          refine rn_getr (t := 66) dX9_growth_222 rfl gf_X9_36 rfl rfl ?_
          refine rn_iload_n (i := 2) (x := x2 + (-1)) dX9_growth_225 rfl (by simp) ?_
          refine rn_iconst (v := 1) dX9_growth_226 rfl ?_
          refine rn_isub dX9_growth_227 ?_
          obtain ⟨hi, h⟩ := h
          refine rn_iaload dX9_growth_228 rfl hi ?_
          refine rn_aload_n (i := 0) (x := 58) dX9_growth_229 rfl (by simp) ?_
          refine rn_getr (t := 66) dX9_growth_230 rfl gf_X9_36 rfl rfl ?_
          refine rn_iload_n (i := 2) (x := x2 + (-1)) dX9_growth_233 rfl (by simp) ?_
          obtain ⟨hi, h⟩ := h
          refine rn_iaload dX9_growth_234 rfl hi ?_
          refine rn_callSi (as := [.int (ri M 64 (nx x3)), .int (ri M 66 (nx ((x2 + (-1)) - 1))), .int (ri M 66 (nx (x2 + (-1))))]) (st := [.int ((x2 + (-1)) - 1), .ref 66]) dX9_growth_235 mf_X9_done lk_X9_287 sm_X9_done rfl (Nat.le_of_ble_eq_true rfl) (Nat.le_of_ble_eq_true rfl) rfl (RI.mono h (fun r10 M9 h => ?_))
          obtain ⟨hi, h⟩ := h
          have h := h _ rfl
          refine rn_iastore dX9_growth_238 rfl hi ?_
          generalize wi M9 66 (nx ((x2 + (-1)) - 1)) r10 = M11 at h ⊢
          refine rn_iinc (x := x3) (v := x3 + 1) (lv' := [(0, .ref 58), (1, .int x1), (2, .int (x2 + (-1))), (3, .int (x3 + 1))]) dX9_growth_239 (by simp) rfl (by decide) rfl rfl ?_
          refine rn_goto (tgt := 97) dX9_growth_242 (by decide) ?_
          exact h
set_option maxRecDepth 20000 in
theorem sg_X9_growth_124 {d : Nat} {x1 : Int32} {x2 : Int32} {x3 : Int32} {M : Mem} {K : (Int32 → Mem → Prop)}  (h : (vp_in x3 320 ∧ (if ri M 63 (nx x3) = 0 then (vp_in x3 320 ∧ (vp_in x2 64 ∧ ∀ M1, M1 = wi M 66 (nx x2) (ri M 64 (nx x3)) → RI (d + 1) μX9_growth 97 [(0, .ref 58), (1, .int x1), (2, .int (x2 + 1)), (3, .int (x3 + 1))] [] M1 K)) else (vp_in x3 320 ∧ (vp_in (ri M 64 (nx x3)) 5 ∧ (vp_in x2 64 ∧ ∀ M2, M2 = wi M 66 (nx x2) (ri M 67 (nx (ri M 64 (nx x3)))) → RI (d + 1) μX9_growth 97 [(0, .ref 58), (1, .int x1), (2, .int (x2 + 1)), (3, .int (x3 + 1))] [] M2 K)))))) : RI (d + 1) μX9_growth 124 [(0, .ref 58), (1, .int x1), (2, .int x2), (3, .int x3)] [] M K := by
  show Rn (d + 1) μX9_growth 124 [(0, .ref 58), (1, .int x1), (2, .int x2), (3, .int x3)] [] M _
  refine rn_aload_n (i := 0) (x := 58) dX9_growth_124 rfl (by simp) ?_
  refine rn_getr (t := 66) dX9_growth_125 rfl gf_X9_36 rfl rfl ?_
  refine rn_iload_n (i := 2) (x := x2) dX9_growth_128 rfl (by simp) ?_
  refine rn_aload_n (i := 0) (x := 58) dX9_growth_129 rfl (by simp) ?_
  refine rn_getr (t := 63) dX9_growth_130 rfl gf_X9_27 rfl rfl ?_
  refine rn_iload_n (i := 3) (x := x3) dX9_growth_133 rfl (by simp) ?_
  obtain ⟨hi, h⟩ := h
  refine rn_iaload dX9_growth_134 rfl hi ?_
  refine rn_if_ne (tgt := 147) dX9_growth_135 (by decide) (ite_go h (fun hc h => ?_) (fun hc h => ?_))
  · refine rn_aload_n (i := 0) (x := 58) dX9_growth_138 rfl (by simp) ?_
    refine rn_getr (t := 64) dX9_growth_139 rfl gf_X9_30 rfl rfl ?_
    refine rn_iload_n (i := 3) (x := x3) dX9_growth_142 rfl (by simp) ?_
    obtain ⟨hi, h⟩ := h
    refine rn_iaload dX9_growth_143 rfl hi ?_
    refine rn_goto (tgt := 158) dX9_growth_144 (by decide) ?_
    obtain ⟨hi, h⟩ := h
    have h := h _ rfl
    refine rn_iastore dX9_growth_158 rfl hi ?_
    generalize wi M 66 (nx x2) (ri M 64 (nx x3)) = M1 at h ⊢
    refine rn_iinc (x := x2) (v := x2 + 1) (lv' := [(0, .ref 58), (1, .int x1), (2, .int (x2 + 1)), (3, .int x3)]) dX9_growth_159 (by simp) rfl (by decide) rfl rfl ?_
    refine rn_goto (tgt := 239) dX9_growth_162 (by decide) ?_
    refine rn_iinc (x := x3) (v := x3 + 1) (lv' := [(0, .ref 58), (1, .int x1), (2, .int (x2 + 1)), (3, .int (x3 + 1))]) dX9_growth_239 (by simp) rfl (by decide) rfl rfl ?_
    refine rn_goto (tgt := 97) dX9_growth_242 (by decide) ?_
    exact h
  · refine rn_aload_n (i := 0) (x := 58) dX9_growth_147 rfl (by simp) ?_
    refine rn_getr (t := 67) dX9_growth_148 rfl gf_X9_39 rfl rfl ?_
    refine rn_aload_n (i := 0) (x := 58) dX9_growth_151 rfl (by simp) ?_
    refine rn_getr (t := 64) dX9_growth_152 rfl gf_X9_30 rfl rfl ?_
    refine rn_iload_n (i := 3) (x := x3) dX9_growth_155 rfl (by simp) ?_
    obtain ⟨hi, h⟩ := h
    refine rn_iaload dX9_growth_156 rfl hi ?_
    obtain ⟨hi, h⟩ := h
    refine rn_iaload dX9_growth_157 rfl hi ?_
    obtain ⟨hi, h⟩ := h
    have h := h _ rfl
    refine rn_iastore dX9_growth_158 rfl hi ?_
    generalize wi M 66 (nx x2) (ri M 67 (nx (ri M 64 (nx x3)))) = M2 at h ⊢
    refine rn_iinc (x := x2) (v := x2 + 1) (lv' := [(0, .ref 58), (1, .int x1), (2, .int (x2 + 1)), (3, .int x3)]) dX9_growth_159 (by simp) rfl (by decide) rfl rfl ?_
    refine rn_goto (tgt := 239) dX9_growth_162 (by decide) ?_
    refine rn_iinc (x := x3) (v := x3 + 1) (lv' := [(0, .ref 58), (1, .int x1), (2, .int (x2 + 1)), (3, .int (x3 + 1))]) dX9_growth_239 (by simp) rfl (by decide) rfl rfl ?_
    refine rn_goto (tgt := 97) dX9_growth_242 (by decide) ?_
    exact h
theorem dX9_fill_0 : decode μX9_fill.2.1 0 = .ok (.iconst 0, 1) := by decide +kernel
theorem dX9_fill_1 : decode μX9_fill.2.1 1 = .ok (.istore_n 1, 1) := by decide +kernel
theorem dX9_fill_2 : decode μX9_fill.2.1 2 = .ok (.iload_n 1, 1) := by decide +kernel
theorem dX9_fill_3 : decode μX9_fill.2.1 3 = .ok (.bipush 24, 2) := by decide +kernel
theorem dX9_fill_5 : decode μX9_fill.2.1 5 = .ok (.if_icmp .ge 21, 3) := by decide +kernel
theorem dX9_fill_8 : decode μX9_fill.2.1 8 = .ok (.aload_n 0, 1) := by decide +kernel
theorem dX9_fill_9 : decode μX9_fill.2.1 9 = .ok (.getfield 45, 3) := by decide +kernel
theorem dX9_fill_12 : decode μX9_fill.2.1 12 = .ok (.iload_n 1, 1) := by decide +kernel
theorem dX9_fill_13 : decode μX9_fill.2.1 13 = .ok (.aload_n 0, 1) := by decide +kernel
theorem dX9_fill_14 : decode μX9_fill.2.1 14 = .ok (.getfield 42, 3) := by decide +kernel
theorem dX9_fill_17 : decode μX9_fill.2.1 17 = .ok (.iload_n 1, 1) := by decide +kernel
theorem dX9_fill_18 : decode μX9_fill.2.1 18 = .ok (.iaload, 1) := by decide +kernel
theorem dX9_fill_19 : decode μX9_fill.2.1 19 = .ok (.iastore, 1) := by decide +kernel
theorem dX9_fill_20 : decode μX9_fill.2.1 20 = .ok (.iinc 1 1, 3) := by decide +kernel
theorem dX9_fill_23 : decode μX9_fill.2.1 23 = .ok (.goto (-21), 3) := by decide +kernel
theorem dX9_fill_26 : decode μX9_fill.2.1 26 = .ok (.return_, 1) := by decide +kernel
set_option maxRecDepth 20000 in
theorem sg_X9_fill_0 {d : Nat}  {M : Mem} {K : (Mem → Prop)}  (h : RV d μX9_fill 2 [(0, .ref 58), (1, .int 0)] [] M K) : CV d μX9_fill [.ref 58] M K := by
  show Rn d μX9_fill 0 [(0, .ref 58)] [] M _
  refine rn_iconst (v := 0) dX9_fill_0 rfl ?_
  refine rn_istore_n (lv' := [(0, .ref 58), (1, .int 0)]) (hd := dX9_fill_1) (i := 1) (hi := rfl) (hn := by decide) (hf := rfl) (hl := rfl) ?_
  exact h
set_option maxRecDepth 20000 in
theorem sg_X9_fill_2 {d : Nat} {x1 : Int32} {M : Mem} {K : (Mem → Prop)}  (h : (if 24 ≤ x1 then K M else (vp_in x1 24 ∧ (vp_in x1 24 ∧ ∀ M1, M1 = wi M 69 (nx x1) (ri M 68 (nx x1)) → RV d μX9_fill 2 [(0, .ref 58), (1, .int (x1 + 1))] [] M1 K)))) : RV d μX9_fill 2 [(0, .ref 58), (1, .int x1)] [] M K := by
  show Rn d μX9_fill 2 [(0, .ref 58), (1, .int x1)] [] M _
  refine rn_iload_n (i := 1) (x := x1) dX9_fill_2 rfl (by simp) ?_
  refine rn_bipush (v := 24) dX9_fill_3 rfl ?_
  refine rn_icmp_ge (tgt := 26) dX9_fill_5 (by decide) (ite_go h (fun hc h => ?_) (fun hc h => ?_))
  · exact rn_ret dX9_fill_26 rfl ⟨rfl, h⟩
  · refine rn_aload_n (i := 0) (x := 58) dX9_fill_8 rfl (by simp) ?_
    refine rn_getr (t := 69) dX9_fill_9 rfl gf_X9_45 rfl rfl ?_
    refine rn_iload_n (i := 1) (x := x1) dX9_fill_12 rfl (by simp) ?_
    refine rn_aload_n (i := 0) (x := 58) dX9_fill_13 rfl (by simp) ?_
    refine rn_getr (t := 68) dX9_fill_14 rfl gf_X9_42 rfl rfl ?_
    refine rn_iload_n (i := 1) (x := x1) dX9_fill_17 rfl (by simp) ?_
    obtain ⟨hi, h⟩ := h
    refine rn_iaload dX9_fill_18 rfl hi ?_
    obtain ⟨hi, h⟩ := h
    have h := h _ rfl
    refine rn_iastore dX9_fill_19 rfl hi ?_
    generalize wi M 69 (nx x1) (ri M 68 (nx x1)) = M1 at h ⊢
    refine rn_iinc (x := x1) (v := x1 + 1) (lv' := [(0, .ref 58), (1, .int (x1 + 1))]) dX9_fill_20 (by simp) rfl (by decide) rfl rfl ?_
    refine rn_goto (tgt := 2) dX9_fill_23 (by decide) ?_
    exact h
theorem dX9_keepAir_0 : decode μX9_keepAir.2.1 0 = .ok (.iconst 0, 1) := by decide +kernel
theorem dX9_keepAir_1 : decode μX9_keepAir.2.1 1 = .ok (.istore_n 1, 1) := by decide +kernel
theorem dX9_keepAir_2 : decode μX9_keepAir.2.1 2 = .ok (.iload_n 1, 1) := by decide +kernel
theorem dX9_keepAir_3 : decode μX9_keepAir.2.1 3 = .ok (.bipush 24, 2) := by decide +kernel
theorem dX9_keepAir_5 : decode μX9_keepAir.2.1 5 = .ok (.if_icmp .ge 21, 3) := by decide +kernel
theorem dX9_keepAir_8 : decode μX9_keepAir.2.1 8 = .ok (.aload_n 0, 1) := by decide +kernel
theorem dX9_keepAir_9 : decode μX9_keepAir.2.1 9 = .ok (.getfield 42, 3) := by decide +kernel
theorem dX9_keepAir_12 : decode μX9_keepAir.2.1 12 = .ok (.iload_n 1, 1) := by decide +kernel
theorem dX9_keepAir_13 : decode μX9_keepAir.2.1 13 = .ok (.aload_n 0, 1) := by decide +kernel
theorem dX9_keepAir_14 : decode μX9_keepAir.2.1 14 = .ok (.getfield 45, 3) := by decide +kernel
theorem dX9_keepAir_17 : decode μX9_keepAir.2.1 17 = .ok (.iload_n 1, 1) := by decide +kernel
theorem dX9_keepAir_18 : decode μX9_keepAir.2.1 18 = .ok (.iaload, 1) := by decide +kernel
theorem dX9_keepAir_19 : decode μX9_keepAir.2.1 19 = .ok (.iastore, 1) := by decide +kernel
theorem dX9_keepAir_20 : decode μX9_keepAir.2.1 20 = .ok (.iinc 1 1, 3) := by decide +kernel
theorem dX9_keepAir_23 : decode μX9_keepAir.2.1 23 = .ok (.goto (-21), 3) := by decide +kernel
theorem dX9_keepAir_26 : decode μX9_keepAir.2.1 26 = .ok (.return_, 1) := by decide +kernel
set_option maxRecDepth 20000 in
theorem sg_X9_keepAir_0 {d : Nat}  {M : Mem} {K : (Mem → Prop)}  (h : RV d μX9_keepAir 2 [(0, .ref 58), (1, .int 0)] [] M K) : CV d μX9_keepAir [.ref 58] M K := by
  show Rn d μX9_keepAir 0 [(0, .ref 58)] [] M _
  refine rn_iconst (v := 0) dX9_keepAir_0 rfl ?_
  refine rn_istore_n (lv' := [(0, .ref 58), (1, .int 0)]) (hd := dX9_keepAir_1) (i := 1) (hi := rfl) (hn := by decide) (hf := rfl) (hl := rfl) ?_
  exact h
set_option maxRecDepth 20000 in
theorem sg_X9_keepAir_2 {d : Nat} {x1 : Int32} {M : Mem} {K : (Mem → Prop)}  (h : (if 24 ≤ x1 then K M else (vp_in x1 24 ∧ (vp_in x1 24 ∧ ∀ M1, M1 = wi M 68 (nx x1) (ri M 69 (nx x1)) → RV d μX9_keepAir 2 [(0, .ref 58), (1, .int (x1 + 1))] [] M1 K)))) : RV d μX9_keepAir 2 [(0, .ref 58), (1, .int x1)] [] M K := by
  show Rn d μX9_keepAir 2 [(0, .ref 58), (1, .int x1)] [] M _
  refine rn_iload_n (i := 1) (x := x1) dX9_keepAir_2 rfl (by simp) ?_
  refine rn_bipush (v := 24) dX9_keepAir_3 rfl ?_
  refine rn_icmp_ge (tgt := 26) dX9_keepAir_5 (by decide) (ite_go h (fun hc h => ?_) (fun hc h => ?_))
  · exact rn_ret dX9_keepAir_26 rfl ⟨rfl, h⟩
  · refine rn_aload_n (i := 0) (x := 58) dX9_keepAir_8 rfl (by simp) ?_
    refine rn_getr (t := 68) dX9_keepAir_9 rfl gf_X9_42 rfl rfl ?_
    refine rn_iload_n (i := 1) (x := x1) dX9_keepAir_12 rfl (by simp) ?_
    refine rn_aload_n (i := 0) (x := 58) dX9_keepAir_13 rfl (by simp) ?_
    refine rn_getr (t := 69) dX9_keepAir_14 rfl gf_X9_45 rfl rfl ?_
    refine rn_iload_n (i := 1) (x := x1) dX9_keepAir_17 rfl (by simp) ?_
    obtain ⟨hi, h⟩ := h
    refine rn_iaload dX9_keepAir_18 rfl hi ?_
    obtain ⟨hi, h⟩ := h
    have h := h _ rfl
    refine rn_iastore dX9_keepAir_19 rfl hi ?_
    generalize wi M 68 (nx x1) (ri M 69 (nx x1)) = M1 at h ⊢
    refine rn_iinc (x := x1) (v := x1 + 1) (lv' := [(0, .ref 58), (1, .int (x1 + 1))]) dX9_keepAir_20 (by simp) rfl (by decide) rfl rfl ?_
    refine rn_goto (tgt := 2) dX9_keepAir_23 (by decide) ?_
    exact h
theorem dX9_members_0 : decode μX9_members.2.1 0 = .ok (.iconst 0, 1) := by decide +kernel
theorem dX9_members_1 : decode μX9_members.2.1 1 = .ok (.istore_n 1, 1) := by decide +kernel
theorem dX9_members_2 : decode μX9_members.2.1 2 = .ok (.iconst 0, 1) := by decide +kernel
theorem dX9_members_3 : decode μX9_members.2.1 3 = .ok (.istore_n 2, 1) := by decide +kernel
theorem dX9_members_4 : decode μX9_members.2.1 4 = .ok (.iload_n 2, 1) := by decide +kernel
theorem dX9_members_5 : decode μX9_members.2.1 5 = .ok (.bipush 8, 2) := by decide +kernel
theorem dX9_members_7 : decode μX9_members.2.1 7 = .ok (.if_icmp .ge 17, 3) := by decide +kernel
theorem dX9_members_10 : decode μX9_members.2.1 10 = .ok (.iload_n 1, 1) := by decide +kernel
theorem dX9_members_11 : decode μX9_members.2.1 11 = .ok (.iload_n 0, 1) := by decide +kernel
theorem dX9_members_12 : decode μX9_members.2.1 12 = .ok (.iload_n 2, 1) := by decide +kernel
theorem dX9_members_13 : decode μX9_members.2.1 13 = .ok (.ishr, 1) := by decide +kernel
theorem dX9_members_14 : decode μX9_members.2.1 14 = .ok (.iconst 1, 1) := by decide +kernel
theorem dX9_members_15 : decode μX9_members.2.1 15 = .ok (.iand, 1) := by decide +kernel
theorem dX9_members_16 : decode μX9_members.2.1 16 = .ok (.iadd, 1) := by decide +kernel
theorem dX9_members_17 : decode μX9_members.2.1 17 = .ok (.istore_n 1, 1) := by decide +kernel
theorem dX9_members_18 : decode μX9_members.2.1 18 = .ok (.iinc 2 1, 3) := by decide +kernel
theorem dX9_members_21 : decode μX9_members.2.1 21 = .ok (.goto (-17), 3) := by decide +kernel
theorem dX9_members_24 : decode μX9_members.2.1 24 = .ok (.iload_n 1, 1) := by decide +kernel
theorem dX9_members_25 : decode μX9_members.2.1 25 = .ok (.ireturn, 1) := by decide +kernel
set_option maxRecDepth 20000 in
theorem sg_X9_members_0 {d : Nat} {x0 : Int32} {M : Mem} {K : (Int32 → Mem → Prop)}  (h : RI d μX9_members 4 [(0, .int x0), (1, .int 0), (2, .int 0)] [] M K) : CI d μX9_members [.int x0] M K := by
  show Rn d μX9_members 0 [(0, .int x0)] [] M _
  refine rn_iconst (v := 0) dX9_members_0 rfl ?_
  refine rn_istore_n (lv' := [(0, .int x0), (1, .int 0)]) (hd := dX9_members_1) (i := 1) (hi := rfl) (hn := by decide) (hf := rfl) (hl := rfl) ?_
  refine rn_iconst (v := 0) dX9_members_2 rfl ?_
  refine rn_istore_n (lv' := [(0, .int x0), (1, .int 0), (2, .int 0)]) (hd := dX9_members_3) (i := 2) (hi := rfl) (hn := by decide) (hf := rfl) (hl := rfl) ?_
  exact h
set_option maxRecDepth 20000 in
theorem sg_X9_members_4 {d : Nat} {x0 : Int32} {x1 : Int32} {x2 : Int32} {M : Mem} {K : (Int32 → Mem → Prop)}  (h : (if 8 ≤ x2 then K x1 M else RI d μX9_members 4 [(0, .int x0), (1, .int (x1 + ((x0 >>> (x2 &&& 31)) &&& 1))), (2, .int (x2 + 1))] [] M K)) : RI d μX9_members 4 [(0, .int x0), (1, .int x1), (2, .int x2)] [] M K := by
  show Rn d μX9_members 4 [(0, .int x0), (1, .int x1), (2, .int x2)] [] M _
  refine rn_iload_n (i := 2) (x := x2) dX9_members_4 rfl (by simp) ?_
  refine rn_bipush (v := 8) dX9_members_5 rfl ?_
  refine rn_icmp_ge (tgt := 24) dX9_members_7 (by decide) (ite_go h (fun hc h => ?_) (fun hc h => ?_))
  · refine rn_iload_n (i := 1) (x := x1) dX9_members_24 rfl (by simp) ?_
    exact rn_iret dX9_members_25 rfl ⟨_, rfl, h⟩
  · refine rn_iload_n (i := 1) (x := x1) dX9_members_10 rfl (by simp) ?_
    refine rn_iload_n (i := 0) (x := x0) dX9_members_11 rfl (by simp) ?_
    refine rn_iload_n (i := 2) (x := x2) dX9_members_12 rfl (by simp) ?_
    refine rn_ishr dX9_members_13 ?_
    refine rn_iconst (v := 1) dX9_members_14 rfl ?_
    refine rn_iand dX9_members_15 ?_
    refine rn_iadd dX9_members_16 ?_
    refine rn_istore_n (lv' := [(0, .int x0), (1, .int (x1 + ((x0 >>> (x2 &&& 31)) &&& 1))), (2, .int x2)]) (hd := dX9_members_17) (i := 1) (hi := rfl) (hn := by decide) (hf := rfl) (hl := rfl) ?_
    refine rn_iinc (x := x2) (v := x2 + 1) (lv' := [(0, .int x0), (1, .int (x1 + ((x0 >>> (x2 &&& 31)) &&& 1))), (2, .int (x2 + 1))]) dX9_members_18 (by simp) rfl (by decide) rfl rfl ?_
    refine rn_goto (tgt := 4) dX9_members_21 (by decide) ?_
    exact h
theorem dX9_lordOf_0 : decode μX9_lordOf.2.1 0 = .ok (.iload_n 1, 1) := by decide +kernel
theorem dX9_lordOf_1 : decode μX9_lordOf.2.1 1 = .ok (.ifCond .ne 10, 3) := by decide +kernel
theorem dX9_lordOf_4 : decode μX9_lordOf.2.1 4 = .ok (.iload_n 0, 1) := by decide +kernel
theorem dX9_lordOf_5 : decode μX9_lordOf.2.1 5 = .ok (.bipush 6, 2) := by decide +kernel
theorem dX9_lordOf_7 : decode μX9_lordOf.2.1 7 = .ok (.ishr, 1) := by decide +kernel
theorem dX9_lordOf_8 : decode μX9_lordOf.2.1 8 = .ok (.goto 21, 3) := by decide +kernel
theorem dX9_lordOf_11 : decode μX9_lordOf.2.1 11 = .ok (.iload_n 1, 1) := by decide +kernel
theorem dX9_lordOf_12 : decode μX9_lordOf.2.1 12 = .ok (.iconst 1, 1) := by decide +kernel
theorem dX9_lordOf_13 : decode μX9_lordOf.2.1 13 = .ok (.if_icmp .ne 12, 3) := by decide +kernel
theorem dX9_lordOf_16 : decode μX9_lordOf.2.1 16 = .ok (.iload_n 0, 1) := by decide +kernel
theorem dX9_lordOf_17 : decode μX9_lordOf.2.1 17 = .ok (.iconst 3, 1) := by decide +kernel
theorem dX9_lordOf_18 : decode μX9_lordOf.2.1 18 = .ok (.ishr, 1) := by decide +kernel
theorem dX9_lordOf_19 : decode μX9_lordOf.2.1 19 = .ok (.bipush 7, 2) := by decide +kernel
theorem dX9_lordOf_21 : decode μX9_lordOf.2.1 21 = .ok (.iand, 1) := by decide +kernel
theorem dX9_lordOf_22 : decode μX9_lordOf.2.1 22 = .ok (.goto 7, 3) := by decide +kernel
theorem dX9_lordOf_25 : decode μX9_lordOf.2.1 25 = .ok (.iload_n 0, 1) := by decide +kernel
theorem dX9_lordOf_26 : decode μX9_lordOf.2.1 26 = .ok (.bipush 7, 2) := by decide +kernel
theorem dX9_lordOf_28 : decode μX9_lordOf.2.1 28 = .ok (.iand, 1) := by decide +kernel
theorem dX9_lordOf_29 : decode μX9_lordOf.2.1 29 = .ok (.ireturn, 1) := by decide +kernel
set_option maxRecDepth 20000 in
theorem sg_X9_lordOf_0 {d : Nat} {x0 : Int32} {x1 : Int32} {M : Mem} {K : (Int32 → Mem → Prop)}  (h : (if x1 = 0 then K (x0 >>> (6 &&& 31)) M else (if x1 = 1 then K ((x0 >>> (3 &&& 31)) &&& 7) M else K (x0 &&& 7) M))) : CI d μX9_lordOf [.int x0, .int x1] M K := by
  show Rn d μX9_lordOf 0 [(0, .int x0), (1, .int x1)] [] M _
  refine rn_iload_n (i := 1) (x := x1) dX9_lordOf_0 rfl (by simp) ?_
  refine rn_if_ne (tgt := 11) dX9_lordOf_1 (by decide) (ite_go h (fun hc h => ?_) (fun hc h => ?_))
  · refine rn_iload_n (i := 0) (x := x0) dX9_lordOf_4 rfl (by simp) ?_
    refine rn_bipush (v := 6) dX9_lordOf_5 rfl ?_
    refine rn_ishr dX9_lordOf_7 ?_
    refine rn_goto (tgt := 29) dX9_lordOf_8 (by decide) ?_
    exact rn_iret dX9_lordOf_29 rfl ⟨_, rfl, h⟩
  · refine rn_iload_n (i := 1) (x := x1) dX9_lordOf_11 rfl (by simp) ?_
    refine rn_iconst (v := 1) dX9_lordOf_12 rfl ?_
    refine rn_icmp_ne (tgt := 25) dX9_lordOf_13 (by decide) (ite_go h (fun hc h => ?_) (fun hc h => ?_))
    · refine rn_iload_n (i := 0) (x := x0) dX9_lordOf_16 rfl (by simp) ?_
      refine rn_iconst (v := 3) dX9_lordOf_17 rfl ?_
      refine rn_ishr dX9_lordOf_18 ?_
      refine rn_bipush (v := 7) dX9_lordOf_19 rfl ?_
      refine rn_iand dX9_lordOf_21 ?_
      refine rn_goto (tgt := 29) dX9_lordOf_22 (by decide) ?_
      exact rn_iret dX9_lordOf_29 rfl ⟨_, rfl, h⟩
    · refine rn_iload_n (i := 0) (x := x0) dX9_lordOf_25 rfl (by simp) ?_
      refine rn_bipush (v := 7) dX9_lordOf_26 rfl ?_
      refine rn_iand dX9_lordOf_28 ?_
      exact rn_iret dX9_lordOf_29 rfl ⟨_, rfl, h⟩
