theorem dX4_forget_0 : decode μX4_forget.2.1 0 = .ok (.aload_n 0, 1) := by decide +kernel
theorem dX4_forget_1 : decode μX4_forget.2.1 1 = .ok (.iconst 0, 1) := by decide +kernel
theorem dX4_forget_2 : decode μX4_forget.2.1 2 = .ok (.putfield 9, 3) := by decide +kernel
theorem dX4_forget_5 : decode μX4_forget.2.1 5 = .ok (.aload_n 0, 1) := by decide +kernel
theorem dX4_forget_6 : decode μX4_forget.2.1 6 = .ok (.iconst 0, 1) := by decide +kernel
theorem dX4_forget_7 : decode μX4_forget.2.1 7 = .ok (.putfield 35, 3) := by decide +kernel
theorem dX4_forget_10 : decode μX4_forget.2.1 10 = .ok (.return_, 1) := by decide +kernel
set_option maxRecDepth 20000 in
theorem sg_X4_forget_0 {d : Nat}  {M : Mem} {K : (Mem → Prop)}  (h : (∀ M1, M1 = wi M 48 0 0 → (∀ M2, M2 = wi M1 48 7 0 → K M2))) : CV d μX4_forget [.ref 48] M K := by
  show Rn d μX4_forget 0 [(0, .ref 48)] [] M _
  refine rn_aload_n (i := 0) (x := 48) dX4_forget_0 rfl (by simp) ?_
  refine rn_iconst (v := 0) dX4_forget_1 rfl ?_
  have h := h _ rfl
  refine rn_puti dX4_forget_2 rfl pf_X4_9 (by decide) rfl rfl ?_
  generalize wi M 48 0 0 = M1 at h ⊢
  refine rn_aload_n (i := 0) (x := 48) dX4_forget_5 rfl (by simp) ?_
  refine rn_iconst (v := 0) dX4_forget_6 rfl ?_
  have h := h _ rfl
  refine rn_puti dX4_forget_7 rfl pf_X4_35 (by decide) rfl rfl ?_
  generalize wi M1 48 7 0 = M2 at h ⊢
  exact rn_ret dX4_forget_10 rfl ⟨rfl, h⟩
theorem dX4_tell_0 : decode μX4_tell.2.1 0 = .ok (.aload_n 0, 1) := by decide +kernel
theorem dX4_tell_1 : decode μX4_tell.2.1 1 = .ok (.getfield 9, 3) := by decide +kernel
theorem dX4_tell_4 : decode μX4_tell.2.1 4 = .ok (.bipush 30, 2) := by decide +kernel
theorem dX4_tell_6 : decode μX4_tell.2.1 6 = .ok (.if_icmp .lt 5, 3) := by decide +kernel
theorem dX4_tell_9 : decode μX4_tell.2.1 9 = .ok (.iconst (-1), 1) := by decide +kernel
theorem dX4_tell_10 : decode μX4_tell.2.1 10 = .ok (.ireturn, 1) := by decide +kernel
theorem dX4_tell_11 : decode μX4_tell.2.1 11 = .ok (.aload_n 0, 1) := by decide +kernel
theorem dX4_tell_12 : decode μX4_tell.2.1 12 = .ok (.getfield 15, 3) := by decide +kernel
theorem dX4_tell_15 : decode μX4_tell.2.1 15 = .ok (.aload_n 0, 1) := by decide +kernel
theorem dX4_tell_16 : decode μX4_tell.2.1 16 = .ok (.getfield 9, 3) := by decide +kernel
theorem dX4_tell_19 : decode μX4_tell.2.1 19 = .ok (.iload_n 1, 1) := by decide +kernel
theorem dX4_tell_20 : decode μX4_tell.2.1 20 = .ok (.iastore, 1) := by decide +kernel
theorem dX4_tell_21 : decode μX4_tell.2.1 21 = .ok (.aload_n 0, 1) := by decide +kernel
theorem dX4_tell_22 : decode μX4_tell.2.1 22 = .ok (.getfield 19, 3) := by decide +kernel
theorem dX4_tell_25 : decode μX4_tell.2.1 25 = .ok (.aload_n 0, 1) := by decide +kernel
theorem dX4_tell_26 : decode μX4_tell.2.1 26 = .ok (.getfield 9, 3) := by decide +kernel
theorem dX4_tell_29 : decode μX4_tell.2.1 29 = .ok (.iload_n 2, 1) := by decide +kernel
theorem dX4_tell_30 : decode μX4_tell.2.1 30 = .ok (.iastore, 1) := by decide +kernel
theorem dX4_tell_31 : decode μX4_tell.2.1 31 = .ok (.aload_n 0, 1) := by decide +kernel
theorem dX4_tell_32 : decode μX4_tell.2.1 32 = .ok (.getfield 22, 3) := by decide +kernel
theorem dX4_tell_35 : decode μX4_tell.2.1 35 = .ok (.aload_n 0, 1) := by decide +kernel
theorem dX4_tell_36 : decode μX4_tell.2.1 36 = .ok (.getfield 9, 3) := by decide +kernel
theorem dX4_tell_39 : decode μX4_tell.2.1 39 = .ok (.iload_n 3, 1) := by decide +kernel
theorem dX4_tell_40 : decode μX4_tell.2.1 40 = .ok (.bastore, 1) := by decide +kernel
theorem dX4_tell_41 : decode μX4_tell.2.1 41 = .ok (.aload_n 0, 1) := by decide +kernel
theorem dX4_tell_42 : decode μX4_tell.2.1 42 = .ok (.getfield 26, 3) := by decide +kernel
theorem dX4_tell_45 : decode μX4_tell.2.1 45 = .ok (.aload_n 0, 1) := by decide +kernel
theorem dX4_tell_46 : decode μX4_tell.2.1 46 = .ok (.getfield 9, 3) := by decide +kernel
theorem dX4_tell_49 : decode μX4_tell.2.1 49 = .ok (.iload 4, 2) := by decide +kernel
theorem dX4_tell_51 : decode μX4_tell.2.1 51 = .ok (.iastore, 1) := by decide +kernel
theorem dX4_tell_52 : decode μX4_tell.2.1 52 = .ok (.aload_n 0, 1) := by decide +kernel
theorem dX4_tell_53 : decode μX4_tell.2.1 53 = .ok (.getfield 29, 3) := by decide +kernel
theorem dX4_tell_56 : decode μX4_tell.2.1 56 = .ok (.aload_n 0, 1) := by decide +kernel
theorem dX4_tell_57 : decode μX4_tell.2.1 57 = .ok (.getfield 9, 3) := by decide +kernel
theorem dX4_tell_60 : decode μX4_tell.2.1 60 = .ok (.iconst (-1), 1) := by decide +kernel
theorem dX4_tell_61 : decode μX4_tell.2.1 61 = .ok (.iastore, 1) := by decide +kernel
theorem dX4_tell_62 : decode μX4_tell.2.1 62 = .ok (.aload_n 0, 1) := by decide +kernel
theorem dX4_tell_63 : decode μX4_tell.2.1 63 = .ok (.dup, 1) := by decide +kernel
theorem dX4_tell_64 : decode μX4_tell.2.1 64 = .ok (.getfield 9, 3) := by decide +kernel
theorem dX4_tell_67 : decode μX4_tell.2.1 67 = .ok (.iconst 1, 1) := by decide +kernel
theorem dX4_tell_68 : decode μX4_tell.2.1 68 = .ok (.iadd, 1) := by decide +kernel
theorem dX4_tell_69 : decode μX4_tell.2.1 69 = .ok (.putfield 9, 3) := by decide +kernel
theorem dX4_tell_72 : decode μX4_tell.2.1 72 = .ok (.aload_n 0, 1) := by decide +kernel
theorem dX4_tell_73 : decode μX4_tell.2.1 73 = .ok (.getfield 9, 3) := by decide +kernel
theorem dX4_tell_76 : decode μX4_tell.2.1 76 = .ok (.iconst 1, 1) := by decide +kernel
theorem dX4_tell_77 : decode μX4_tell.2.1 77 = .ok (.isub, 1) := by decide +kernel
theorem dX4_tell_78 : decode μX4_tell.2.1 78 = .ok (.ireturn, 1) := by decide +kernel
set_option maxRecDepth 20000 in
theorem sg_X4_tell_0 {d : Nat} {x1 : Int32} {x2 : Int32} {x3 : Int32} {x4 : Int32} {M : Mem} {K : (Int32 → Mem → Prop)}  (h : (if ri M 48 0 < 30 then (vp_in (ri M 48 0) 30 ∧ ∀ M1, M1 = wi M 49 (nx (ri M 48 0)) x1 → (vp_in (ri M1 48 0) 30 ∧ ∀ M2, M2 = wi M1 50 (nx (ri M1 48 0)) x2 → (vp_in (ri M2 48 0) 30 ∧ ∀ M3, M3 = wi M2 51 (nx (ri M2 48 0)) (vp_nar .boolean x3) → (vp_in (ri M3 48 0) 30 ∧ ∀ M4, M4 = wi M3 52 (nx (ri M3 48 0)) x4 → (vp_in (ri M4 48 0) 30 ∧ ∀ M5, M5 = wi M4 53 (nx (ri M4 48 0)) ((-1)) → (∀ M6, M6 = wi M5 48 0 ((ri M5 48 0) + 1) → K ((ri M6 48 0) - 1) M6)))))) else K ((-1)) M)) : CI d μX4_tell [.ref 48, .int x1, .int x2, .int x3, .int x4] M K := by
  show Rn d μX4_tell 0 [(0, .ref 48), (1, .int x1), (2, .int x2), (3, .int x3), (4, .int x4)] [] M _
  refine rn_aload_n (i := 0) (x := 48) dX4_tell_0 rfl (by simp) ?_
  refine rn_geti dX4_tell_1 rfl gf_X4_9 (by decide) ?_
  refine rn_bipush (v := 30) dX4_tell_4 rfl ?_
  refine rn_icmp_lt (tgt := 11) dX4_tell_6 (by decide) (ite_go h (fun hc h => ?_) (fun hc h => ?_))
  · refine rn_aload_n (i := 0) (x := 48) dX4_tell_11 rfl (by simp) ?_
    refine rn_getr (t := 49) dX4_tell_12 rfl gf_X4_15 rfl rfl ?_
    refine rn_aload_n (i := 0) (x := 48) dX4_tell_15 rfl (by simp) ?_
    refine rn_geti dX4_tell_16 rfl gf_X4_9 (by decide) ?_
    refine rn_iload_n (i := 1) (x := x1) dX4_tell_19 rfl (by simp) ?_
    obtain ⟨hi, h⟩ := h
    have h := h _ rfl
    refine rn_iastore dX4_tell_20 rfl hi ?_
    generalize wi M 49 (nx (ri M 48 0)) x1 = M1 at h ⊢
    refine rn_aload_n (i := 0) (x := 48) dX4_tell_21 rfl (by simp) ?_
    refine rn_getr (t := 50) dX4_tell_22 rfl gf_X4_19 rfl rfl ?_
    refine rn_aload_n (i := 0) (x := 48) dX4_tell_25 rfl (by simp) ?_
    refine rn_geti dX4_tell_26 rfl gf_X4_9 (by decide) ?_
    refine rn_iload_n (i := 2) (x := x2) dX4_tell_29 rfl (by simp) ?_
    obtain ⟨hi, h⟩ := h
    have h := h _ rfl
    refine rn_iastore dX4_tell_30 rfl hi ?_
    generalize wi M1 50 (nx (ri M1 48 0)) x2 = M2 at h ⊢
    refine rn_aload_n (i := 0) (x := 48) dX4_tell_31 rfl (by simp) ?_
    refine rn_getr (t := 51) dX4_tell_32 rfl gf_X4_22 rfl rfl ?_
    refine rn_aload_n (i := 0) (x := 48) dX4_tell_35 rfl (by simp) ?_
    refine rn_geti dX4_tell_36 rfl gf_X4_9 (by decide) ?_
    refine rn_iload_n (i := 3) (x := x3) dX4_tell_39 rfl (by simp) ?_
    obtain ⟨hi, h⟩ := h
    have h := h _ rfl
    refine rn_zastore dX4_tell_40 rfl hi ?_
    generalize wi M2 51 (nx (ri M2 48 0)) (vp_nar .boolean x3) = M3 at h ⊢
    refine rn_aload_n (i := 0) (x := 48) dX4_tell_41 rfl (by simp) ?_
    refine rn_getr (t := 52) dX4_tell_42 rfl gf_X4_26 rfl rfl ?_
    refine rn_aload_n (i := 0) (x := 48) dX4_tell_45 rfl (by simp) ?_
    refine rn_geti dX4_tell_46 rfl gf_X4_9 (by decide) ?_
    refine rn_iload (x := x4) dX4_tell_49 (by simp) ?_
    obtain ⟨hi, h⟩ := h
    have h := h _ rfl
    refine rn_iastore dX4_tell_51 rfl hi ?_
    generalize wi M3 52 (nx (ri M3 48 0)) x4 = M4 at h ⊢
    refine rn_aload_n (i := 0) (x := 48) dX4_tell_52 rfl (by simp) ?_
    refine rn_getr (t := 53) dX4_tell_53 rfl gf_X4_29 rfl rfl ?_
    refine rn_aload_n (i := 0) (x := 48) dX4_tell_56 rfl (by simp) ?_
    refine rn_geti dX4_tell_57 rfl gf_X4_9 (by decide) ?_
    refine rn_iconst (v := -1) dX4_tell_60 rfl ?_
    obtain ⟨hi, h⟩ := h
    have h := h _ rfl
    refine rn_iastore dX4_tell_61 rfl hi ?_
    generalize wi M4 53 (nx (ri M4 48 0)) ((-1)) = M5 at h ⊢
    refine rn_aload_n (i := 0) (x := 48) dX4_tell_62 rfl (by simp) ?_
    refine rn_dup dX4_tell_63 rfl ?_
    refine rn_geti dX4_tell_64 rfl gf_X4_9 (by decide) ?_
    refine rn_iconst (v := 1) dX4_tell_67 rfl ?_
    refine rn_iadd dX4_tell_68 ?_
    have h := h _ rfl
    refine rn_puti dX4_tell_69 rfl pf_X4_9 (by decide) rfl rfl ?_
    generalize wi M5 48 0 ((ri M5 48 0) + 1) = M6 at h ⊢
    refine rn_aload_n (i := 0) (x := 48) dX4_tell_72 rfl (by simp) ?_
    refine rn_geti dX4_tell_73 rfl gf_X4_9 (by decide) ?_
    refine rn_iconst (v := 1) dX4_tell_76 rfl ?_
    refine rn_isub dX4_tell_77 ?_
    exact rn_iret dX4_tell_78 rfl ⟨_, rfl, h⟩
  · refine rn_iconst (v := -1) dX4_tell_9 rfl ?_
    exact rn_iret dX4_tell_10 rfl ⟨_, rfl, h⟩
theorem dX4_takeBack_0 : decode μX4_takeBack.2.1 0 = .ok (.iload_n 1, 1) := by decide +kernel
theorem dX4_takeBack_1 : decode μX4_takeBack.2.1 1 = .ok (.ifCond .lt 21, 3) := by decide +kernel
theorem dX4_takeBack_4 : decode μX4_takeBack.2.1 4 = .ok (.iload_n 1, 1) := by decide +kernel
theorem dX4_takeBack_5 : decode μX4_takeBack.2.1 5 = .ok (.aload_n 0, 1) := by decide +kernel
theorem dX4_takeBack_6 : decode μX4_takeBack.2.1 6 = .ok (.getfield 9, 3) := by decide +kernel
theorem dX4_takeBack_9 : decode μX4_takeBack.2.1 9 = .ok (.if_icmp .ge 13, 3) := by decide +kernel
theorem dX4_takeBack_12 : decode μX4_takeBack.2.1 12 = .ok (.aload_n 0, 1) := by decide +kernel
theorem dX4_takeBack_13 : decode μX4_takeBack.2.1 13 = .ok (.getfield 29, 3) := by decide +kernel
theorem dX4_takeBack_16 : decode μX4_takeBack.2.1 16 = .ok (.iload_n 1, 1) := by decide +kernel
theorem dX4_takeBack_17 : decode μX4_takeBack.2.1 17 = .ok (.iaload, 1) := by decide +kernel
theorem dX4_takeBack_18 : decode μX4_takeBack.2.1 18 = .ok (.iconst (-1), 1) := by decide +kernel
theorem dX4_takeBack_19 : decode μX4_takeBack.2.1 19 = .ok (.if_icmp .eq 5, 3) := by decide +kernel
theorem dX4_takeBack_22 : decode μX4_takeBack.2.1 22 = .ok (.iconst 0, 1) := by decide +kernel
theorem dX4_takeBack_23 : decode μX4_takeBack.2.1 23 = .ok (.ireturn, 1) := by decide +kernel
theorem dX4_takeBack_24 : decode μX4_takeBack.2.1 24 = .ok (.aload_n 0, 1) := by decide +kernel
theorem dX4_takeBack_25 : decode μX4_takeBack.2.1 25 = .ok (.getfield 29, 3) := by decide +kernel
theorem dX4_takeBack_28 : decode μX4_takeBack.2.1 28 = .ok (.iload_n 1, 1) := by decide +kernel
theorem dX4_takeBack_29 : decode μX4_takeBack.2.1 29 = .ok (.iload_n 2, 1) := by decide +kernel
theorem dX4_takeBack_30 : decode μX4_takeBack.2.1 30 = .ok (.iastore, 1) := by decide +kernel
theorem dX4_takeBack_31 : decode μX4_takeBack.2.1 31 = .ok (.iconst 1, 1) := by decide +kernel
theorem dX4_takeBack_32 : decode μX4_takeBack.2.1 32 = .ok (.ireturn, 1) := by decide +kernel
set_option maxRecDepth 20000 in
theorem sg_X4_takeBack_0 {d : Nat} {x1 : Int32} {x2 : Int32} {M : Mem} {K : (Int32 → Mem → Prop)}  (h : (if x1 < 0 then K 0 M else (if ri M 48 0 ≤ x1 then K 0 M else (vp_in x1 30 ∧ (if ri M 53 (nx x1) = (-1) then (vp_in x1 30 ∧ ∀ M1, M1 = wi M 53 (nx x1) x2 → K 1 M1) else K 0 M))))) : CI d μX4_takeBack [.ref 48, .int x1, .int x2] M K := by
  show Rn d μX4_takeBack 0 [(0, .ref 48), (1, .int x1), (2, .int x2)] [] M _
  refine rn_iload_n (i := 1) (x := x1) dX4_takeBack_0 rfl (by simp) ?_
  refine rn_if_lt (tgt := 22) dX4_takeBack_1 (by decide) (ite_go h (fun hc h => ?_) (fun hc h => ?_))
  · refine rn_iconst (v := 0) dX4_takeBack_22 rfl ?_
    exact rn_zret dX4_takeBack_23 rfl (by decide) ⟨_, rfl, h⟩
  · refine rn_iload_n (i := 1) (x := x1) dX4_takeBack_4 rfl (by simp) ?_
    refine rn_aload_n (i := 0) (x := 48) dX4_takeBack_5 rfl (by simp) ?_
    refine rn_geti dX4_takeBack_6 rfl gf_X4_9 (by decide) ?_
    refine rn_icmp_ge (tgt := 22) dX4_takeBack_9 (by decide) (ite_go h (fun hc h => ?_) (fun hc h => ?_))
    · refine rn_iconst (v := 0) dX4_takeBack_22 rfl ?_
      exact rn_zret dX4_takeBack_23 rfl (by decide) ⟨_, rfl, h⟩
    · refine rn_aload_n (i := 0) (x := 48) dX4_takeBack_12 rfl (by simp) ?_
      refine rn_getr (t := 53) dX4_takeBack_13 rfl gf_X4_29 rfl rfl ?_
      refine rn_iload_n (i := 1) (x := x1) dX4_takeBack_16 rfl (by simp) ?_
      obtain ⟨hi, h⟩ := h
      refine rn_iaload dX4_takeBack_17 rfl hi ?_
      refine rn_iconst (v := -1) dX4_takeBack_18 rfl ?_
      refine rn_icmp_eq (tgt := 24) dX4_takeBack_19 (by decide) (ite_go h (fun hc h => ?_) (fun hc h => ?_))
      · refine rn_aload_n (i := 0) (x := 48) dX4_takeBack_24 rfl (by simp) ?_
        refine rn_getr (t := 53) dX4_takeBack_25 rfl gf_X4_29 rfl rfl ?_
        refine rn_iload_n (i := 1) (x := x1) dX4_takeBack_28 rfl (by simp) ?_
        refine rn_iload_n (i := 2) (x := x2) dX4_takeBack_29 rfl (by simp) ?_
        obtain ⟨hi, h⟩ := h
        have h := h _ rfl
        refine rn_iastore dX4_takeBack_30 rfl hi ?_
        generalize wi M 53 (nx x1) x2 = M1 at h ⊢
        refine rn_iconst (v := 1) dX4_takeBack_31 rfl ?_
        exact rn_zret dX4_takeBack_32 rfl (by decide) ⟨_, rfl, h⟩
      · refine rn_iconst (v := 0) dX4_takeBack_22 rfl ?_
        exact rn_zret dX4_takeBack_23 rfl (by decide) ⟨_, rfl, h⟩
theorem dX4_findFits_0 : decode μX4_findFits.2.1 0 = .ok (.aload_n 2, 1) := by decide +kernel
theorem dX4_findFits_1 : decode μX4_findFits.2.1 1 = .ok (.getfield 45, 3) := by decide +kernel
theorem dX4_findFits_4 : decode μX4_findFits.2.1 4 = .ok (.getfield 51, 3) := by decide +kernel
theorem dX4_findFits_7 : decode μX4_findFits.2.1 7 = .ok (.ifCond .ne 5, 3) := by decide +kernel
theorem dX4_findFits_10 : decode μX4_findFits.2.1 10 = .ok (.iconst 0, 1) := by decide +kernel
theorem dX4_findFits_11 : decode μX4_findFits.2.1 11 = .ok (.ireturn, 1) := by decide +kernel
theorem dX4_findFits_12 : decode μX4_findFits.2.1 12 = .ok (.aload_n 0, 1) := by decide +kernel
theorem dX4_findFits_13 : decode μX4_findFits.2.1 13 = .ok (.aload_n 2, 1) := by decide +kernel
theorem dX4_findFits_14 : decode μX4_findFits.2.1 14 = .ok (.aload_n 3, 1) := by decide +kernel
theorem dX4_findFits_15 : decode μX4_findFits.2.1 15 = .ok (.invokevirtual 56, 3) := by decide +kernel
theorem dX4_findFits_18 : decode μX4_findFits.2.1 18 = .ok (.iconst 0, 1) := by decide +kernel
theorem dX4_findFits_19 : decode μX4_findFits.2.1 19 = .ok (.istore 4, 2) := by decide +kernel
theorem dX4_findFits_21 : decode μX4_findFits.2.1 21 = .ok (.iconst 0, 1) := by decide +kernel
theorem dX4_findFits_22 : decode μX4_findFits.2.1 22 = .ok (.istore 5, 2) := by decide +kernel
theorem dX4_findFits_24 : decode μX4_findFits.2.1 24 = .ok (.iload 5, 2) := by decide +kernel
theorem dX4_findFits_26 : decode μX4_findFits.2.1 26 = .ok (.bipush 31, 2) := by decide +kernel
theorem dX4_findFits_28 : decode μX4_findFits.2.1 28 = .ok (.if_icmp .ge 36, 3) := by decide +kernel
theorem dX4_findFits_31 : decode μX4_findFits.2.1 31 = .ok (.aload_n 0, 1) := by decide +kernel
theorem dX4_findFits_32 : decode μX4_findFits.2.1 32 = .ok (.getfield 39, 3) := by decide +kernel
theorem dX4_findFits_35 : decode μX4_findFits.2.1 35 = .ok (.iload 5, 2) := by decide +kernel
theorem dX4_findFits_37 : decode μX4_findFits.2.1 37 = .ok (.aload_n 0, 1) := by decide +kernel
theorem dX4_findFits_38 : decode μX4_findFits.2.1 38 = .ok (.iload 5, 2) := by decide +kernel
theorem dX4_findFits_40 : decode μX4_findFits.2.1 40 = .ok (.iload_n 1, 1) := by decide +kernel
theorem dX4_findFits_41 : decode μX4_findFits.2.1 41 = .ok (.invokevirtual 60, 3) := by decide +kernel
theorem dX4_findFits_44 : decode μX4_findFits.2.1 44 = .ok (.bastore, 1) := by decide +kernel
theorem dX4_findFits_45 : decode μX4_findFits.2.1 45 = .ok (.aload_n 0, 1) := by decide +kernel
theorem dX4_findFits_46 : decode μX4_findFits.2.1 46 = .ok (.getfield 39, 3) := by decide +kernel
theorem dX4_findFits_49 : decode μX4_findFits.2.1 49 = .ok (.iload 5, 2) := by decide +kernel
theorem dX4_findFits_51 : decode μX4_findFits.2.1 51 = .ok (.baload, 1) := by decide +kernel
theorem dX4_findFits_52 : decode μX4_findFits.2.1 52 = .ok (.ifCond .eq 6, 3) := by decide +kernel
theorem dX4_findFits_55 : decode μX4_findFits.2.1 55 = .ok (.iinc 4 1, 3) := by decide +kernel
theorem dX4_findFits_58 : decode μX4_findFits.2.1 58 = .ok (.iinc 5 1, 3) := by decide +kernel
theorem dX4_findFits_61 : decode μX4_findFits.2.1 61 = .ok (.goto (-37), 3) := by decide +kernel
theorem dX4_findFits_64 : decode μX4_findFits.2.1 64 = .ok (.iload 4, 2) := by decide +kernel
theorem dX4_findFits_66 : decode μX4_findFits.2.1 66 = .ok (.ireturn, 1) := by decide +kernel
set_option maxRecDepth 20000 in
theorem sg_X4_findFits_0 {d : Nat} {x1 : Int32} {t : Nat} {o : Nat} {M : Mem} {K : (Int32 → Mem → Prop)} (ht : kd t = (0, 7)) (ho : kd o = (0, 2)) (h : (if ri M (t + 1) 0 = 0 then K 0 M else (CV d μX4_findSides [.ref 48, .ref t, .ref o] M (fun M1 => RI (d + 1) μX4_findFits 24 [(0, .ref 48), (1, .int x1), (2, .ref t), (3, .ref o), (4, .int 0), (5, .int 0)] [] M1 K)))) : CI (d + 1) μX4_findFits [.ref 48, .int x1, .ref t, .ref o] M K := by
  show Rn (d + 1) μX4_findFits 0 [(0, .ref 48), (1, .int x1), (2, .ref t), (3, .ref o)] [] M _
  refine rn_aload_n (i := 2) (x := t) dX4_findFits_0 rfl (by simp) ?_
  refine rn_getr (t := t + 1) dX4_findFits_1 ht gf_X4_45 rfl (telling_refs _ ht).1.1 ?_
  refine rn_geti dX4_findFits_4 (telling_refs _ ht).1.2 gf_X4_51 (by decide) ?_
  refine rn_if_ne (tgt := 12) dX4_findFits_7 (by decide) (ite_go h (fun hc h => ?_) (fun hc h => ?_))
  · refine rn_iconst (v := 0) dX4_findFits_10 rfl ?_
    exact rn_iret dX4_findFits_11 rfl ⟨_, rfl, h⟩
  · refine rn_aload_n (i := 0) (x := 48) dX4_findFits_12 rfl (by simp) ?_
    refine rn_aload_n (i := 2) (x := t) dX4_findFits_13 rfl (by simp) ?_
    refine rn_aload_n (i := 3) (x := o) dX4_findFits_14 rfl (by simp) ?_
    refine rn_callVv (as := [.ref t, .ref o]) (st := []) dX4_findFits_15 mf_X4_findSides lk_X4_56 im_X4_findSides rfl rfl rfl rfl (Nat.le_of_ble_eq_true rfl) (Nat.le_of_ble_eq_true rfl) rfl (RV.mono h (fun M1 h => ?_))
    refine rn_iconst (v := 0) dX4_findFits_18 rfl ?_
    refine rn_istore (lv' := [(0, .ref 48), (1, .int x1), (2, .ref t), (3, .ref o), (4, .int 0)]) (hd := dX4_findFits_19) (hn := by decide) (hf := rfl) (hl := rfl) ?_
    refine rn_iconst (v := 0) dX4_findFits_21 rfl ?_
    refine rn_istore (lv' := [(0, .ref 48), (1, .int x1), (2, .ref t), (3, .ref o), (4, .int 0), (5, .int 0)]) (hd := dX4_findFits_22) (hn := by decide) (hf := rfl) (hl := rfl) ?_
    exact h
set_option maxRecDepth 20000 in
theorem sg_X4_findFits_24 {d : Nat} {x1 : Int32} {t : Nat} {o : Nat} {x4 : Int32} {x5 : Int32} {M : Mem} {K : (Int32 → Mem → Prop)} (ht : kd t = (0, 7)) (ho : kd o = (0, 2)) (h : (if 31 ≤ x5 then K x4 M else (CI d μX4_agreesWithAll [.ref 48, .int x5, .int x1] M (fun r2 M1 => (vp_in x5 31 ∧ ∀ M3, M3 = wi M1 55 (nx x5) (vp_nar .boolean r2) → (vp_in x5 31 ∧ (if ri M3 55 (nx x5) = 0 then RI (d + 1) μX4_findFits 24 [(0, .ref 48), (1, .int x1), (2, .ref t), (3, .ref o), (4, .int x4), (5, .int (x5 + 1))] [] M3 K else RI (d + 1) μX4_findFits 24 [(0, .ref 48), (1, .int x1), (2, .ref t), (3, .ref o), (4, .int (x4 + 1)), (5, .int (x5 + 1))] [] M3 K))))))) : RI (d + 1) μX4_findFits 24 [(0, .ref 48), (1, .int x1), (2, .ref t), (3, .ref o), (4, .int x4), (5, .int x5)] [] M K := by
  show Rn (d + 1) μX4_findFits 24 [(0, .ref 48), (1, .int x1), (2, .ref t), (3, .ref o), (4, .int x4), (5, .int x5)] [] M _
  refine rn_iload (x := x5) dX4_findFits_24 (by simp) ?_
  refine rn_bipush (v := 31) dX4_findFits_26 rfl ?_
  refine rn_icmp_ge (tgt := 64) dX4_findFits_28 (by decide) (ite_go h (fun hc h => ?_) (fun hc h => ?_))
  · refine rn_iload (x := x4) dX4_findFits_64 (by simp) ?_
    exact rn_iret dX4_findFits_66 rfl ⟨_, rfl, h⟩
  · refine rn_aload_n (i := 0) (x := 48) dX4_findFits_31 rfl (by simp) ?_
    refine rn_getr (t := 55) dX4_findFits_32 rfl gf_X4_39 rfl rfl ?_
    refine rn_iload (x := x5) dX4_findFits_35 (by simp) ?_
    refine rn_aload_n (i := 0) (x := 48) dX4_findFits_37 rfl (by simp) ?_
    refine rn_iload (x := x5) dX4_findFits_38 (by simp) ?_
    refine rn_iload_n (i := 1) (x := x1) dX4_findFits_40 rfl (by simp) ?_
    refine rn_callVi (as := [.int x5, .int x1]) (st := [.int x5, .ref 55]) dX4_findFits_41 mf_X4_agreesWithAll lk_X4_60 im_X4_agreesWithAll rfl rfl rfl rfl (Nat.le_of_ble_eq_true rfl) (Nat.le_of_ble_eq_true rfl) rfl (RI.mono h (fun r2 M1 h => ?_))
    obtain ⟨hi, h⟩ := h
    have h := h _ rfl
    refine rn_zastore dX4_findFits_44 rfl hi ?_
    generalize wi M1 55 (nx x5) (vp_nar .boolean r2) = M3 at h ⊢
    refine rn_aload_n (i := 0) (x := 48) dX4_findFits_45 rfl (by simp) ?_
    refine rn_getr (t := 55) dX4_findFits_46 rfl gf_X4_39 rfl rfl ?_
    refine rn_iload (x := x5) dX4_findFits_49 (by simp) ?_
    obtain ⟨hi, h⟩ := h
    refine rn_zaload dX4_findFits_51 rfl hi ?_
    refine rn_if_eq (tgt := 58) dX4_findFits_52 (by decide) (ite_go h (fun hc h => ?_) (fun hc h => ?_))
    · refine rn_iinc (x := x5) (v := x5 + 1) (lv' := [(0, .ref 48), (1, .int x1), (2, .ref t), (3, .ref o), (4, .int x4), (5, .int (x5 + 1))]) dX4_findFits_58 (by simp) rfl (by decide) rfl rfl ?_
      refine rn_goto (tgt := 24) dX4_findFits_61 (by decide) ?_
      exact h
    · refine rn_iinc (x := x4) (v := x4 + 1) (lv' := [(0, .ref 48), (1, .int x1), (2, .ref t), (3, .ref o), (4, .int (x4 + 1)), (5, .int x5)]) dX4_findFits_55 (by simp) rfl (by decide) rfl rfl ?_
      refine rn_iinc (x := x5) (v := x5 + 1) (lv' := [(0, .ref 48), (1, .int x1), (2, .ref t), (3, .ref o), (4, .int (x4 + 1)), (5, .int (x5 + 1))]) dX4_findFits_58 (by simp) rfl (by decide) rfl rfl ?_
      refine rn_goto (tgt := 24) dX4_findFits_61 (by decide) ?_
      exact h
theorem dX4_findSides_0 : decode μX4_findSides.2.1 0 = .ok (.aload_n 1, 1) := by decide +kernel
theorem dX4_findSides_1 : decode μX4_findSides.2.1 1 = .ok (.getfield 45, 3) := by decide +kernel
theorem dX4_findSides_4 : decode μX4_findSides.2.1 4 = .ok (.getfield 51, 3) := by decide +kernel
theorem dX4_findSides_7 : decode μX4_findSides.2.1 7 = .ok (.iconst 1, 1) := by decide +kernel
theorem dX4_findSides_8 : decode μX4_findSides.2.1 8 = .ok (.isub, 1) := by decide +kernel
theorem dX4_findSides_9 : decode μX4_findSides.2.1 9 = .ok (.istore_n 3, 1) := by decide +kernel
theorem dX4_findSides_10 : decode μX4_findSides.2.1 10 = .ok (.aload_n 0, 1) := by decide +kernel
theorem dX4_findSides_11 : decode μX4_findSides.2.1 11 = .ok (.getfield 35, 3) := by decide +kernel
theorem dX4_findSides_14 : decode μX4_findSides.2.1 14 = .ok (.ifCond .ne 7, 3) := by decide +kernel
theorem dX4_findSides_17 : decode μX4_findSides.2.1 17 = .ok (.iload_n 3, 1) := by decide +kernel
theorem dX4_findSides_18 : decode μX4_findSides.2.1 18 = .ok (.ifCond .ge 4, 3) := by decide +kernel
theorem dX4_findSides_21 : decode μX4_findSides.2.1 21 = .ok (.return_, 1) := by decide +kernel
theorem dX4_findSides_22 : decode μX4_findSides.2.1 22 = .ok (.iconst 0, 1) := by decide +kernel
theorem dX4_findSides_23 : decode μX4_findSides.2.1 23 = .ok (.istore 4, 2) := by decide +kernel
theorem dX4_findSides_25 : decode μX4_findSides.2.1 25 = .ok (.iload 4, 2) := by decide +kernel
theorem dX4_findSides_27 : decode μX4_findSides.2.1 27 = .ok (.bipush 31, 2) := by decide +kernel
theorem dX4_findSides_29 : decode μX4_findSides.2.1 29 = .ok (.if_icmp .ge 69, 3) := by decide +kernel
theorem dX4_findSides_32 : decode μX4_findSides.2.1 32 = .ok (.aload_n 2, 1) := by decide +kernel
theorem dX4_findSides_33 : decode μX4_findSides.2.1 33 = .ok (.aload_n 1, 1) := by decide +kernel
theorem dX4_findSides_34 : decode μX4_findSides.2.1 34 = .ok (.getfield 45, 3) := by decide +kernel
theorem dX4_findSides_37 : decode μX4_findSides.2.1 37 = .ok (.invokevirtual 64, 3) := by decide +kernel
theorem dX4_findSides_40 : decode μX4_findSides.2.1 40 = .ok (.aload_n 2, 1) := by decide +kernel
theorem dX4_findSides_41 : decode μX4_findSides.2.1 41 = .ok (.getfield 68, 3) := by decide +kernel
theorem dX4_findSides_44 : decode μX4_findSides.2.1 44 = .ok (.iload_n 3, 1) := by decide +kernel
theorem dX4_findSides_45 : decode μX4_findSides.2.1 45 = .ok (.iload 4, 2) := by decide +kernel
theorem dX4_findSides_47 : decode μX4_findSides.2.1 47 = .ok (.iastore, 1) := by decide +kernel
theorem dX4_findSides_48 : decode μX4_findSides.2.1 48 = .ok (.iconst 0, 1) := by decide +kernel
theorem dX4_findSides_49 : decode μX4_findSides.2.1 49 = .ok (.istore 5, 2) := by decide +kernel
theorem dX4_findSides_51 : decode μX4_findSides.2.1 51 = .ok (.iload 5, 2) := by decide +kernel
theorem dX4_findSides_53 : decode μX4_findSides.2.1 53 = .ok (.bipush 13, 2) := by decide +kernel
theorem dX4_findSides_55 : decode μX4_findSides.2.1 55 = .ok (.if_icmp .ge 37, 3) := by decide +kernel
theorem dX4_findSides_58 : decode μX4_findSides.2.1 58 = .ok (.aload_n 0, 1) := by decide +kernel
theorem dX4_findSides_59 : decode μX4_findSides.2.1 59 = .ok (.getfield 32, 3) := by decide +kernel
theorem dX4_findSides_62 : decode μX4_findSides.2.1 62 = .ok (.iload 4, 2) := by decide +kernel
theorem dX4_findSides_64 : decode μX4_findSides.2.1 64 = .ok (.bipush 13, 2) := by decide +kernel
theorem dX4_findSides_66 : decode μX4_findSides.2.1 66 = .ok (.imul, 1) := by decide +kernel
theorem dX4_findSides_67 : decode μX4_findSides.2.1 67 = .ok (.iload 5, 2) := by decide +kernel
theorem dX4_findSides_69 : decode μX4_findSides.2.1 69 = .ok (.iadd, 1) := by decide +kernel
theorem dX4_findSides_70 : decode μX4_findSides.2.1 70 = .ok (.aload_n 2, 1) := by decide +kernel
theorem dX4_findSides_71 : decode μX4_findSides.2.1 71 = .ok (.getfield 71, 3) := by decide +kernel
theorem dX4_findSides_74 : decode μX4_findSides.2.1 74 = .ok (.iload_n 3, 1) := by decide +kernel
theorem dX4_findSides_75 : decode μX4_findSides.2.1 75 = .ok (.iaload, 1) := by decide +kernel
theorem dX4_findSides_76 : decode μX4_findSides.2.1 76 = .ok (.iastore, 1) := by decide +kernel
theorem dX4_findSides_77 : decode μX4_findSides.2.1 77 = .ok (.aload_n 2, 1) := by decide +kernel
theorem dX4_findSides_78 : decode μX4_findSides.2.1 78 = .ok (.aload_n 1, 1) := by decide +kernel
theorem dX4_findSides_79 : decode μX4_findSides.2.1 79 = .ok (.getfield 74, 3) := by decide +kernel
theorem dX4_findSides_82 : decode μX4_findSides.2.1 82 = .ok (.iconst 0, 1) := by decide +kernel
theorem dX4_findSides_83 : decode μX4_findSides.2.1 83 = .ok (.invokevirtual 78, 3) := by decide +kernel
theorem dX4_findSides_86 : decode μX4_findSides.2.1 86 = .ok (.iinc 5 1, 3) := by decide +kernel
theorem dX4_findSides_89 : decode μX4_findSides.2.1 89 = .ok (.goto (-38), 3) := by decide +kernel
theorem dX4_findSides_92 : decode μX4_findSides.2.1 92 = .ok (.iinc 4 1, 3) := by decide +kernel
theorem dX4_findSides_95 : decode μX4_findSides.2.1 95 = .ok (.goto (-70), 3) := by decide +kernel
theorem dX4_findSides_98 : decode μX4_findSides.2.1 98 = .ok (.aload_n 0, 1) := by decide +kernel
theorem dX4_findSides_99 : decode μX4_findSides.2.1 99 = .ok (.iconst 1, 1) := by decide +kernel
theorem dX4_findSides_100 : decode μX4_findSides.2.1 100 = .ok (.putfield 35, 3) := by decide +kernel
theorem dX4_findSides_103 : decode μX4_findSides.2.1 103 = .ok (.return_, 1) := by decide +kernel
set_option maxRecDepth 20000 in
theorem sg_X4_findSides_0 {d : Nat} {t : Nat} {o : Nat} {M : Mem} {K : (Mem → Prop)} (ht : kd t = (0, 7)) (ho : kd o = (0, 2)) (h : (if ri M 48 7 = 0 then (if 0 ≤ (ri M (t + 1) 0) - 1 then RV (d + 1) μX4_findSides 25 [(0, .ref 48), (1, .ref t), (2, .ref o), (3, .int ((ri M (t + 1) 0) - 1)), (4, .int 0)] [] M K else K M) else K M)) : CV (d + 1) μX4_findSides [.ref 48, .ref t, .ref o] M K := by
  show Rn (d + 1) μX4_findSides 0 [(0, .ref 48), (1, .ref t), (2, .ref o)] [] M _
  refine rn_aload_n (i := 1) (x := t) dX4_findSides_0 rfl (by simp) ?_
  refine rn_getr (t := t + 1) dX4_findSides_1 ht gf_X4_45 rfl (telling_refs _ ht).1.1 ?_
  refine rn_geti dX4_findSides_4 (telling_refs _ ht).1.2 gf_X4_51 (by decide) ?_
  refine rn_iconst (v := 1) dX4_findSides_7 rfl ?_
  refine rn_isub dX4_findSides_8 ?_
  refine rn_istore_n (lv' := [(0, .ref 48), (1, .ref t), (2, .ref o), (3, .int ((ri M (t + 1) 0) - 1))]) (hd := dX4_findSides_9) (i := 3) (hi := rfl) (hn := by decide) (hf := rfl) (hl := rfl) ?_
  refine rn_aload_n (i := 0) (x := 48) dX4_findSides_10 rfl (by simp) ?_
  refine rn_geti dX4_findSides_11 rfl gf_X4_35 (by decide) ?_
  refine rn_if_ne (tgt := 21) dX4_findSides_14 (by decide) (ite_go h (fun hc h => ?_) (fun hc h => ?_))
  · refine rn_iload_n (i := 3) (x := (ri M (t + 1) 0) - 1) dX4_findSides_17 rfl (by simp) ?_
    refine rn_if_ge (tgt := 22) dX4_findSides_18 (by decide) (ite_go h (fun hc h => ?_) (fun hc h => ?_))
    · refine rn_iconst (v := 0) dX4_findSides_22 rfl ?_
      refine rn_istore (lv' := [(0, .ref 48), (1, .ref t), (2, .ref o), (3, .int ((ri M (t + 1) 0) - 1)), (4, .int 0)]) (hd := dX4_findSides_23) (hn := by decide) (hf := rfl) (hl := rfl) ?_
      exact h
    · exact rn_ret dX4_findSides_21 rfl ⟨rfl, h⟩
  · exact rn_ret dX4_findSides_21 rfl ⟨rfl, h⟩
set_option maxRecDepth 20000 in
theorem sg_X4_findSides_25 {d : Nat} {t : Nat} {o : Nat} {x3 : Int32} {x4 : Int32} {M : Mem} {K : (Mem → Prop)} (ht : kd t = (0, 7)) (ho : kd o = (0, 2)) (h : (if 31 ≤ x4 then (∀ M1, M1 = wi M 48 7 1 → K M1) else (CV d μX2_copyFrom [.ref o, .ref (t + 1)] M (fun M2 => (vp_in x3 8 ∧ ∀ M3, M3 = wi M2 (o + 1) (nx x3) x4 → RV (d + 1) μX4_findSides 51 [(0, .ref 48), (1, .ref t), (2, .ref o), (3, .int x3), (4, .int x4), (5, .int 0)] [] M3 K))))) : RV (d + 1) μX4_findSides 25 [(0, .ref 48), (1, .ref t), (2, .ref o), (3, .int x3), (4, .int x4)] [] M K := by
  show Rn (d + 1) μX4_findSides 25 [(0, .ref 48), (1, .ref t), (2, .ref o), (3, .int x3), (4, .int x4)] [] M _
  refine rn_iload (x := x4) dX4_findSides_25 (by simp) ?_
  refine rn_bipush (v := 31) dX4_findSides_27 rfl ?_
  refine rn_icmp_ge (tgt := 98) dX4_findSides_29 (by decide) (ite_go h (fun hc h => ?_) (fun hc h => ?_))
  · refine rn_aload_n (i := 0) (x := 48) dX4_findSides_98 rfl (by simp) ?_
    refine rn_iconst (v := 1) dX4_findSides_99 rfl ?_
    have h := h _ rfl
    refine rn_puti dX4_findSides_100 rfl pf_X4_35 (by decide) rfl rfl ?_
    generalize wi M 48 7 1 = M1 at h ⊢
    exact rn_ret dX4_findSides_103 rfl ⟨rfl, h⟩
  · refine rn_aload_n (i := 2) (x := o) dX4_findSides_32 rfl (by simp) ?_
    refine rn_aload_n (i := 1) (x := t) dX4_findSides_33 rfl (by simp) ?_
    refine rn_getr (t := t + 1) dX4_findSides_34 ht gf_X4_45 rfl (telling_refs _ ht).1.1 ?_
    refine rn_callVv (as := [.ref (t + 1)]) (st := []) dX4_findSides_37 mf_X2_copyFrom lk_X4_64 im_X2_copyFrom ho rfl rfl rfl (Nat.le_of_ble_eq_true rfl) (Nat.le_of_ble_eq_true rfl) rfl (RV.mono h (fun M2 h => ?_))
    refine rn_aload_n (i := 2) (x := o) dX4_findSides_40 rfl (by simp) ?_
    refine rn_getr (t := o + 1) dX4_findSides_41 ho gf_X4_68 rfl (froth_refs _ ho).1.1 ?_
    refine rn_iload_n (i := 3) (x := x3) dX4_findSides_44 rfl (by simp) ?_
    refine rn_iload (x := x4) dX4_findSides_45 (by simp) ?_
    obtain ⟨hi, h⟩ := h
    have h := h _ rfl
    refine rn_iastore dX4_findSides_47 (froth_refs _ ho).1.2 hi ?_
    generalize wi M2 (o + 1) (nx x3) x4 = M3 at h ⊢
    refine rn_iconst (v := 0) dX4_findSides_48 rfl ?_
    refine rn_istore (lv' := [(0, .ref 48), (1, .ref t), (2, .ref o), (3, .int x3), (4, .int x4), (5, .int 0)]) (hd := dX4_findSides_49) (hn := by decide) (hf := rfl) (hl := rfl) ?_
    exact h
set_option maxRecDepth 20000 in
theorem sg_X4_findSides_51 {d : Nat} {t : Nat} {o : Nat} {x3 : Int32} {x4 : Int32} {x5 : Int32} {M : Mem} {K : (Mem → Prop)} (ht : kd t = (0, 7)) (ho : kd o = (0, 2)) (h : (if 13 ≤ x5 then RV (d + 1) μX4_findSides 25 [(0, .ref 48), (1, .ref t), (2, .ref o), (3, .int x3), (4, .int (x4 + 1))] [] M K else (vp_in x3 8 ∧ (vp_in ((x4 * 13) + x5) 403 ∧ ∀ M1, M1 = wi M 54 (nx ((x4 * 13) + x5)) (ri M (o + 4) (nx x3)) → (CV d μX2_passSeason [.ref o, .ref (t + 7), .int 0] M1 (fun M2 => RV (d + 1) μX4_findSides 51 [(0, .ref 48), (1, .ref t), (2, .ref o), (3, .int x3), (4, .int x4), (5, .int (x5 + 1))] [] M2 K)))))) : RV (d + 1) μX4_findSides 51 [(0, .ref 48), (1, .ref t), (2, .ref o), (3, .int x3), (4, .int x4), (5, .int x5)] [] M K := by
  show Rn (d + 1) μX4_findSides 51 [(0, .ref 48), (1, .ref t), (2, .ref o), (3, .int x3), (4, .int x4), (5, .int x5)] [] M _
  refine rn_iload (x := x5) dX4_findSides_51 (by simp) ?_
  refine rn_bipush (v := 13) dX4_findSides_53 rfl ?_
  refine rn_icmp_ge (tgt := 92) dX4_findSides_55 (by decide) (ite_go h (fun hc h => ?_) (fun hc h => ?_))
  · refine rn_iinc (x := x4) (v := x4 + 1) (lv' := [(0, .ref 48), (1, .ref t), (2, .ref o), (3, .int x3), (4, .int (x4 + 1)), (5, .int x5)]) dX4_findSides_92 (by simp) rfl (by decide) rfl rfl ?_
    refine rn_goto (tgt := 25) dX4_findSides_95 (by decide) ?_
    refine Rn.sub (lv' := [(0, .ref 48), (1, .ref t), (2, .ref o), (3, .int x3), (4, .int (x4 + 1))]) (by simp) ?_
    exact h
  · refine rn_aload_n (i := 0) (x := 48) dX4_findSides_58 rfl (by simp) ?_
    refine rn_getr (t := 54) dX4_findSides_59 rfl gf_X4_32 rfl rfl ?_
    refine rn_iload (x := x4) dX4_findSides_62 (by simp) ?_
    refine rn_bipush (v := 13) dX4_findSides_64 rfl ?_
    refine rn_imul dX4_findSides_66 ?_
    refine rn_iload (x := x5) dX4_findSides_67 (by simp) ?_
    refine rn_iadd dX4_findSides_69 ?_
    refine rn_aload_n (i := 2) (x := o) dX4_findSides_70 rfl (by simp) ?_
    refine rn_getr (t := o + 4) dX4_findSides_71 ho gf_X4_71 rfl (froth_refs _ ho).2.2.2.1.1 ?_
    refine rn_iload_n (i := 3) (x := x3) dX4_findSides_74 rfl (by simp) ?_
    obtain ⟨hi, h⟩ := h
    refine rn_iaload dX4_findSides_75 (froth_refs _ ho).2.2.2.1.2 hi ?_
    obtain ⟨hi, h⟩ := h
    have h := h _ rfl
    refine rn_iastore dX4_findSides_76 rfl hi ?_
    generalize wi M 54 (nx ((x4 * 13) + x5)) (ri M (o + 4) (nx x3)) = M1 at h ⊢
    refine rn_aload_n (i := 2) (x := o) dX4_findSides_77 rfl (by simp) ?_
    refine rn_aload_n (i := 1) (x := t) dX4_findSides_78 rfl (by simp) ?_
    refine rn_getr (t := t + 7) dX4_findSides_79 ht gf_X4_74 rfl (telling_refs _ ht).2.1.1 ?_
    refine rn_iconst (v := 0) dX4_findSides_82 rfl ?_
    refine rn_callVv (as := [.ref (t + 7), .int 0]) (st := []) dX4_findSides_83 mf_X2_passSeason lk_X4_78 im_X2_passSeason ho rfl rfl rfl (Nat.le_of_ble_eq_true rfl) (Nat.le_of_ble_eq_true rfl) rfl (RV.mono h (fun M2 h => ?_))
    refine rn_iinc (x := x5) (v := x5 + 1) (lv' := [(0, .ref 48), (1, .ref t), (2, .ref o), (3, .int x3), (4, .int x4), (5, .int (x5 + 1))]) dX4_findSides_86 (by simp) rfl (by decide) rfl rfl ?_
    refine rn_goto (tgt := 51) dX4_findSides_89 (by decide) ?_
    exact h
theorem dX4_agreesWithAll_0 : decode μX4_agreesWithAll.2.1 0 = .ok (.iconst 0, 1) := by decide +kernel
theorem dX4_agreesWithAll_1 : decode μX4_agreesWithAll.2.1 1 = .ok (.istore_n 3, 1) := by decide +kernel
theorem dX4_agreesWithAll_2 : decode μX4_agreesWithAll.2.1 2 = .ok (.iload_n 3, 1) := by decide +kernel
theorem dX4_agreesWithAll_3 : decode μX4_agreesWithAll.2.1 3 = .ok (.aload_n 0, 1) := by decide +kernel
theorem dX4_agreesWithAll_4 : decode μX4_agreesWithAll.2.1 4 = .ok (.getfield 9, 3) := by decide +kernel
theorem dX4_agreesWithAll_7 : decode μX4_agreesWithAll.2.1 7 = .ok (.if_icmp .ge 96, 3) := by decide +kernel
theorem dX4_agreesWithAll_10 : decode μX4_agreesWithAll.2.1 10 = .ok (.aload_n 0, 1) := by decide +kernel
theorem dX4_agreesWithAll_11 : decode μX4_agreesWithAll.2.1 11 = .ok (.getfield 26, 3) := by decide +kernel
theorem dX4_agreesWithAll_14 : decode μX4_agreesWithAll.2.1 14 = .ok (.iload_n 3, 1) := by decide +kernel
theorem dX4_agreesWithAll_15 : decode μX4_agreesWithAll.2.1 15 = .ok (.iaload, 1) := by decide +kernel
theorem dX4_agreesWithAll_16 : decode μX4_agreesWithAll.2.1 16 = .ok (.iload_n 2, 1) := by decide +kernel
theorem dX4_agreesWithAll_17 : decode μX4_agreesWithAll.2.1 17 = .ok (.if_icmp .gt 27, 3) := by decide +kernel
theorem dX4_agreesWithAll_20 : decode μX4_agreesWithAll.2.1 20 = .ok (.aload_n 0, 1) := by decide +kernel
theorem dX4_agreesWithAll_21 : decode μX4_agreesWithAll.2.1 21 = .ok (.getfield 29, 3) := by decide +kernel
theorem dX4_agreesWithAll_24 : decode μX4_agreesWithAll.2.1 24 = .ok (.iload_n 3, 1) := by decide +kernel
theorem dX4_agreesWithAll_25 : decode μX4_agreesWithAll.2.1 25 = .ok (.iaload, 1) := by decide +kernel
theorem dX4_agreesWithAll_26 : decode μX4_agreesWithAll.2.1 26 = .ok (.iconst (-1), 1) := by decide +kernel
theorem dX4_agreesWithAll_27 : decode μX4_agreesWithAll.2.1 27 = .ok (.if_icmp .eq 13, 3) := by decide +kernel
theorem dX4_agreesWithAll_30 : decode μX4_agreesWithAll.2.1 30 = .ok (.aload_n 0, 1) := by decide +kernel
theorem dX4_agreesWithAll_31 : decode μX4_agreesWithAll.2.1 31 = .ok (.getfield 29, 3) := by decide +kernel
theorem dX4_agreesWithAll_34 : decode μX4_agreesWithAll.2.1 34 = .ok (.iload_n 3, 1) := by decide +kernel
theorem dX4_agreesWithAll_35 : decode μX4_agreesWithAll.2.1 35 = .ok (.iaload, 1) := by decide +kernel
theorem dX4_agreesWithAll_36 : decode μX4_agreesWithAll.2.1 36 = .ok (.iload_n 2, 1) := by decide +kernel
theorem dX4_agreesWithAll_37 : decode μX4_agreesWithAll.2.1 37 = .ok (.if_icmp .le 7, 3) := by decide +kernel
theorem dX4_agreesWithAll_40 : decode μX4_agreesWithAll.2.1 40 = .ok (.iconst 1, 1) := by decide +kernel
theorem dX4_agreesWithAll_41 : decode μX4_agreesWithAll.2.1 41 = .ok (.goto 4, 3) := by decide +kernel
theorem dX4_agreesWithAll_44 : decode μX4_agreesWithAll.2.1 44 = .ok (.iconst 0, 1) := by decide +kernel
theorem dX4_agreesWithAll_45 : decode μX4_agreesWithAll.2.1 45 = .ok (.istore 4, 2) := by decide +kernel
theorem dX4_agreesWithAll_47 : decode μX4_agreesWithAll.2.1 47 = .ok (.aload_n 0, 1) := by decide +kernel
theorem dX4_agreesWithAll_48 : decode μX4_agreesWithAll.2.1 48 = .ok (.getfield 32, 3) := by decide +kernel
theorem dX4_agreesWithAll_51 : decode μX4_agreesWithAll.2.1 51 = .ok (.iload_n 1, 1) := by decide +kernel
theorem dX4_agreesWithAll_52 : decode μX4_agreesWithAll.2.1 52 = .ok (.bipush 13, 2) := by decide +kernel
theorem dX4_agreesWithAll_54 : decode μX4_agreesWithAll.2.1 54 = .ok (.imul, 1) := by decide +kernel
theorem dX4_agreesWithAll_55 : decode μX4_agreesWithAll.2.1 55 = .ok (.aload_n 0, 1) := by decide +kernel
theorem dX4_agreesWithAll_56 : decode μX4_agreesWithAll.2.1 56 = .ok (.getfield 15, 3) := by decide +kernel
theorem dX4_agreesWithAll_59 : decode μX4_agreesWithAll.2.1 59 = .ok (.iload_n 3, 1) := by decide +kernel
theorem dX4_agreesWithAll_60 : decode μX4_agreesWithAll.2.1 60 = .ok (.iaload, 1) := by decide +kernel
theorem dX4_agreesWithAll_61 : decode μX4_agreesWithAll.2.1 61 = .ok (.iadd, 1) := by decide +kernel
theorem dX4_agreesWithAll_62 : decode μX4_agreesWithAll.2.1 62 = .ok (.iaload, 1) := by decide +kernel
theorem dX4_agreesWithAll_63 : decode μX4_agreesWithAll.2.1 63 = .ok (.aload_n 0, 1) := by decide +kernel
theorem dX4_agreesWithAll_64 : decode μX4_agreesWithAll.2.1 64 = .ok (.getfield 19, 3) := by decide +kernel
theorem dX4_agreesWithAll_67 : decode μX4_agreesWithAll.2.1 67 = .ok (.iload_n 3, 1) := by decide +kernel
theorem dX4_agreesWithAll_68 : decode μX4_agreesWithAll.2.1 68 = .ok (.iaload, 1) := by decide +kernel
theorem dX4_agreesWithAll_69 : decode μX4_agreesWithAll.2.1 69 = .ok (.if_icmp .lt 7, 3) := by decide +kernel
theorem dX4_agreesWithAll_72 : decode μX4_agreesWithAll.2.1 72 = .ok (.iconst 1, 1) := by decide +kernel
theorem dX4_agreesWithAll_73 : decode μX4_agreesWithAll.2.1 73 = .ok (.goto 4, 3) := by decide +kernel
theorem dX4_agreesWithAll_76 : decode μX4_agreesWithAll.2.1 76 = .ok (.iconst 0, 1) := by decide +kernel
theorem dX4_agreesWithAll_77 : decode μX4_agreesWithAll.2.1 77 = .ok (.istore 5, 2) := by decide +kernel
theorem dX4_agreesWithAll_79 : decode μX4_agreesWithAll.2.1 79 = .ok (.iload 4, 2) := by decide +kernel
theorem dX4_agreesWithAll_81 : decode μX4_agreesWithAll.2.1 81 = .ok (.ifCond .eq 16, 3) := by decide +kernel
theorem dX4_agreesWithAll_84 : decode μX4_agreesWithAll.2.1 84 = .ok (.iload 5, 2) := by decide +kernel
theorem dX4_agreesWithAll_86 : decode μX4_agreesWithAll.2.1 86 = .ok (.aload_n 0, 1) := by decide +kernel
theorem dX4_agreesWithAll_87 : decode μX4_agreesWithAll.2.1 87 = .ok (.getfield 22, 3) := by decide +kernel
theorem dX4_agreesWithAll_90 : decode μX4_agreesWithAll.2.1 90 = .ok (.iload_n 3, 1) := by decide +kernel
theorem dX4_agreesWithAll_91 : decode μX4_agreesWithAll.2.1 91 = .ok (.baload, 1) := by decide +kernel
theorem dX4_agreesWithAll_92 : decode μX4_agreesWithAll.2.1 92 = .ok (.if_icmp .eq 5, 3) := by decide +kernel
theorem dX4_agreesWithAll_95 : decode μX4_agreesWithAll.2.1 95 = .ok (.iconst 0, 1) := by decide +kernel
theorem dX4_agreesWithAll_96 : decode μX4_agreesWithAll.2.1 96 = .ok (.ireturn, 1) := by decide +kernel
theorem dX4_agreesWithAll_97 : decode μX4_agreesWithAll.2.1 97 = .ok (.iinc 3 1, 3) := by decide +kernel
theorem dX4_agreesWithAll_100 : decode μX4_agreesWithAll.2.1 100 = .ok (.goto (-98), 3) := by decide +kernel
theorem dX4_agreesWithAll_103 : decode μX4_agreesWithAll.2.1 103 = .ok (.iconst 1, 1) := by decide +kernel
theorem dX4_agreesWithAll_104 : decode μX4_agreesWithAll.2.1 104 = .ok (.ireturn, 1) := by decide +kernel
set_option maxRecDepth 20000 in
theorem sg_X4_agreesWithAll_0 {d : Nat} {x1 : Int32} {x2 : Int32} {M : Mem} {K : (Int32 → Mem → Prop)}  (h : RI d μX4_agreesWithAll 2 [(0, .ref 48), (1, .int x1), (2, .int x2), (3, .int 0)] [] M K) : CI d μX4_agreesWithAll [.ref 48, .int x1, .int x2] M K := by
  show Rn d μX4_agreesWithAll 0 [(0, .ref 48), (1, .int x1), (2, .int x2)] [] M _
  refine rn_iconst (v := 0) dX4_agreesWithAll_0 rfl ?_
  refine rn_istore_n (lv' := [(0, .ref 48), (1, .int x1), (2, .int x2), (3, .int 0)]) (hd := dX4_agreesWithAll_1) (i := 3) (hi := rfl) (hn := by decide) (hf := rfl) (hl := rfl) ?_
  exact h
set_option maxRecDepth 20000 in
theorem sg_X4_agreesWithAll_2 {d : Nat} {x1 : Int32} {x2 : Int32} {x3 : Int32} {M : Mem} {K : (Int32 → Mem → Prop)}  (h : (if ri M 48 0 ≤ x3 then K 1 M else (vp_in x3 30 ∧ (if x2 < ri M 52 (nx x3) then RI d μX4_agreesWithAll 45 [(0, .ref 48), (1, .int x1), (2, .int x2), (3, .int x3)] [.int 0] M K else (vp_in x3 30 ∧ (if ri M 53 (nx x3) = (-1) then RI d μX4_agreesWithAll 45 [(0, .ref 48), (1, .int x1), (2, .int x2), (3, .int x3)] [.int 1] M K else (vp_in x3 30 ∧ (if ri M 53 (nx x3) ≤ x2 then RI d μX4_agreesWithAll 45 [(0, .ref 48), (1, .int x1), (2, .int x2), (3, .int x3)] [.int 0] M K else RI d μX4_agreesWithAll 45 [(0, .ref 48), (1, .int x1), (2, .int x2), (3, .int x3)] [.int 1] M K)))))))) : RI d μX4_agreesWithAll 2 [(0, .ref 48), (1, .int x1), (2, .int x2), (3, .int x3)] [] M K := by
  show Rn d μX4_agreesWithAll 2 [(0, .ref 48), (1, .int x1), (2, .int x2), (3, .int x3)] [] M _
  refine rn_iload_n (i := 3) (x := x3) dX4_agreesWithAll_2 rfl (by simp) ?_
  refine rn_aload_n (i := 0) (x := 48) dX4_agreesWithAll_3 rfl (by simp) ?_
  refine rn_geti dX4_agreesWithAll_4 rfl gf_X4_9 (by decide) ?_
  refine rn_icmp_ge (tgt := 103) dX4_agreesWithAll_7 (by decide) (ite_go h (fun hc h => ?_) (fun hc h => ?_))
  · refine rn_iconst (v := 1) dX4_agreesWithAll_103 rfl ?_
    exact rn_zret dX4_agreesWithAll_104 rfl (by decide) ⟨_, rfl, h⟩
  · refine rn_aload_n (i := 0) (x := 48) dX4_agreesWithAll_10 rfl (by simp) ?_
    refine rn_getr (t := 52) dX4_agreesWithAll_11 rfl gf_X4_26 rfl rfl ?_
    refine rn_iload_n (i := 3) (x := x3) dX4_agreesWithAll_14 rfl (by simp) ?_
    obtain ⟨hi, h⟩ := h
    refine rn_iaload dX4_agreesWithAll_15 rfl hi ?_
    refine rn_iload_n (i := 2) (x := x2) dX4_agreesWithAll_16 rfl (by simp) ?_
    refine rn_icmp_gt (tgt := 44) dX4_agreesWithAll_17 (by decide) (ite_go h (fun hc h => ?_) (fun hc h => ?_))
    · refine rn_iconst (v := 0) dX4_agreesWithAll_44 rfl ?_
      exact h
    · refine rn_aload_n (i := 0) (x := 48) dX4_agreesWithAll_20 rfl (by simp) ?_
      refine rn_getr (t := 53) dX4_agreesWithAll_21 rfl gf_X4_29 rfl rfl ?_
      refine rn_iload_n (i := 3) (x := x3) dX4_agreesWithAll_24 rfl (by simp) ?_
      obtain ⟨hi, h⟩ := h
      refine rn_iaload dX4_agreesWithAll_25 rfl hi ?_
      refine rn_iconst (v := -1) dX4_agreesWithAll_26 rfl ?_
      refine rn_icmp_eq (tgt := 40) dX4_agreesWithAll_27 (by decide) (ite_go h (fun hc h => ?_) (fun hc h => ?_))
      · refine rn_iconst (v := 1) dX4_agreesWithAll_40 rfl ?_
        refine rn_goto (tgt := 45) dX4_agreesWithAll_41 (by decide) ?_
        exact h
      · refine rn_aload_n (i := 0) (x := 48) dX4_agreesWithAll_30 rfl (by simp) ?_
        refine rn_getr (t := 53) dX4_agreesWithAll_31 rfl gf_X4_29 rfl rfl ?_
        refine rn_iload_n (i := 3) (x := x3) dX4_agreesWithAll_34 rfl (by simp) ?_
        obtain ⟨hi, h⟩ := h
        refine rn_iaload dX4_agreesWithAll_35 rfl hi ?_
        refine rn_iload_n (i := 2) (x := x2) dX4_agreesWithAll_36 rfl (by simp) ?_
        refine rn_icmp_le (tgt := 44) dX4_agreesWithAll_37 (by decide) (ite_go h (fun hc h => ?_) (fun hc h => ?_))
        · refine rn_iconst (v := 0) dX4_agreesWithAll_44 rfl ?_
          exact h
        · refine rn_iconst (v := 1) dX4_agreesWithAll_40 rfl ?_
          refine rn_goto (tgt := 45) dX4_agreesWithAll_41 (by decide) ?_
          exact h
set_option maxRecDepth 20000 in
theorem sg_X4_agreesWithAll_45 {d : Nat} {x1 : Int32} {x2 : Int32} {x3 : Int32} {y0 : Int32} {M : Mem} {K : (Int32 → Mem → Prop)}  (h : (vp_in x3 30 ∧ (vp_in ((x1 * 13) + (ri M 49 (nx x3))) 403 ∧ (vp_in x3 30 ∧ (if ri M 54 (nx ((x1 * 13) + (ri M 49 (nx x3)))) < ri M 50 (nx x3) then RI d μX4_agreesWithAll 77 [(0, .ref 48), (1, .int x1), (2, .int x2), (3, .int x3), (4, .int y0)] [.int 0] M K else RI d μX4_agreesWithAll 77 [(0, .ref 48), (1, .int x1), (2, .int x2), (3, .int x3), (4, .int y0)] [.int 1] M K))))) : RI d μX4_agreesWithAll 45 [(0, .ref 48), (1, .int x1), (2, .int x2), (3, .int x3)] [.int y0] M K := by
  show Rn d μX4_agreesWithAll 45 [(0, .ref 48), (1, .int x1), (2, .int x2), (3, .int x3)] [.int y0] M _
  refine rn_istore (lv' := [(0, .ref 48), (1, .int x1), (2, .int x2), (3, .int x3), (4, .int y0)]) (hd := dX4_agreesWithAll_45) (hn := by decide) (hf := rfl) (hl := rfl) ?_
  refine rn_aload_n (i := 0) (x := 48) dX4_agreesWithAll_47 rfl (by simp) ?_
  refine rn_getr (t := 54) dX4_agreesWithAll_48 rfl gf_X4_32 rfl rfl ?_
  refine rn_iload_n (i := 1) (x := x1) dX4_agreesWithAll_51 rfl (by simp) ?_
  refine rn_bipush (v := 13) dX4_agreesWithAll_52 rfl ?_
  refine rn_imul dX4_agreesWithAll_54 ?_
  refine rn_aload_n (i := 0) (x := 48) dX4_agreesWithAll_55 rfl (by simp) ?_
  refine rn_getr (t := 49) dX4_agreesWithAll_56 rfl gf_X4_15 rfl rfl ?_
  refine rn_iload_n (i := 3) (x := x3) dX4_agreesWithAll_59 rfl (by simp) ?_
  obtain ⟨hi, h⟩ := h
  refine rn_iaload dX4_agreesWithAll_60 rfl hi ?_
  refine rn_iadd dX4_agreesWithAll_61 ?_
  obtain ⟨hi, h⟩ := h
  refine rn_iaload dX4_agreesWithAll_62 rfl hi ?_
  refine rn_aload_n (i := 0) (x := 48) dX4_agreesWithAll_63 rfl (by simp) ?_
  refine rn_getr (t := 50) dX4_agreesWithAll_64 rfl gf_X4_19 rfl rfl ?_
  refine rn_iload_n (i := 3) (x := x3) dX4_agreesWithAll_67 rfl (by simp) ?_
  obtain ⟨hi, h⟩ := h
  refine rn_iaload dX4_agreesWithAll_68 rfl hi ?_
  refine rn_icmp_lt (tgt := 76) dX4_agreesWithAll_69 (by decide) (ite_go h (fun hc h => ?_) (fun hc h => ?_))
  · refine rn_iconst (v := 0) dX4_agreesWithAll_76 rfl ?_
    exact h
  · refine rn_iconst (v := 1) dX4_agreesWithAll_72 rfl ?_
    refine rn_goto (tgt := 77) dX4_agreesWithAll_73 (by decide) ?_
    exact h
set_option maxRecDepth 20000 in
theorem sg_X4_agreesWithAll_77 {d : Nat} {x1 : Int32} {x2 : Int32} {x3 : Int32} {x4 : Int32} {y0 : Int32} {M : Mem} {K : (Int32 → Mem → Prop)}  (h : (if x4 = 0 then RI d μX4_agreesWithAll 2 [(0, .ref 48), (1, .int x1), (2, .int x2), (3, .int (x3 + 1))] [] M K else (vp_in x3 30 ∧ (if y0 = ri M 51 (nx x3) then RI d μX4_agreesWithAll 2 [(0, .ref 48), (1, .int x1), (2, .int x2), (3, .int (x3 + 1))] [] M K else K 0 M)))) : RI d μX4_agreesWithAll 77 [(0, .ref 48), (1, .int x1), (2, .int x2), (3, .int x3), (4, .int x4)] [.int y0] M K := by
  show Rn d μX4_agreesWithAll 77 [(0, .ref 48), (1, .int x1), (2, .int x2), (3, .int x3), (4, .int x4)] [.int y0] M _
  refine rn_istore (lv' := [(0, .ref 48), (1, .int x1), (2, .int x2), (3, .int x3), (4, .int x4), (5, .int y0)]) (hd := dX4_agreesWithAll_77) (hn := by decide) (hf := rfl) (hl := rfl) ?_
  refine rn_iload (x := x4) dX4_agreesWithAll_79 (by simp) ?_
  refine rn_if_eq (tgt := 97) dX4_agreesWithAll_81 (by decide) (ite_go h (fun hc h => ?_) (fun hc h => ?_))
  · refine rn_iinc (x := x3) (v := x3 + 1) (lv' := [(0, .ref 48), (1, .int x1), (2, .int x2), (3, .int (x3 + 1)), (4, .int x4), (5, .int y0)]) dX4_agreesWithAll_97 (by simp) rfl (by decide) rfl rfl ?_
    refine rn_goto (tgt := 2) dX4_agreesWithAll_100 (by decide) ?_
    refine Rn.sub (lv' := [(0, .ref 48), (1, .int x1), (2, .int x2), (3, .int (x3 + 1))]) (by simp) ?_
    exact h
  · refine rn_iload (x := y0) dX4_agreesWithAll_84 (by simp) ?_
    refine rn_aload_n (i := 0) (x := 48) dX4_agreesWithAll_86 rfl (by simp) ?_
    refine rn_getr (t := 51) dX4_agreesWithAll_87 rfl gf_X4_22 rfl rfl ?_
    refine rn_iload_n (i := 3) (x := x3) dX4_agreesWithAll_90 rfl (by simp) ?_
    obtain ⟨hi, h⟩ := h
    refine rn_zaload dX4_agreesWithAll_91 rfl hi ?_
    refine rn_icmp_eq (tgt := 97) dX4_agreesWithAll_92 (by decide) (ite_go h (fun hc h => ?_) (fun hc h => ?_))
    · refine rn_iinc (x := x3) (v := x3 + 1) (lv' := [(0, .ref 48), (1, .int x1), (2, .int x2), (3, .int (x3 + 1)), (4, .int x4), (5, .int y0)]) dX4_agreesWithAll_97 (by simp) rfl (by decide) rfl rfl ?_
      refine rn_goto (tgt := 2) dX4_agreesWithAll_100 (by decide) ?_
      refine Rn.sub (lv' := [(0, .ref 48), (1, .int x1), (2, .int x2), (3, .int (x3 + 1))]) (by simp) ?_
      exact h
    · refine rn_iconst (v := 0) dX4_agreesWithAll_95 rfl ?_
      exact rn_zret dX4_agreesWithAll_96 rfl (by decide) ⟨_, rfl, h⟩
theorem dX4_leastFit_0 : decode μX4_leastFit.2.1 0 = .ok (.iconst 0, 1) := by decide +kernel
theorem dX4_leastFit_1 : decode μX4_leastFit.2.1 1 = .ok (.istore_n 1, 1) := by decide +kernel
theorem dX4_leastFit_2 : decode μX4_leastFit.2.1 2 = .ok (.iload_n 1, 1) := by decide +kernel
theorem dX4_leastFit_3 : decode μX4_leastFit.2.1 3 = .ok (.bipush 31, 2) := by decide +kernel
theorem dX4_leastFit_5 : decode μX4_leastFit.2.1 5 = .ok (.if_icmp .ge 20, 3) := by decide +kernel
theorem dX4_leastFit_8 : decode μX4_leastFit.2.1 8 = .ok (.aload_n 0, 1) := by decide +kernel
theorem dX4_leastFit_9 : decode μX4_leastFit.2.1 9 = .ok (.getfield 39, 3) := by decide +kernel
theorem dX4_leastFit_12 : decode μX4_leastFit.2.1 12 = .ok (.iload_n 1, 1) := by decide +kernel
theorem dX4_leastFit_13 : decode μX4_leastFit.2.1 13 = .ok (.baload, 1) := by decide +kernel
theorem dX4_leastFit_14 : decode μX4_leastFit.2.1 14 = .ok (.ifCond .eq 5, 3) := by decide +kernel
theorem dX4_leastFit_17 : decode μX4_leastFit.2.1 17 = .ok (.iload_n 1, 1) := by decide +kernel
theorem dX4_leastFit_18 : decode μX4_leastFit.2.1 18 = .ok (.ireturn, 1) := by decide +kernel
theorem dX4_leastFit_19 : decode μX4_leastFit.2.1 19 = .ok (.iinc 1 1, 3) := by decide +kernel
theorem dX4_leastFit_22 : decode μX4_leastFit.2.1 22 = .ok (.goto (-20), 3) := by decide +kernel
theorem dX4_leastFit_25 : decode μX4_leastFit.2.1 25 = .ok (.iconst (-1), 1) := by decide +kernel
theorem dX4_leastFit_26 : decode μX4_leastFit.2.1 26 = .ok (.ireturn, 1) := by decide +kernel
set_option maxRecDepth 20000 in
theorem sg_X4_leastFit_0 {d : Nat}  {M : Mem} {K : (Int32 → Mem → Prop)}  (h : RI d μX4_leastFit 2 [(0, .ref 48), (1, .int 0)] [] M K) : CI d μX4_leastFit [.ref 48] M K := by
  show Rn d μX4_leastFit 0 [(0, .ref 48)] [] M _
  refine rn_iconst (v := 0) dX4_leastFit_0 rfl ?_
  refine rn_istore_n (lv' := [(0, .ref 48), (1, .int 0)]) (hd := dX4_leastFit_1) (i := 1) (hi := rfl) (hn := by decide) (hf := rfl) (hl := rfl) ?_
  exact h
set_option maxRecDepth 20000 in
theorem sg_X4_leastFit_2 {d : Nat} {x1 : Int32} {M : Mem} {K : (Int32 → Mem → Prop)}  (h : (if 31 ≤ x1 then K ((-1)) M else (vp_in x1 31 ∧ (if ri M 55 (nx x1) = 0 then RI d μX4_leastFit 2 [(0, .ref 48), (1, .int (x1 + 1))] [] M K else K x1 M)))) : RI d μX4_leastFit 2 [(0, .ref 48), (1, .int x1)] [] M K := by
  show Rn d μX4_leastFit 2 [(0, .ref 48), (1, .int x1)] [] M _
  refine rn_iload_n (i := 1) (x := x1) dX4_leastFit_2 rfl (by simp) ?_
  refine rn_bipush (v := 31) dX4_leastFit_3 rfl ?_
  refine rn_icmp_ge (tgt := 25) dX4_leastFit_5 (by decide) (ite_go h (fun hc h => ?_) (fun hc h => ?_))
  · refine rn_iconst (v := -1) dX4_leastFit_25 rfl ?_
    exact rn_iret dX4_leastFit_26 rfl ⟨_, rfl, h⟩
  · refine rn_aload_n (i := 0) (x := 48) dX4_leastFit_8 rfl (by simp) ?_
    refine rn_getr (t := 55) dX4_leastFit_9 rfl gf_X4_39 rfl rfl ?_
    refine rn_iload_n (i := 1) (x := x1) dX4_leastFit_12 rfl (by simp) ?_
    obtain ⟨hi, h⟩ := h
    refine rn_zaload dX4_leastFit_13 rfl hi ?_
    refine rn_if_eq (tgt := 19) dX4_leastFit_14 (by decide) (ite_go h (fun hc h => ?_) (fun hc h => ?_))
    · refine rn_iinc (x := x1) (v := x1 + 1) (lv' := [(0, .ref 48), (1, .int (x1 + 1))]) dX4_leastFit_19 (by simp) rfl (by decide) rfl rfl ?_
      refine rn_goto (tgt := 2) dX4_leastFit_22 (by decide) ?_
      exact h
    · refine rn_iload_n (i := 1) (x := x1) dX4_leastFit_17 rfl (by simp) ?_
      exact rn_iret dX4_leastFit_18 rfl ⟨_, rfl, h⟩
theorem dX4_greatestFit_0 : decode μX4_greatestFit.2.1 0 = .ok (.bipush 30, 2) := by decide +kernel
theorem dX4_greatestFit_2 : decode μX4_greatestFit.2.1 2 = .ok (.istore_n 1, 1) := by decide +kernel
theorem dX4_greatestFit_3 : decode μX4_greatestFit.2.1 3 = .ok (.iload_n 1, 1) := by decide +kernel
theorem dX4_greatestFit_4 : decode μX4_greatestFit.2.1 4 = .ok (.ifCond .lt 20, 3) := by decide +kernel
theorem dX4_greatestFit_7 : decode μX4_greatestFit.2.1 7 = .ok (.aload_n 0, 1) := by decide +kernel
theorem dX4_greatestFit_8 : decode μX4_greatestFit.2.1 8 = .ok (.getfield 39, 3) := by decide +kernel
theorem dX4_greatestFit_11 : decode μX4_greatestFit.2.1 11 = .ok (.iload_n 1, 1) := by decide +kernel
theorem dX4_greatestFit_12 : decode μX4_greatestFit.2.1 12 = .ok (.baload, 1) := by decide +kernel
theorem dX4_greatestFit_13 : decode μX4_greatestFit.2.1 13 = .ok (.ifCond .eq 5, 3) := by decide +kernel
theorem dX4_greatestFit_16 : decode μX4_greatestFit.2.1 16 = .ok (.iload_n 1, 1) := by decide +kernel
theorem dX4_greatestFit_17 : decode μX4_greatestFit.2.1 17 = .ok (.ireturn, 1) := by decide +kernel
theorem dX4_greatestFit_18 : decode μX4_greatestFit.2.1 18 = .ok (.iinc 1 (-1), 3) := by decide +kernel
theorem dX4_greatestFit_21 : decode μX4_greatestFit.2.1 21 = .ok (.goto (-18), 3) := by decide +kernel
theorem dX4_greatestFit_24 : decode μX4_greatestFit.2.1 24 = .ok (.iconst (-1), 1) := by decide +kernel
theorem dX4_greatestFit_25 : decode μX4_greatestFit.2.1 25 = .ok (.ireturn, 1) := by decide +kernel
set_option maxRecDepth 20000 in
theorem sg_X4_greatestFit_0 {d : Nat}  {M : Mem} {K : (Int32 → Mem → Prop)}  (h : RI d μX4_greatestFit 3 [(0, .ref 48), (1, .int 30)] [] M K) : CI d μX4_greatestFit [.ref 48] M K := by
  show Rn d μX4_greatestFit 0 [(0, .ref 48)] [] M _
  refine rn_bipush (v := 30) dX4_greatestFit_0 rfl ?_
  refine rn_istore_n (lv' := [(0, .ref 48), (1, .int 30)]) (hd := dX4_greatestFit_2) (i := 1) (hi := rfl) (hn := by decide) (hf := rfl) (hl := rfl) ?_
  exact h
set_option maxRecDepth 20000 in
theorem sg_X4_greatestFit_3 {d : Nat} {x1 : Int32} {M : Mem} {K : (Int32 → Mem → Prop)}  (h : (if x1 < 0 then K ((-1)) M else (vp_in x1 31 ∧ (if ri M 55 (nx x1) = 0 then RI d μX4_greatestFit 3 [(0, .ref 48), (1, .int (x1 + (-1)))] [] M K else K x1 M)))) : RI d μX4_greatestFit 3 [(0, .ref 48), (1, .int x1)] [] M K := by
  show Rn d μX4_greatestFit 3 [(0, .ref 48), (1, .int x1)] [] M _
  refine rn_iload_n (i := 1) (x := x1) dX4_greatestFit_3 rfl (by simp) ?_
  refine rn_if_lt (tgt := 24) dX4_greatestFit_4 (by decide) (ite_go h (fun hc h => ?_) (fun hc h => ?_))
  · refine rn_iconst (v := -1) dX4_greatestFit_24 rfl ?_
    exact rn_iret dX4_greatestFit_25 rfl ⟨_, rfl, h⟩
  · refine rn_aload_n (i := 0) (x := 48) dX4_greatestFit_7 rfl (by simp) ?_
    refine rn_getr (t := 55) dX4_greatestFit_8 rfl gf_X4_39 rfl rfl ?_
    refine rn_iload_n (i := 1) (x := x1) dX4_greatestFit_11 rfl (by simp) ?_
    obtain ⟨hi, h⟩ := h
    refine rn_zaload dX4_greatestFit_12 rfl hi ?_
    refine rn_if_eq (tgt := 18) dX4_greatestFit_13 (by decide) (ite_go h (fun hc h => ?_) (fun hc h => ?_))
    · refine rn_iinc (x := x1) (v := x1 + (-1)) (lv' := [(0, .ref 48), (1, .int (x1 + (-1)))]) dX4_greatestFit_18 (by simp) rfl (by decide) rfl rfl ?_
      refine rn_goto (tgt := 3) dX4_greatestFit_21 (by decide) ?_
      exact h
    · refine rn_iload_n (i := 1) (x := x1) dX4_greatestFit_16 rfl (by simp) ?_
      exact rn_iret dX4_greatestFit_17 rfl ⟨_, rfl, h⟩
theorem dX4_mostLeftBehind_0 : decode μX4_mostLeftBehind.2.1 0 = .ok (.iconst 0, 1) := by decide +kernel
theorem dX4_mostLeftBehind_1 : decode μX4_mostLeftBehind.2.1 1 = .ok (.istore_n 2, 1) := by decide +kernel
theorem dX4_mostLeftBehind_2 : decode μX4_mostLeftBehind.2.1 2 = .ok (.iload_n 2, 1) := by decide +kernel
theorem dX4_mostLeftBehind_3 : decode μX4_mostLeftBehind.2.1 3 = .ok (.bipush 9, 2) := by decide +kernel
theorem dX4_mostLeftBehind_5 : decode μX4_mostLeftBehind.2.1 5 = .ok (.if_icmp .ge 16, 3) := by decide +kernel
theorem dX4_mostLeftBehind_8 : decode μX4_mostLeftBehind.2.1 8 = .ok (.aload_n 0, 1) := by decide +kernel
theorem dX4_mostLeftBehind_9 : decode μX4_mostLeftBehind.2.1 9 = .ok (.getfield 42, 3) := by decide +kernel
theorem dX4_mostLeftBehind_12 : decode μX4_mostLeftBehind.2.1 12 = .ok (.iload_n 2, 1) := by decide +kernel
theorem dX4_mostLeftBehind_13 : decode μX4_mostLeftBehind.2.1 13 = .ok (.iconst 0, 1) := by decide +kernel
theorem dX4_mostLeftBehind_14 : decode μX4_mostLeftBehind.2.1 14 = .ok (.iastore, 1) := by decide +kernel
theorem dX4_mostLeftBehind_15 : decode μX4_mostLeftBehind.2.1 15 = .ok (.iinc 2 1, 3) := by decide +kernel
theorem dX4_mostLeftBehind_18 : decode μX4_mostLeftBehind.2.1 18 = .ok (.goto (-16), 3) := by decide +kernel
theorem dX4_mostLeftBehind_21 : decode μX4_mostLeftBehind.2.1 21 = .ok (.iconst 0, 1) := by decide +kernel
theorem dX4_mostLeftBehind_22 : decode μX4_mostLeftBehind.2.1 22 = .ok (.istore_n 2, 1) := by decide +kernel
theorem dX4_mostLeftBehind_23 : decode μX4_mostLeftBehind.2.1 23 = .ok (.iconst 0, 1) := by decide +kernel
theorem dX4_mostLeftBehind_24 : decode μX4_mostLeftBehind.2.1 24 = .ok (.istore_n 3, 1) := by decide +kernel
theorem dX4_mostLeftBehind_25 : decode μX4_mostLeftBehind.2.1 25 = .ok (.iload_n 3, 1) := by decide +kernel
theorem dX4_mostLeftBehind_26 : decode μX4_mostLeftBehind.2.1 26 = .ok (.bipush 31, 2) := by decide +kernel
theorem dX4_mostLeftBehind_28 : decode μX4_mostLeftBehind.2.1 28 = .ok (.if_icmp .ge 61, 3) := by decide +kernel
theorem dX4_mostLeftBehind_31 : decode μX4_mostLeftBehind.2.1 31 = .ok (.aload_n 0, 1) := by decide +kernel
theorem dX4_mostLeftBehind_32 : decode μX4_mostLeftBehind.2.1 32 = .ok (.getfield 32, 3) := by decide +kernel
theorem dX4_mostLeftBehind_35 : decode μX4_mostLeftBehind.2.1 35 = .ok (.iload_n 3, 1) := by decide +kernel
theorem dX4_mostLeftBehind_36 : decode μX4_mostLeftBehind.2.1 36 = .ok (.bipush 13, 2) := by decide +kernel
theorem dX4_mostLeftBehind_38 : decode μX4_mostLeftBehind.2.1 38 = .ok (.imul, 1) := by decide +kernel
theorem dX4_mostLeftBehind_39 : decode μX4_mostLeftBehind.2.1 39 = .ok (.iload_n 1, 1) := by decide +kernel
theorem dX4_mostLeftBehind_40 : decode μX4_mostLeftBehind.2.1 40 = .ok (.iadd, 1) := by decide +kernel
theorem dX4_mostLeftBehind_41 : decode μX4_mostLeftBehind.2.1 41 = .ok (.iaload, 1) := by decide +kernel
theorem dX4_mostLeftBehind_42 : decode μX4_mostLeftBehind.2.1 42 = .ok (.istore 4, 2) := by decide +kernel
theorem dX4_mostLeftBehind_44 : decode μX4_mostLeftBehind.2.1 44 = .ok (.aload_n 0, 1) := by decide +kernel
theorem dX4_mostLeftBehind_45 : decode μX4_mostLeftBehind.2.1 45 = .ok (.getfield 39, 3) := by decide +kernel
theorem dX4_mostLeftBehind_48 : decode μX4_mostLeftBehind.2.1 48 = .ok (.iload_n 3, 1) := by decide +kernel
theorem dX4_mostLeftBehind_49 : decode μX4_mostLeftBehind.2.1 49 = .ok (.baload, 1) := by decide +kernel
theorem dX4_mostLeftBehind_50 : decode μX4_mostLeftBehind.2.1 50 = .ok (.ifCond .eq 33, 3) := by decide +kernel
theorem dX4_mostLeftBehind_53 : decode μX4_mostLeftBehind.2.1 53 = .ok (.iload 4, 2) := by decide +kernel
theorem dX4_mostLeftBehind_55 : decode μX4_mostLeftBehind.2.1 55 = .ok (.bipush 9, 2) := by decide +kernel
theorem dX4_mostLeftBehind_57 : decode μX4_mostLeftBehind.2.1 57 = .ok (.if_icmp .ge 26, 3) := by decide +kernel
theorem dX4_mostLeftBehind_60 : decode μX4_mostLeftBehind.2.1 60 = .ok (.aload_n 0, 1) := by decide +kernel
theorem dX4_mostLeftBehind_61 : decode μX4_mostLeftBehind.2.1 61 = .ok (.getfield 42, 3) := by decide +kernel
theorem dX4_mostLeftBehind_64 : decode μX4_mostLeftBehind.2.1 64 = .ok (.iload 4, 2) := by decide +kernel
theorem dX4_mostLeftBehind_66 : decode μX4_mostLeftBehind.2.1 66 = .ok (.dup2, 1) := by decide +kernel
theorem dX4_mostLeftBehind_67 : decode μX4_mostLeftBehind.2.1 67 = .ok (.iaload, 1) := by decide +kernel
theorem dX4_mostLeftBehind_68 : decode μX4_mostLeftBehind.2.1 68 = .ok (.iconst 1, 1) := by decide +kernel
theorem dX4_mostLeftBehind_69 : decode μX4_mostLeftBehind.2.1 69 = .ok (.iadd, 1) := by decide +kernel
theorem dX4_mostLeftBehind_70 : decode μX4_mostLeftBehind.2.1 70 = .ok (.iastore, 1) := by decide +kernel
theorem dX4_mostLeftBehind_71 : decode μX4_mostLeftBehind.2.1 71 = .ok (.iload_n 2, 1) := by decide +kernel
theorem dX4_mostLeftBehind_72 : decode μX4_mostLeftBehind.2.1 72 = .ok (.aload_n 0, 1) := by decide +kernel
theorem dX4_mostLeftBehind_73 : decode μX4_mostLeftBehind.2.1 73 = .ok (.getfield 42, 3) := by decide +kernel
theorem dX4_mostLeftBehind_76 : decode μX4_mostLeftBehind.2.1 76 = .ok (.iload 4, 2) := by decide +kernel
theorem dX4_mostLeftBehind_78 : decode μX4_mostLeftBehind.2.1 78 = .ok (.iaload, 1) := by decide +kernel
theorem dX4_mostLeftBehind_79 : decode μX4_mostLeftBehind.2.1 79 = .ok (.invokestatic 82, 3) := by decide +kernel
theorem dX4_mostLeftBehind_82 : decode μX4_mostLeftBehind.2.1 82 = .ok (.istore_n 2, 1) := by decide +kernel
theorem dX4_mostLeftBehind_83 : decode μX4_mostLeftBehind.2.1 83 = .ok (.iinc 3 1, 3) := by decide +kernel
theorem dX4_mostLeftBehind_86 : decode μX4_mostLeftBehind.2.1 86 = .ok (.goto (-61), 3) := by decide +kernel
theorem dX4_mostLeftBehind_89 : decode μX4_mostLeftBehind.2.1 89 = .ok (.iload_n 2, 1) := by decide +kernel
theorem dX4_mostLeftBehind_90 : decode μX4_mostLeftBehind.2.1 90 = .ok (.ireturn, 1) := by decide +kernel
set_option maxRecDepth 20000 in
theorem sg_X4_mostLeftBehind_0 {d : Nat} {x1 : Int32} {M : Mem} {K : (Int32 → Mem → Prop)}  (h : RI (d + 1) μX4_mostLeftBehind 2 [(0, .ref 48), (1, .int x1), (2, .int 0)] [] M K) : CI (d + 1) μX4_mostLeftBehind [.ref 48, .int x1] M K := by
  show Rn (d + 1) μX4_mostLeftBehind 0 [(0, .ref 48), (1, .int x1)] [] M _
  refine rn_iconst (v := 0) dX4_mostLeftBehind_0 rfl ?_
  refine rn_istore_n (lv' := [(0, .ref 48), (1, .int x1), (2, .int 0)]) (hd := dX4_mostLeftBehind_1) (i := 2) (hi := rfl) (hn := by decide) (hf := rfl) (hl := rfl) ?_
  exact h
set_option maxRecDepth 20000 in
theorem sg_X4_mostLeftBehind_2 {d : Nat} {x1 : Int32} {x2 : Int32} {M : Mem} {K : (Int32 → Mem → Prop)}  (h : (if 9 ≤ x2 then RI (d + 1) μX4_mostLeftBehind 25 [(0, .ref 48), (1, .int x1), (2, .int 0), (3, .int 0)] [] M K else (vp_in x2 9 ∧ ∀ M1, M1 = wi M 56 (nx x2) 0 → RI (d + 1) μX4_mostLeftBehind 2 [(0, .ref 48), (1, .int x1), (2, .int (x2 + 1))] [] M1 K))) : RI (d + 1) μX4_mostLeftBehind 2 [(0, .ref 48), (1, .int x1), (2, .int x2)] [] M K := by
  show Rn (d + 1) μX4_mostLeftBehind 2 [(0, .ref 48), (1, .int x1), (2, .int x2)] [] M _
  refine rn_iload_n (i := 2) (x := x2) dX4_mostLeftBehind_2 rfl (by simp) ?_
  refine rn_bipush (v := 9) dX4_mostLeftBehind_3 rfl ?_
  refine rn_icmp_ge (tgt := 21) dX4_mostLeftBehind_5 (by decide) (ite_go h (fun hc h => ?_) (fun hc h => ?_))
  · refine rn_iconst (v := 0) dX4_mostLeftBehind_21 rfl ?_
    refine rn_istore_n (lv' := [(0, .ref 48), (1, .int x1), (2, .int 0)]) (hd := dX4_mostLeftBehind_22) (i := 2) (hi := rfl) (hn := by decide) (hf := rfl) (hl := rfl) ?_
    refine rn_iconst (v := 0) dX4_mostLeftBehind_23 rfl ?_
    refine rn_istore_n (lv' := [(0, .ref 48), (1, .int x1), (2, .int 0), (3, .int 0)]) (hd := dX4_mostLeftBehind_24) (i := 3) (hi := rfl) (hn := by decide) (hf := rfl) (hl := rfl) ?_
    exact h
  · refine rn_aload_n (i := 0) (x := 48) dX4_mostLeftBehind_8 rfl (by simp) ?_
    refine rn_getr (t := 56) dX4_mostLeftBehind_9 rfl gf_X4_42 rfl rfl ?_
    refine rn_iload_n (i := 2) (x := x2) dX4_mostLeftBehind_12 rfl (by simp) ?_
    refine rn_iconst (v := 0) dX4_mostLeftBehind_13 rfl ?_
    obtain ⟨hi, h⟩ := h
    have h := h _ rfl
    refine rn_iastore dX4_mostLeftBehind_14 rfl hi ?_
    generalize wi M 56 (nx x2) 0 = M1 at h ⊢
    refine rn_iinc (x := x2) (v := x2 + 1) (lv' := [(0, .ref 48), (1, .int x1), (2, .int (x2 + 1))]) dX4_mostLeftBehind_15 (by simp) rfl (by decide) rfl rfl ?_
    refine rn_goto (tgt := 2) dX4_mostLeftBehind_18 (by decide) ?_
    exact h
set_option maxRecDepth 20000 in
theorem sg_X4_mostLeftBehind_25 {d : Nat} {x1 : Int32} {x2 : Int32} {x3 : Int32} {M : Mem} {K : (Int32 → Mem → Prop)}  (h : (if 31 ≤ x3 then K x2 M else (vp_in ((x3 * 13) + x1) 403 ∧ (vp_in x3 31 ∧ (if ri M 55 (nx x3) = 0 then RI (d + 1) μX4_mostLeftBehind 25 [(0, .ref 48), (1, .int x1), (2, .int x2), (3, .int (x3 + 1))] [] M K else (if 9 ≤ ri M 54 (nx ((x3 * 13) + x1)) then RI (d + 1) μX4_mostLeftBehind 25 [(0, .ref 48), (1, .int x1), (2, .int x2), (3, .int (x3 + 1))] [] M K else (vp_in (ri M 54 (nx ((x3 * 13) + x1))) 9 ∧ (vp_in (ri M 54 (nx ((x3 * 13) + x1))) 9 ∧ ∀ M1, M1 = wi M 56 (nx (ri M 54 (nx ((x3 * 13) + x1)))) ((ri M 56 (nx (ri M 54 (nx ((x3 * 13) + x1))))) + 1) → (vp_in (ri M 54 (nx ((x3 * 13) + x1))) 9 ∧ RI (d + 1) μX4_mostLeftBehind 25 [(0, .ref 48), (1, .int x1), (2, .int (if x2 < ri M1 56 (nx (ri M 54 (nx ((x3 * 13) + x1)))) then ri M1 56 (nx (ri M 54 (nx ((x3 * 13) + x1)))) else x2)), (3, .int (x3 + 1))] [] M1 K))))))))) : RI (d + 1) μX4_mostLeftBehind 25 [(0, .ref 48), (1, .int x1), (2, .int x2), (3, .int x3)] [] M K := by
  show Rn (d + 1) μX4_mostLeftBehind 25 [(0, .ref 48), (1, .int x1), (2, .int x2), (3, .int x3)] [] M _
  refine rn_iload_n (i := 3) (x := x3) dX4_mostLeftBehind_25 rfl (by simp) ?_
  refine rn_bipush (v := 31) dX4_mostLeftBehind_26 rfl ?_
  refine rn_icmp_ge (tgt := 89) dX4_mostLeftBehind_28 (by decide) (ite_go h (fun hc h => ?_) (fun hc h => ?_))
  · refine rn_iload_n (i := 2) (x := x2) dX4_mostLeftBehind_89 rfl (by simp) ?_
    exact rn_iret dX4_mostLeftBehind_90 rfl ⟨_, rfl, h⟩
  · refine rn_aload_n (i := 0) (x := 48) dX4_mostLeftBehind_31 rfl (by simp) ?_
    refine rn_getr (t := 54) dX4_mostLeftBehind_32 rfl gf_X4_32 rfl rfl ?_
    refine rn_iload_n (i := 3) (x := x3) dX4_mostLeftBehind_35 rfl (by simp) ?_
    refine rn_bipush (v := 13) dX4_mostLeftBehind_36 rfl ?_
    refine rn_imul dX4_mostLeftBehind_38 ?_
    refine rn_iload_n (i := 1) (x := x1) dX4_mostLeftBehind_39 rfl (by simp) ?_
    refine rn_iadd dX4_mostLeftBehind_40 ?_
    obtain ⟨hi, h⟩ := h
    refine rn_iaload dX4_mostLeftBehind_41 rfl hi ?_
    refine rn_istore (lv' := [(0, .ref 48), (1, .int x1), (2, .int x2), (3, .int x3), (4, .int (ri M 54 (nx ((x3 * 13) + x1))))]) (hd := dX4_mostLeftBehind_42) (hn := by decide) (hf := rfl) (hl := rfl) ?_
    refine rn_aload_n (i := 0) (x := 48) dX4_mostLeftBehind_44 rfl (by simp) ?_
    refine rn_getr (t := 55) dX4_mostLeftBehind_45 rfl gf_X4_39 rfl rfl ?_
    refine rn_iload_n (i := 3) (x := x3) dX4_mostLeftBehind_48 rfl (by simp) ?_
    obtain ⟨hi, h⟩ := h
    refine rn_zaload dX4_mostLeftBehind_49 rfl hi ?_
    refine rn_if_eq (tgt := 83) dX4_mostLeftBehind_50 (by decide) (ite_go h (fun hc h => ?_) (fun hc h => ?_))
    · refine rn_iinc (x := x3) (v := x3 + 1) (lv' := [(0, .ref 48), (1, .int x1), (2, .int x2), (3, .int (x3 + 1)), (4, .int (ri M 54 (nx ((x3 * 13) + x1))))]) dX4_mostLeftBehind_83 (by simp) rfl (by decide) rfl rfl ?_
      refine rn_goto (tgt := 25) dX4_mostLeftBehind_86 (by decide) ?_
      refine Rn.sub (lv' := [(0, .ref 48), (1, .int x1), (2, .int x2), (3, .int (x3 + 1))]) (by simp) ?_
      exact h
    · refine rn_iload (x := ri M 54 (nx ((x3 * 13) + x1))) dX4_mostLeftBehind_53 (by simp) ?_
      refine rn_bipush (v := 9) dX4_mostLeftBehind_55 rfl ?_
      refine rn_icmp_ge (tgt := 83) dX4_mostLeftBehind_57 (by decide) (ite_go h (fun hc h => ?_) (fun hc h => ?_))
      · refine rn_iinc (x := x3) (v := x3 + 1) (lv' := [(0, .ref 48), (1, .int x1), (2, .int x2), (3, .int (x3 + 1)), (4, .int (ri M 54 (nx ((x3 * 13) + x1))))]) dX4_mostLeftBehind_83 (by simp) rfl (by decide) rfl rfl ?_
        refine rn_goto (tgt := 25) dX4_mostLeftBehind_86 (by decide) ?_
        refine Rn.sub (lv' := [(0, .ref 48), (1, .int x1), (2, .int x2), (3, .int (x3 + 1))]) (by simp) ?_
        exact h
      · refine rn_aload_n (i := 0) (x := 48) dX4_mostLeftBehind_60 rfl (by simp) ?_
        refine rn_getr (t := 56) dX4_mostLeftBehind_61 rfl gf_X4_42 rfl rfl ?_
        refine rn_iload (x := ri M 54 (nx ((x3 * 13) + x1))) dX4_mostLeftBehind_64 (by simp) ?_
        refine rn_dup2 dX4_mostLeftBehind_66 rfl rfl ?_
        obtain ⟨hi, h⟩ := h
        refine rn_iaload dX4_mostLeftBehind_67 rfl hi ?_
        refine rn_iconst (v := 1) dX4_mostLeftBehind_68 rfl ?_
        refine rn_iadd dX4_mostLeftBehind_69 ?_
        obtain ⟨hi, h⟩ := h
        have h := h _ rfl
        refine rn_iastore dX4_mostLeftBehind_70 rfl hi ?_
        generalize wi M 56 (nx (ri M 54 (nx ((x3 * 13) + x1)))) ((ri M 56 (nx (ri M 54 (nx ((x3 * 13) + x1))))) + 1) = M1 at h ⊢
        refine rn_iload_n (i := 2) (x := x2) dX4_mostLeftBehind_71 rfl (by simp) ?_
        refine rn_aload_n (i := 0) (x := 48) dX4_mostLeftBehind_72 rfl (by simp) ?_
        refine rn_getr (t := 56) dX4_mostLeftBehind_73 rfl gf_X4_42 rfl rfl ?_
        refine rn_iload (x := ri M 54 (nx ((x3 * 13) + x1))) dX4_mostLeftBehind_76 (by simp) ?_
        obtain ⟨hi, h⟩ := h
        refine rn_iaload dX4_mostLeftBehind_78 rfl hi ?_
        refine rn_mmax dX4_mostLeftBehind_79 mi_X4_82 (Nat.le_of_ble_eq_true rfl) ?_
        refine rn_istore_n (lv' := [(0, .ref 48), (1, .int x1), (2, .int (if x2 < ri M1 56 (nx (ri M 54 (nx ((x3 * 13) + x1)))) then ri M1 56 (nx (ri M 54 (nx ((x3 * 13) + x1)))) else x2)), (3, .int x3), (4, .int (ri M 54 (nx ((x3 * 13) + x1))))]) (hd := dX4_mostLeftBehind_82) (i := 2) (hi := rfl) (hn := by decide) (hf := rfl) (hl := rfl) ?_
        refine rn_iinc (x := x3) (v := x3 + 1) (lv' := [(0, .ref 48), (1, .int x1), (2, .int (if x2 < ri M1 56 (nx (ri M 54 (nx ((x3 * 13) + x1)))) then ri M1 56 (nx (ri M 54 (nx ((x3 * 13) + x1)))) else x2)), (3, .int (x3 + 1)), (4, .int (ri M 54 (nx ((x3 * 13) + x1))))]) dX4_mostLeftBehind_83 (by simp) rfl (by decide) rfl rfl ?_
        refine rn_goto (tgt := 25) dX4_mostLeftBehind_86 (by decide) ?_
        refine Rn.sub (lv' := [(0, .ref 48), (1, .int x1), (2, .int (if x2 < ri M1 56 (nx (ri M 54 (nx ((x3 * 13) + x1)))) then ri M1 56 (nx (ri M 54 (nx ((x3 * 13) + x1)))) else x2)), (3, .int (x3 + 1))]) (by simp) ?_
        exact h
