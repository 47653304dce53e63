theorem dX1_empty_0 : decode μX1_empty.2.1 0 = .ok (.aload_n 0, 1) := by decide +kernel
theorem dX1_empty_1 : decode μX1_empty.2.1 1 = .ok (.iconst 0, 1) := by decide +kernel
theorem dX1_empty_2 : decode μX1_empty.2.1 2 = .ok (.putfield 21, 3) := by decide +kernel
theorem dX1_empty_5 : decode μX1_empty.2.1 5 = .ok (.aload_n 0, 1) := by decide +kernel
theorem dX1_empty_6 : decode μX1_empty.2.1 6 = .ok (.iconst 0, 1) := by decide +kernel
theorem dX1_empty_7 : decode μX1_empty.2.1 7 = .ok (.putfield 25, 3) := by decide +kernel
theorem dX1_empty_10 : decode μX1_empty.2.1 10 = .ok (.return_, 1) := by decide +kernel
set_option maxRecDepth 20000 in
theorem sg_X1_empty_0 {d : Nat} {g : Nat} {M : Mem} {K : (Mem → Prop)} (hg : kd g = (0, 1)) (h : (∀ M1, M1 = wi M g 3 0 → (∀ M2, M2 = wi M1 g 4 0 → K M2))) : CV d μX1_empty [.ref g] M K := by
  show Rn d μX1_empty 0 [(0, .ref g)] [] M _
  refine rn_aload_n (i := 0) (x := g) dX1_empty_0 rfl (by simp) ?_
  refine rn_iconst (v := 0) dX1_empty_1 rfl ?_
  have h := h _ rfl
  refine rn_puti dX1_empty_2 hg pf_X1_21 (by decide) rfl rfl ?_
  generalize wi M g 3 0 = M1 at h ⊢
  refine rn_aload_n (i := 0) (x := g) dX1_empty_5 rfl (by simp) ?_
  refine rn_iconst (v := 0) dX1_empty_6 rfl ?_
  have h := h _ rfl
  refine rn_puti dX1_empty_7 hg pf_X1_25 (by decide) rfl rfl ?_
  generalize wi M1 g 4 0 = M2 at h ⊢
  exact rn_ret dX1_empty_10 rfl ⟨rfl, h⟩
theorem dX1_put_0 : decode μX1_put.2.1 0 = .ok (.aload_n 0, 1) := by decide +kernel
theorem dX1_put_1 : decode μX1_put.2.1 1 = .ok (.getfield 21, 3) := by decide +kernel
theorem dX1_put_4 : decode μX1_put.2.1 4 = .ok (.aload_n 0, 1) := by decide +kernel
theorem dX1_put_5 : decode μX1_put.2.1 5 = .ok (.getfield 9, 3) := by decide +kernel
theorem dX1_put_8 : decode μX1_put.2.1 8 = .ok (.arraylength, 1) := by decide +kernel
theorem dX1_put_9 : decode μX1_put.2.1 9 = .ok (.if_icmp .ge 23, 3) := by decide +kernel
theorem dX1_put_12 : decode μX1_put.2.1 12 = .ok (.aload_n 0, 1) := by decide +kernel
theorem dX1_put_13 : decode μX1_put.2.1 13 = .ok (.getfield 9, 3) := by decide +kernel
theorem dX1_put_16 : decode μX1_put.2.1 16 = .ok (.aload_n 0, 1) := by decide +kernel
theorem dX1_put_17 : decode μX1_put.2.1 17 = .ok (.getfield 21, 3) := by decide +kernel
theorem dX1_put_20 : decode μX1_put.2.1 20 = .ok (.iload_n 1, 1) := by decide +kernel
theorem dX1_put_21 : decode μX1_put.2.1 21 = .ok (.iastore, 1) := by decide +kernel
theorem dX1_put_22 : decode μX1_put.2.1 22 = .ok (.aload_n 0, 1) := by decide +kernel
theorem dX1_put_23 : decode μX1_put.2.1 23 = .ok (.dup, 1) := by decide +kernel
theorem dX1_put_24 : decode μX1_put.2.1 24 = .ok (.getfield 21, 3) := by decide +kernel
theorem dX1_put_27 : decode μX1_put.2.1 27 = .ok (.iconst 1, 1) := by decide +kernel
theorem dX1_put_28 : decode μX1_put.2.1 28 = .ok (.iadd, 1) := by decide +kernel
theorem dX1_put_29 : decode μX1_put.2.1 29 = .ok (.putfield 21, 3) := by decide +kernel
theorem dX1_put_32 : decode μX1_put.2.1 32 = .ok (.return_, 1) := by decide +kernel
set_option maxRecDepth 20000 in
theorem sg_X1_put_0 {d : Nat} {g : Nat} {x1 : Int32} {M : Mem} {K : (Mem → Prop)} (hg : kd g = (0, 1)) (h : (if Int32.ofNat 270 ≤ ri M g 3 then K M else (vp_in (ri M g 3) 270 ∧ ∀ M1, M1 = wi M (g + 1) (nx (ri M g 3)) x1 → (∀ M2, M2 = wi M1 g 3 ((ri M1 g 3) + 1) → K M2)))) : CV d μX1_put [.ref g, .int x1] M K := by
  show Rn d μX1_put 0 [(0, .ref g), (1, .int x1)] [] M _
  refine rn_aload_n (i := 0) (x := g) dX1_put_0 rfl (by simp) ?_
  refine rn_geti dX1_put_1 hg gf_X1_21 (by decide) ?_
  refine rn_aload_n (i := 0) (x := g) dX1_put_4 rfl (by simp) ?_
  refine rn_getr (t := g + 1) dX1_put_5 hg gf_X1_9 rfl (formula_refs _ hg).1.1 ?_
  refine rn_alen_i (v := Int32.ofNat 270) dX1_put_8 (formula_refs _ hg).1.2 rfl ?_
  refine rn_icmp_ge (tgt := 32) dX1_put_9 (by decide) (ite_go h (fun hc h => ?_) (fun hc h => ?_))
  · exact rn_ret dX1_put_32 rfl ⟨rfl, h⟩
  · refine rn_aload_n (i := 0) (x := g) dX1_put_12 rfl (by simp) ?_
    refine rn_getr (t := g + 1) dX1_put_13 hg gf_X1_9 rfl (formula_refs _ hg).1.1 ?_
    refine rn_aload_n (i := 0) (x := g) dX1_put_16 rfl (by simp) ?_
    refine rn_geti dX1_put_17 hg gf_X1_21 (by decide) ?_
    refine rn_iload_n (i := 1) (x := x1) dX1_put_20 rfl (by simp) ?_
    obtain ⟨hi, h⟩ := h
    have h := h _ rfl
    refine rn_iastore dX1_put_21 (formula_refs _ hg).1.2 hi ?_
    generalize wi M (g + 1) (nx (ri M g 3)) x1 = M1 at h ⊢
    refine rn_aload_n (i := 0) (x := g) dX1_put_22 rfl (by simp) ?_
    refine rn_dup dX1_put_23 rfl ?_
    refine rn_geti dX1_put_24 hg gf_X1_21 (by decide) ?_
    refine rn_iconst (v := 1) dX1_put_27 rfl ?_
    refine rn_iadd dX1_put_28 ?_
    have h := h _ rfl
    refine rn_puti dX1_put_29 hg pf_X1_21 (by decide) rfl rfl ?_
    generalize wi M1 g 3 ((ri M1 g 3) + 1) = M2 at h ⊢
    exact rn_ret dX1_put_32 rfl ⟨rfl, h⟩
theorem dX1_growth_0 : decode μX1_growth.2.1 0 = .ok (.aload_n 0, 1) := by decide +kernel
theorem dX1_growth_1 : decode μX1_growth.2.1 1 = .ok (.getfield 21, 3) := by decide +kernel
theorem dX1_growth_4 : decode μX1_growth.2.1 4 = .ok (.ifCond .ne 7, 3) := by decide +kernel
theorem dX1_growth_7 : decode μX1_growth.2.1 7 = .ok (.iload_n 1, 1) := by decide +kernel
theorem dX1_growth_8 : decode μX1_growth.2.1 8 = .ok (.iconst 4, 1) := by decide +kernel
theorem dX1_growth_9 : decode μX1_growth.2.1 9 = .ok (.isub, 1) := by decide +kernel
theorem dX1_growth_10 : decode μX1_growth.2.1 10 = .ok (.ireturn, 1) := by decide +kernel
theorem dX1_growth_11 : decode μX1_growth.2.1 11 = .ok (.aload_n 0, 1) := by decide +kernel
theorem dX1_growth_12 : decode μX1_growth.2.1 12 = .ok (.getfield 18, 3) := by decide +kernel
theorem dX1_growth_15 : decode μX1_growth.2.1 15 = .ok (.iconst 1, 1) := by decide +kernel
theorem dX1_growth_16 : decode μX1_growth.2.1 16 = .ok (.iload_n 1, 1) := by decide +kernel
theorem dX1_growth_17 : decode μX1_growth.2.1 17 = .ok (.iastore, 1) := by decide +kernel
theorem dX1_growth_18 : decode μX1_growth.2.1 18 = .ok (.aload_n 0, 1) := by decide +kernel
theorem dX1_growth_19 : decode μX1_growth.2.1 19 = .ok (.getfield 18, 3) := by decide +kernel
theorem dX1_growth_22 : decode μX1_growth.2.1 22 = .ok (.iconst 2, 1) := by decide +kernel
theorem dX1_growth_23 : decode μX1_growth.2.1 23 = .ok (.iload_n 2, 1) := by decide +kernel
theorem dX1_growth_24 : decode μX1_growth.2.1 24 = .ok (.iastore, 1) := by decide +kernel
theorem dX1_growth_25 : decode μX1_growth.2.1 25 = .ok (.aload_n 0, 1) := by decide +kernel
theorem dX1_growth_26 : decode μX1_growth.2.1 26 = .ok (.getfield 18, 3) := by decide +kernel
theorem dX1_growth_29 : decode μX1_growth.2.1 29 = .ok (.iconst 3, 1) := by decide +kernel
theorem dX1_growth_30 : decode μX1_growth.2.1 30 = .ok (.iload_n 3, 1) := by decide +kernel
theorem dX1_growth_31 : decode μX1_growth.2.1 31 = .ok (.iastore, 1) := by decide +kernel
theorem dX1_growth_32 : decode μX1_growth.2.1 32 = .ok (.aload_n 0, 1) := by decide +kernel
theorem dX1_growth_33 : decode μX1_growth.2.1 33 = .ok (.getfield 18, 3) := by decide +kernel
theorem dX1_growth_36 : decode μX1_growth.2.1 36 = .ok (.iconst 4, 1) := by decide +kernel
theorem dX1_growth_37 : decode μX1_growth.2.1 37 = .ok (.iload 4, 2) := by decide +kernel
theorem dX1_growth_39 : decode μX1_growth.2.1 39 = .ok (.iastore, 1) := by decide +kernel
theorem dX1_growth_40 : decode μX1_growth.2.1 40 = .ok (.aload_n 0, 1) := by decide +kernel
theorem dX1_growth_41 : decode μX1_growth.2.1 41 = .ok (.getfield 18, 3) := by decide +kernel
theorem dX1_growth_44 : decode μX1_growth.2.1 44 = .ok (.iconst 5, 1) := by decide +kernel
theorem dX1_growth_45 : decode μX1_growth.2.1 45 = .ok (.iload 5, 2) := by decide +kernel
theorem dX1_growth_47 : decode μX1_growth.2.1 47 = .ok (.iastore, 1) := by decide +kernel
theorem dX1_growth_48 : decode μX1_growth.2.1 48 = .ok (.bipush (-99), 2) := by decide +kernel
theorem dX1_growth_50 : decode μX1_growth.2.1 50 = .ok (.bipush 99, 2) := by decide +kernel
theorem dX1_growth_52 : decode μX1_growth.2.1 52 = .ok (.aload_n 0, 1) := by decide +kernel
theorem dX1_growth_53 : decode μX1_growth.2.1 53 = .ok (.invokevirtual 28, 3) := by decide +kernel
theorem dX1_growth_56 : decode μX1_growth.2.1 56 = .ok (.invokestatic 32, 3) := by decide +kernel
theorem dX1_growth_59 : decode μX1_growth.2.1 59 = .ok (.invokestatic 38, 3) := by decide +kernel
theorem dX1_growth_62 : decode μX1_growth.2.1 62 = .ok (.ireturn, 1) := by decide +kernel
set_option maxRecDepth 20000 in
theorem sg_X1_growth_0 {d : Nat} {g : Nat} {x1 : Int32} {x2 : Int32} {x3 : Int32} {x4 : Int32} {x5 : Int32} {M : Mem} {K : (Int32 → Mem → Prop)} (hg : kd g = (0, 1)) (h : (if ri M g 3 = 0 then K (x1 - 4) M else (∀ M1, M1 = wi M (g + 3) (nx 1) x1 → (∀ M2, M2 = wi M1 (g + 3) (nx 2) x2 → (∀ M3, M3 = wi M2 (g + 3) (nx 3) x3 → (∀ M4, M4 = wi M3 (g + 3) (nx 4) x4 → (∀ M5, M5 = wi M4 (g + 3) (nx 5) x5 → (CI d μX1_run [.ref g] M5 (fun r7 M6 => K (if (-99) < if r7 < 99 then r7 else 99 then if r7 < 99 then r7 else 99 else (-99)) M6))))))))) : CI (d + 1) μX1_growth [.ref g, .int x1, .int x2, .int x3, .int x4, .int x5] M K := by
  show Rn (d + 1) μX1_growth 0 [(0, .ref g), (1, .int x1), (2, .int x2), (3, .int x3), (4, .int x4), (5, .int x5)] [] M _
  refine rn_aload_n (i := 0) (x := g) dX1_growth_0 rfl (by simp) ?_
  refine rn_geti dX1_growth_1 hg gf_X1_21 (by decide) ?_
  refine rn_if_ne (tgt := 11) dX1_growth_4 (by decide) (ite_go h (fun hc h => ?_) (fun hc h => ?_))
  · refine rn_iload_n (i := 1) (x := x1) dX1_growth_7 rfl (by simp) ?_
    refine rn_iconst (v := 4) dX1_growth_8 rfl ?_
    refine rn_isub dX1_growth_9 ?_
    exact rn_iret dX1_growth_10 rfl ⟨_, rfl, h⟩
  · refine rn_aload_n (i := 0) (x := g) dX1_growth_11 rfl (by simp) ?_
    refine rn_getr (t := g + 3) dX1_growth_12 hg gf_X1_18 rfl (formula_refs _ hg).2.2.1 ?_
    refine rn_iconst (v := 1) dX1_growth_15 rfl ?_
    refine rn_iload_n (i := 1) (x := x1) dX1_growth_16 rfl (by simp) ?_
    have h := h _ rfl
    refine rn_iastore dX1_growth_17 (formula_refs _ hg).2.2.2 (by unfold vp_in; decide) ?_
    generalize wi M (g + 3) (nx 1) x1 = M1 at h ⊢
    refine rn_aload_n (i := 0) (x := g) dX1_growth_18 rfl (by simp) ?_
    refine rn_getr (t := g + 3) dX1_growth_19 hg gf_X1_18 rfl (formula_refs _ hg).2.2.1 ?_
    refine rn_iconst (v := 2) dX1_growth_22 rfl ?_
    refine rn_iload_n (i := 2) (x := x2) dX1_growth_23 rfl (by simp) ?_
    have h := h _ rfl
    refine rn_iastore dX1_growth_24 (formula_refs _ hg).2.2.2 (by unfold vp_in; decide) ?_
    generalize wi M1 (g + 3) (nx 2) x2 = M2 at h ⊢
    refine rn_aload_n (i := 0) (x := g) dX1_growth_25 rfl (by simp) ?_
    refine rn_getr (t := g + 3) dX1_growth_26 hg gf_X1_18 rfl (formula_refs _ hg).2.2.1 ?_
    refine rn_iconst (v := 3) dX1_growth_29 rfl ?_
    refine rn_iload_n (i := 3) (x := x3) dX1_growth_30 rfl (by simp) ?_
    have h := h _ rfl
    refine rn_iastore dX1_growth_31 (formula_refs _ hg).2.2.2 (by unfold vp_in; decide) ?_
    generalize wi M2 (g + 3) (nx 3) x3 = M3 at h ⊢
    refine rn_aload_n (i := 0) (x := g) dX1_growth_32 rfl (by simp) ?_
    refine rn_getr (t := g + 3) dX1_growth_33 hg gf_X1_18 rfl (formula_refs _ hg).2.2.1 ?_
    refine rn_iconst (v := 4) dX1_growth_36 rfl ?_
    refine rn_iload (x := x4) dX1_growth_37 (by simp) ?_
    have h := h _ rfl
    refine rn_iastore dX1_growth_39 (formula_refs _ hg).2.2.2 (by unfold vp_in; decide) ?_
    generalize wi M3 (g + 3) (nx 4) x4 = M4 at h ⊢
    refine rn_aload_n (i := 0) (x := g) dX1_growth_40 rfl (by simp) ?_
    refine rn_getr (t := g + 3) dX1_growth_41 hg gf_X1_18 rfl (formula_refs _ hg).2.2.1 ?_
    refine rn_iconst (v := 5) dX1_growth_44 rfl ?_
    refine rn_iload (x := x5) dX1_growth_45 (by simp) ?_
    have h := h _ rfl
    refine rn_iastore dX1_growth_47 (formula_refs _ hg).2.2.2 (by unfold vp_in; decide) ?_
    generalize wi M4 (g + 3) (nx 5) x5 = M5 at h ⊢
    refine rn_bipush (v := -99) dX1_growth_48 rfl ?_
    refine rn_bipush (v := 99) dX1_growth_50 rfl ?_
    refine rn_aload_n (i := 0) (x := g) dX1_growth_52 rfl (by simp) ?_
    refine rn_callVi (as := []) (st := [.int 99, .int ((-99))]) dX1_growth_53 mf_X1_run lk_X1_28 im_X1_run hg rfl rfl rfl (Nat.le_of_ble_eq_true rfl) (Nat.le_of_ble_eq_true rfl) rfl (RI.mono h (fun r7 M6 h => ?_))
    refine rn_mmin dX1_growth_56 mi_X1_32 (Nat.le_of_ble_eq_true rfl) ?_
    refine rn_mmax dX1_growth_59 mi_X1_38 (Nat.le_of_ble_eq_true rfl) ?_
    exact rn_iret dX1_growth_62 rfl ⟨_, rfl, h⟩
theorem dX1_run_0 : decode μX1_run.2.1 0 = .ok (.iconst 0, 1) := by decide +kernel
theorem dX1_run_1 : decode μX1_run.2.1 1 = .ok (.istore_n 1, 1) := by decide +kernel
theorem dX1_run_2 : decode μX1_run.2.1 2 = .ok (.iconst 0, 1) := by decide +kernel
theorem dX1_run_3 : decode μX1_run.2.1 3 = .ok (.istore_n 2, 1) := by decide +kernel
theorem dX1_run_4 : decode μX1_run.2.1 4 = .ok (.iload_n 2, 1) := by decide +kernel
theorem dX1_run_5 : decode μX1_run.2.1 5 = .ok (.aload_n 0, 1) := by decide +kernel
theorem dX1_run_6 : decode μX1_run.2.1 6 = .ok (.getfield 21, 3) := by decide +kernel
theorem dX1_run_9 : decode μX1_run.2.1 9 = .ok (.if_icmp .ge 135, 3) := by decide +kernel
theorem dX1_run_12 : decode μX1_run.2.1 12 = .ok (.aload_n 0, 1) := by decide +kernel
theorem dX1_run_13 : decode μX1_run.2.1 13 = .ok (.getfield 9, 3) := by decide +kernel
theorem dX1_run_16 : decode μX1_run.2.1 16 = .ok (.iload_n 2, 1) := by decide +kernel
theorem dX1_run_17 : decode μX1_run.2.1 17 = .ok (.iaload, 1) := by decide +kernel
theorem dX1_run_18 : decode μX1_run.2.1 18 = .ok (.istore_n 3, 1) := by decide +kernel
theorem dX1_run_19 : decode μX1_run.2.1 19 = .ok (.iload_n 3, 1) := by decide +kernel
theorem dX1_run_20 : decode μX1_run.2.1 20 = .ok (.bipush (-6), 2) := by decide +kernel
theorem dX1_run_22 : decode μX1_run.2.1 22 = .ok (.if_icmp .ne 34, 3) := by decide +kernel
theorem dX1_run_25 : decode μX1_run.2.1 25 = .ok (.iload_n 1, 1) := by decide +kernel
theorem dX1_run_26 : decode μX1_run.2.1 26 = .ok (.ifCond .le 30, 3) := by decide +kernel
theorem dX1_run_29 : decode μX1_run.2.1 29 = .ok (.aload_n 0, 1) := by decide +kernel
theorem dX1_run_30 : decode μX1_run.2.1 30 = .ok (.getfield 15, 3) := by decide +kernel
theorem dX1_run_33 : decode μX1_run.2.1 33 = .ok (.iload_n 1, 1) := by decide +kernel
theorem dX1_run_34 : decode μX1_run.2.1 34 = .ok (.iconst 1, 1) := by decide +kernel
theorem dX1_run_35 : decode μX1_run.2.1 35 = .ok (.isub, 1) := by decide +kernel
theorem dX1_run_36 : decode μX1_run.2.1 36 = .ok (.aload_n 0, 1) := by decide +kernel
theorem dX1_run_37 : decode μX1_run.2.1 37 = .ok (.getfield 15, 3) := by decide +kernel
theorem dX1_run_40 : decode μX1_run.2.1 40 = .ok (.iload_n 1, 1) := by decide +kernel
theorem dX1_run_41 : decode μX1_run.2.1 41 = .ok (.iconst 1, 1) := by decide +kernel
theorem dX1_run_42 : decode μX1_run.2.1 42 = .ok (.isub, 1) := by decide +kernel
theorem dX1_run_43 : decode μX1_run.2.1 43 = .ok (.iaload, 1) := by decide +kernel
theorem dX1_run_44 : decode μX1_run.2.1 44 = .ok (.ifCond .ne 7, 3) := by decide +kernel
theorem dX1_run_47 : decode μX1_run.2.1 47 = .ok (.iconst 1, 1) := by decide +kernel
theorem dX1_run_48 : decode μX1_run.2.1 48 = .ok (.goto 4, 3) := by decide +kernel
theorem dX1_run_51 : decode μX1_run.2.1 51 = .ok (.iconst 0, 1) := by decide +kernel
theorem dX1_run_52 : decode μX1_run.2.1 52 = .ok (.iastore, 1) := by decide +kernel
theorem dX1_run_53 : decode μX1_run.2.1 53 = .ok (.goto 85, 3) := by decide +kernel
theorem dX1_run_56 : decode μX1_run.2.1 56 = .ok (.iload_n 3, 1) := by decide +kernel
theorem dX1_run_57 : decode μX1_run.2.1 57 = .ok (.bipush (-6), 2) := by decide +kernel
theorem dX1_run_59 : decode μX1_run.2.1 59 = .ok (.if_icmp .ge 40, 3) := by decide +kernel
theorem dX1_run_62 : decode μX1_run.2.1 62 = .ok (.iload_n 1, 1) := by decide +kernel
theorem dX1_run_63 : decode μX1_run.2.1 63 = .ok (.iconst 1, 1) := by decide +kernel
theorem dX1_run_64 : decode μX1_run.2.1 64 = .ok (.if_icmp .le 35, 3) := by decide +kernel
theorem dX1_run_67 : decode μX1_run.2.1 67 = .ok (.iinc 1 (-1), 3) := by decide +kernel
theorem dX1_run_70 : decode μX1_run.2.1 70 = .ok (.aload_n 0, 1) := by decide +kernel
theorem dX1_run_71 : decode μX1_run.2.1 71 = .ok (.getfield 15, 3) := by decide +kernel
theorem dX1_run_74 : decode μX1_run.2.1 74 = .ok (.iload_n 1, 1) := by decide +kernel
theorem dX1_run_75 : decode μX1_run.2.1 75 = .ok (.iconst 1, 1) := by decide +kernel
theorem dX1_run_76 : decode μX1_run.2.1 76 = .ok (.isub, 1) := by decide +kernel
theorem dX1_run_77 : decode μX1_run.2.1 77 = .ok (.iload_n 3, 1) := by decide +kernel
theorem dX1_run_78 : decode μX1_run.2.1 78 = .ok (.aload_n 0, 1) := by decide +kernel
theorem dX1_run_79 : decode μX1_run.2.1 79 = .ok (.getfield 15, 3) := by decide +kernel
theorem dX1_run_82 : decode μX1_run.2.1 82 = .ok (.iload_n 1, 1) := by decide +kernel
theorem dX1_run_83 : decode μX1_run.2.1 83 = .ok (.iconst 1, 1) := by decide +kernel
theorem dX1_run_84 : decode μX1_run.2.1 84 = .ok (.isub, 1) := by decide +kernel
theorem dX1_run_85 : decode μX1_run.2.1 85 = .ok (.iaload, 1) := by decide +kernel
theorem dX1_run_86 : decode μX1_run.2.1 86 = .ok (.aload_n 0, 1) := by decide +kernel
theorem dX1_run_87 : decode μX1_run.2.1 87 = .ok (.getfield 15, 3) := by decide +kernel
theorem dX1_run_90 : decode μX1_run.2.1 90 = .ok (.iload_n 1, 1) := by decide +kernel
theorem dX1_run_91 : decode μX1_run.2.1 91 = .ok (.iaload, 1) := by decide +kernel
theorem dX1_run_92 : decode μX1_run.2.1 92 = .ok (.invokestatic 41, 3) := by decide +kernel
theorem dX1_run_95 : decode μX1_run.2.1 95 = .ok (.iastore, 1) := by decide +kernel
theorem dX1_run_96 : decode μX1_run.2.1 96 = .ok (.goto 42, 3) := by decide +kernel
theorem dX1_run_99 : decode μX1_run.2.1 99 = .ok (.iload_n 3, 1) := by decide +kernel
theorem dX1_run_100 : decode μX1_run.2.1 100 = .ok (.bipush (-6), 2) := by decide +kernel
theorem dX1_run_102 : decode μX1_run.2.1 102 = .ok (.if_icmp .le 36, 3) := by decide +kernel
theorem dX1_run_105 : decode μX1_run.2.1 105 = .ok (.iload_n 1, 1) := by decide +kernel
theorem dX1_run_106 : decode μX1_run.2.1 106 = .ok (.aload_n 0, 1) := by decide +kernel
theorem dX1_run_107 : decode μX1_run.2.1 107 = .ok (.getfield 15, 3) := by decide +kernel
theorem dX1_run_110 : decode μX1_run.2.1 110 = .ok (.arraylength, 1) := by decide +kernel
theorem dX1_run_111 : decode μX1_run.2.1 111 = .ok (.if_icmp .ge 27, 3) := by decide +kernel
theorem dX1_run_114 : decode μX1_run.2.1 114 = .ok (.aload_n 0, 1) := by decide +kernel
theorem dX1_run_115 : decode μX1_run.2.1 115 = .ok (.getfield 15, 3) := by decide +kernel
theorem dX1_run_118 : decode μX1_run.2.1 118 = .ok (.iload_n 1, 1) := by decide +kernel
theorem dX1_run_119 : decode μX1_run.2.1 119 = .ok (.iload_n 3, 1) := by decide +kernel
theorem dX1_run_120 : decode μX1_run.2.1 120 = .ok (.ifCond .lt 7, 3) := by decide +kernel
theorem dX1_run_123 : decode μX1_run.2.1 123 = .ok (.iload_n 3, 1) := by decide +kernel
theorem dX1_run_124 : decode μX1_run.2.1 124 = .ok (.goto 10, 3) := by decide +kernel
theorem dX1_run_127 : decode μX1_run.2.1 127 = .ok (.aload_n 0, 1) := by decide +kernel
theorem dX1_run_128 : decode μX1_run.2.1 128 = .ok (.getfield 18, 3) := by decide +kernel
theorem dX1_run_131 : decode μX1_run.2.1 131 = .ok (.iload_n 3, 1) := by decide +kernel
theorem dX1_run_132 : decode μX1_run.2.1 132 = .ok (.ineg, 1) := by decide +kernel
theorem dX1_run_133 : decode μX1_run.2.1 133 = .ok (.iaload, 1) := by decide +kernel
theorem dX1_run_134 : decode μX1_run.2.1 134 = .ok (.iastore, 1) := by decide +kernel
theorem dX1_run_135 : decode μX1_run.2.1 135 = .ok (.iinc 1 1, 3) := by decide +kernel
theorem dX1_run_138 : decode μX1_run.2.1 138 = .ok (.iinc 2 1, 3) := by decide +kernel
theorem dX1_run_141 : decode μX1_run.2.1 141 = .ok (.goto (-137), 3) := by decide +kernel
theorem dX1_run_144 : decode μX1_run.2.1 144 = .ok (.iload_n 1, 1) := by decide +kernel
theorem dX1_run_145 : decode μX1_run.2.1 145 = .ok (.ifCond .le 12, 3) := by decide +kernel
theorem dX1_run_148 : decode μX1_run.2.1 148 = .ok (.aload_n 0, 1) := by decide +kernel
theorem dX1_run_149 : decode μX1_run.2.1 149 = .ok (.getfield 15, 3) := by decide +kernel
theorem dX1_run_152 : decode μX1_run.2.1 152 = .ok (.iconst 0, 1) := by decide +kernel
theorem dX1_run_153 : decode μX1_run.2.1 153 = .ok (.iaload, 1) := by decide +kernel
theorem dX1_run_154 : decode μX1_run.2.1 154 = .ok (.goto 4, 3) := by decide +kernel
theorem dX1_run_157 : decode μX1_run.2.1 157 = .ok (.iconst 0, 1) := by decide +kernel
theorem dX1_run_158 : decode μX1_run.2.1 158 = .ok (.ireturn, 1) := by decide +kernel
set_option maxRecDepth 20000 in
theorem sg_X1_run_0 {d : Nat} {g : Nat} {M : Mem} {K : (Int32 → Mem → Prop)} (hg : kd g = (0, 1)) (h : RI (d + 1) μX1_run 4 [(0, .ref g), (1, .int 0), (2, .int 0)] [] M K) : CI (d + 1) μX1_run [.ref g] M K := by
  show Rn (d + 1) μX1_run 0 [(0, .ref g)] [] M _
  refine rn_iconst (v := 0) dX1_run_0 rfl ?_
  refine rn_istore_n (lv' := [(0, .ref g), (1, .int 0)]) (hd := dX1_run_1) (i := 1) (hi := rfl) (hn := by decide) (hf := rfl) (hl := rfl) ?_
  refine rn_iconst (v := 0) dX1_run_2 rfl ?_
  refine rn_istore_n (lv' := [(0, .ref g), (1, .int 0), (2, .int 0)]) (hd := dX1_run_3) (i := 2) (hi := rfl) (hn := by decide) (hf := rfl) (hl := rfl) ?_
  exact h
set_option maxRecDepth 20000 in
theorem sg_X1_run_4 {d : Nat} {g : Nat} {x1 : Int32} {x2 : Int32} {M : Mem} {K : (Int32 → Mem → Prop)} (hg : kd g = (0, 1)) (h : (if ri M g 3 ≤ x2 then (if x1 ≤ 0 then K 0 M else K (ri M (g + 2) (nx 0)) M) else (vp_in x2 270 ∧ (if ri M (g + 1) (nx x2) = (-6) then (if x1 ≤ 0 then RI (d + 1) μX1_run 56 [(0, .ref g), (1, .int x1), (2, .int x2), (3, .int (ri M (g + 1) (nx x2)))] [] M K else (vp_in (x1 - 1) 31 ∧ (if ri M (g + 2) (nx (x1 - 1)) = 0 then (vp_in (x1 - 1) 31 ∧ ∀ M1, M1 = wi M (g + 2) (nx (x1 - 1)) 1 → RI (d + 1) μX1_run 4 [(0, .ref g), (1, .int x1), (2, .int (x2 + 1))] [] M1 K) else (vp_in (x1 - 1) 31 ∧ ∀ M2, M2 = wi M (g + 2) (nx (x1 - 1)) 0 → RI (d + 1) μX1_run 4 [(0, .ref g), (1, .int x1), (2, .int (x2 + 1))] [] M2 K)))) else RI (d + 1) μX1_run 56 [(0, .ref g), (1, .int x1), (2, .int x2), (3, .int (ri M (g + 1) (nx x2)))] [] M K)))) : RI (d + 1) μX1_run 4 [(0, .ref g), (1, .int x1), (2, .int x2)] [] M K := by
  show Rn (d + 1) μX1_run 4 [(0, .ref g), (1, .int x1), (2, .int x2)] [] M _
  refine rn_iload_n (i := 2) (x := x2) dX1_run_4 rfl (by simp) ?_
  refine rn_aload_n (i := 0) (x := g) dX1_run_5 rfl (by simp) ?_
  refine rn_geti dX1_run_6 hg gf_X1_21 (by decide) ?_
  refine rn_icmp_ge (tgt := 144) dX1_run_9 (by decide) (ite_go h (fun hc h => ?_) (fun hc h => ?_))
  · refine rn_iload_n (i := 1) (x := x1) dX1_run_144 rfl (by simp) ?_
    refine rn_if_le (tgt := 157) dX1_run_145 (by decide) (ite_go h (fun hc h => ?_) (fun hc h => ?_))
    · refine rn_iconst (v := 0) dX1_run_157 rfl ?_
      exact rn_iret dX1_run_158 rfl ⟨_, rfl, h⟩
    · refine rn_aload_n (i := 0) (x := g) dX1_run_148 rfl (by simp) ?_
      refine rn_getr (t := g + 2) dX1_run_149 hg gf_X1_15 rfl (formula_refs _ hg).2.1.1 ?_
      refine rn_iconst (v := 0) dX1_run_152 rfl ?_
      refine rn_iaload dX1_run_153 (formula_refs _ hg).2.1.2 (by unfold vp_in; decide) ?_
      refine rn_goto (tgt := 158) dX1_run_154 (by decide) ?_
      exact rn_iret dX1_run_158 rfl ⟨_, rfl, h⟩
  · refine rn_aload_n (i := 0) (x := g) dX1_run_12 rfl (by simp) ?_
    refine rn_getr (t := g + 1) dX1_run_13 hg gf_X1_9 rfl (formula_refs _ hg).1.1 ?_
    refine rn_iload_n (i := 2) (x := x2) dX1_run_16 rfl (by simp) ?_
    obtain ⟨hi, h⟩ := h
    refine rn_iaload dX1_run_17 (formula_refs _ hg).1.2 hi ?_
    refine rn_istore_n (lv' := [(0, .ref g), (1, .int x1), (2, .int x2), (3, .int (ri M (g + 1) (nx x2)))]) (hd := dX1_run_18) (i := 3) (hi := rfl) (hn := by decide) (hf := rfl) (hl := rfl) ?_
    refine rn_iload_n (i := 3) (x := ri M (g + 1) (nx x2)) dX1_run_19 rfl (by simp) ?_
    refine rn_bipush (v := -6) dX1_run_20 rfl ?_
    refine rn_icmp_ne (tgt := 56) dX1_run_22 (by decide) (ite_go h (fun hc h => ?_) (fun hc h => ?_))
    · refine rn_iload_n (i := 1) (x := x1) dX1_run_25 rfl (by simp) ?_
      refine rn_if_le (tgt := 56) dX1_run_26 (by decide) (ite_go h (fun hc h => ?_) (fun hc h => ?_))
      · exact h
      · refine rn_aload_n (i := 0) (x := g) dX1_run_29 rfl (by simp) ?_
        refine rn_getr (t := g + 2) dX1_run_30 hg gf_X1_15 rfl (formula_refs _ hg).2.1.1 ?_
        refine rn_iload_n (i := 1) (x := x1) dX1_run_33 rfl (by simp) ?_
        refine rn_iconst (v := 1) dX1_run_34 rfl ?_
        refine rn_isub dX1_run_35 ?_
        refine rn_aload_n (i := 0) (x := g) dX1_run_36 rfl (by simp) ?_
        refine rn_getr (t := g + 2) dX1_run_37 hg gf_X1_15 rfl (formula_refs _ hg).2.1.1 ?_
        refine rn_iload_n (i := 1) (x := x1) dX1_run_40 rfl (by simp) ?_
        refine rn_iconst (v := 1) dX1_run_41 rfl ?_
        refine rn_isub dX1_run_42 ?_
        obtain ⟨hi, h⟩ := h
        refine rn_iaload dX1_run_43 (formula_refs _ hg).2.1.2 hi ?_
        refine rn_if_ne (tgt := 51) dX1_run_44 (by decide) (ite_go h (fun hc h => ?_) (fun hc h => ?_))
        · refine rn_iconst (v := 1) dX1_run_47 rfl ?_
          refine rn_goto (tgt := 52) dX1_run_48 (by decide) ?_
          obtain ⟨hi, h⟩ := h
          have h := h _ rfl
          refine rn_iastore dX1_run_52 (formula_refs _ hg).2.1.2 hi ?_
          generalize wi M (g + 2) (nx (x1 - 1)) 1 = M1 at h ⊢
          refine rn_goto (tgt := 138) dX1_run_53 (by decide) ?_
          refine rn_iinc (x := x2) (v := x2 + 1) (lv' := [(0, .ref g), (1, .int x1), (2, .int (x2 + 1)), (3, .int (ri M (g + 1) (nx x2)))]) dX1_run_138 (by simp) rfl (by decide) rfl rfl ?_
          refine rn_goto (tgt := 4) dX1_run_141 (by decide) ?_
          refine Rn.sub (lv' := [(0, .ref g), (1, .int x1), (2, .int (x2 + 1))]) (by simp) ?_
          exact h
        · refine rn_iconst (v := 0) dX1_run_51 rfl ?_
          obtain ⟨hi, h⟩ := h
          have h := h _ rfl
          refine rn_iastore dX1_run_52 (formula_refs _ hg).2.1.2 hi ?_
          generalize wi M (g + 2) (nx (x1 - 1)) 0 = M2 at h ⊢
          refine rn_goto (tgt := 138) dX1_run_53 (by decide) ?_
          refine rn_iinc (x := x2) (v := x2 + 1) (lv' := [(0, .ref g), (1, .int x1), (2, .int (x2 + 1)), (3, .int (ri M (g + 1) (nx x2)))]) dX1_run_138 (by simp) rfl (by decide) rfl rfl ?_
          refine rn_goto (tgt := 4) dX1_run_141 (by decide) ?_
          refine Rn.sub (lv' := [(0, .ref g), (1, .int x1), (2, .int (x2 + 1))]) (by simp) ?_
          exact h
    · exact h
set_option maxRecDepth 20000 in
theorem sg_X1_run_56 {d : Nat} {g : Nat} {x1 : Int32} {x2 : Int32} {x3 : Int32} {M : Mem} {K : (Int32 → Mem → Prop)} (hg : kd g = (0, 1)) (h : (if (-6) ≤ x3 then RI (d + 1) μX1_run 99 [(0, .ref g), (1, .int x1), (2, .int x2), (3, .int x3)] [] M K else (if x1 ≤ 1 then RI (d + 1) μX1_run 99 [(0, .ref g), (1, .int x1), (2, .int x2), (3, .int x3)] [] M K else (vp_in ((x1 + (-1)) - 1) 31 ∧ (vp_in (x1 + (-1)) 31 ∧ (CI d μX1_joined [.int x3, .int (ri M (g + 2) (nx ((x1 + (-1)) - 1))), .int (ri M (g + 2) (nx (x1 + (-1))))] M (fun r2 M1 => (vp_in ((x1 + (-1)) - 1) 31 ∧ ∀ M3, M3 = wi M1 (g + 2) (nx ((x1 + (-1)) - 1)) r2 → RI (d + 1) μX1_run 4 [(0, .ref g), (1, .int (x1 + (-1))), (2, .int (x2 + 1))] [] M3 K)))))))) : RI (d + 1) μX1_run 56 [(0, .ref g), (1, .int x1), (2, .int x2), (3, .int x3)] [] M K := by
  show Rn (d + 1) μX1_run 56 [(0, .ref g), (1, .int x1), (2, .int x2), (3, .int x3)] [] M _
  refine rn_iload_n (i := 3) (x := x3) dX1_run_56 rfl (by simp) ?_
  refine rn_bipush (v := -6) dX1_run_57 rfl ?_
  refine rn_icmp_ge (tgt := 99) dX1_run_59 (by decide) (ite_go h (fun hc h => ?_) (fun hc h => ?_))
  · exact h
  · refine rn_iload_n (i := 1) (x := x1) dX1_run_62 rfl (by simp) ?_
    refine rn_iconst (v := 1) dX1_run_63 rfl ?_
    refine rn_icmp_le (tgt := 99) dX1_run_64 (by decide) (ite_go h (fun hc h => ?_) (fun hc h => ?_))
    · exact h
    · refine rn_iinc (x := x1) (v := x1 + (-1)) (lv' := [(0, .ref g), (1, .int (x1 + (-1))), (2, .int x2), (3, .int x3)]) dX1_run_67 (by simp) rfl (by decide) rfl rfl ?_
      refine rn_aload_n (i := 0) (x := g) dX1_run_70 rfl (by simp) ?_
      refine rn_getr (t := g + 2) dX1_run_71 hg gf_X1_15 rfl (formula_refs _ hg).2.1.1 ?_
      refine rn_iload_n (i := 1) (x := x1 + (-1)) dX1_run_74 rfl (by simp) ?_
      refine rn_iconst (v := 1) dX1_run_75 rfl ?_
      refine rn_isub dX1_run_76 ?_
      refine rn_iload_n (i := 3) (x := x3) dX1_run_77 rfl (by simp) ?_
      refine rn_aload_n (i := 0) (x := g) dX1_run_78 rfl (by simp) ?_
      refine rn_getr (t := g + 2) dX1_run_79 hg gf_X1_15 rfl (formula_refs _ hg).2.1.1 ?_
      refine rn_iload_n (i := 1) (x := x1 + (-1)) dX1_run_82 rfl (by simp) ?_
      refine rn_iconst (v := 1) dX1_run_83 rfl ?_
      refine rn_isub dX1_run_84 ?_
      obtain ⟨hi, h⟩ := h
      refine rn_iaload dX1_run_85 (formula_refs _ hg).2.1.2 hi ?_
      refine rn_aload_n (i := 0) (x := g) dX1_run_86 rfl (by simp) ?_
      refine rn_getr (t := g + 2) dX1_run_87 hg gf_X1_15 rfl (formula_refs _ hg).2.1.1 ?_
      refine rn_iload_n (i := 1) (x := x1 + (-1)) dX1_run_90 rfl (by simp) ?_
      obtain ⟨hi, h⟩ := h
      refine rn_iaload dX1_run_91 (formula_refs _ hg).2.1.2 hi ?_
      refine rn_callSi (as := [.int x3, .int (ri M (g + 2) (nx ((x1 + (-1)) - 1))), .int (ri M (g + 2) (nx (x1 + (-1))))]) (st := [.int ((x1 + (-1)) - 1), .ref (g + 2)]) dX1_run_92 mf_X1_joined lk_X1_41 sm_X1_joined rfl (Nat.le_of_ble_eq_true rfl) (Nat.le_of_ble_eq_true rfl) rfl (RI.mono h (fun r2 M1 h => ?_))
      obtain ⟨hi, h⟩ := h
      have h := h _ rfl
      refine rn_iastore dX1_run_95 (formula_refs _ hg).2.1.2 hi ?_
      generalize wi M1 (g + 2) (nx ((x1 + (-1)) - 1)) r2 = M3 at h ⊢
      refine rn_goto (tgt := 138) dX1_run_96 (by decide) ?_
      refine rn_iinc (x := x2) (v := x2 + 1) (lv' := [(0, .ref g), (1, .int (x1 + (-1))), (2, .int (x2 + 1)), (3, .int x3)]) dX1_run_138 (by simp) rfl (by decide) rfl rfl ?_
      refine rn_goto (tgt := 4) dX1_run_141 (by decide) ?_
      refine Rn.sub (lv' := [(0, .ref g), (1, .int (x1 + (-1))), (2, .int (x2 + 1))]) (by simp) ?_
      exact h
set_option maxRecDepth 20000 in
theorem sg_X1_run_99 {d : Nat} {g : Nat} {x1 : Int32} {x2 : Int32} {x3 : Int32} {M : Mem} {K : (Int32 → Mem → Prop)} (hg : kd g = (0, 1)) (h : (if x3 ≤ (-6) then RI (d + 1) μX1_run 4 [(0, .ref g), (1, .int x1), (2, .int (x2 + 1))] [] M K else (if Int32.ofNat 31 ≤ x1 then RI (d + 1) μX1_run 4 [(0, .ref g), (1, .int x1), (2, .int (x2 + 1))] [] M K else (if x3 < 0 then (vp_in (-x3) 6 ∧ (vp_in x1 31 ∧ ∀ M1, M1 = wi M (g + 2) (nx x1) (ri M (g + 3) (nx (-x3))) → RI (d + 1) μX1_run 4 [(0, .ref g), (1, .int (x1 + 1)), (2, .int (x2 + 1))] [] M1 K)) else (vp_in x1 31 ∧ ∀ M2, M2 = wi M (g + 2) (nx x1) x3 → RI (d + 1) μX1_run 4 [(0, .ref g), (1, .int (x1 + 1)), (2, .int (x2 + 1))] [] M2 K))))) : RI (d + 1) μX1_run 99 [(0, .ref g), (1, .int x1), (2, .int x2), (3, .int x3)] [] M K := by
  show Rn (d + 1) μX1_run 99 [(0, .ref g), (1, .int x1), (2, .int x2), (3, .int x3)] [] M _
  refine rn_iload_n (i := 3) (x := x3) dX1_run_99 rfl (by simp) ?_
  refine rn_bipush (v := -6) dX1_run_100 rfl ?_
  refine rn_icmp_le (tgt := 138) dX1_run_102 (by decide) (ite_go h (fun hc h => ?_) (fun hc h => ?_))
  · refine rn_iinc (x := x2) (v := x2 + 1) (lv' := [(0, .ref g), (1, .int x1), (2, .int (x2 + 1)), (3, .int x3)]) dX1_run_138 (by simp) rfl (by decide) rfl rfl ?_
    refine rn_goto (tgt := 4) dX1_run_141 (by decide) ?_
    refine Rn.sub (lv' := [(0, .ref g), (1, .int x1), (2, .int (x2 + 1))]) (by simp) ?_
    exact h
  · refine rn_iload_n (i := 1) (x := x1) dX1_run_105 rfl (by simp) ?_
    refine rn_aload_n (i := 0) (x := g) dX1_run_106 rfl (by simp) ?_
    refine rn_getr (t := g + 2) dX1_run_107 hg gf_X1_15 rfl (formula_refs _ hg).2.1.1 ?_
    refine rn_alen_i (v := Int32.ofNat 31) dX1_run_110 (formula_refs _ hg).2.1.2 rfl ?_
    refine rn_icmp_ge (tgt := 138) dX1_run_111 (by decide) (ite_go h (fun hc h => ?_) (fun hc h => ?_))
    · refine rn_iinc (x := x2) (v := x2 + 1) (lv' := [(0, .ref g), (1, .int x1), (2, .int (x2 + 1)), (3, .int x3)]) dX1_run_138 (by simp) rfl (by decide) rfl rfl ?_
      refine rn_goto (tgt := 4) dX1_run_141 (by decide) ?_
      refine Rn.sub (lv' := [(0, .ref g), (1, .int x1), (2, .int (x2 + 1))]) (by simp) ?_
      exact h
    · refine rn_aload_n (i := 0) (x := g) dX1_run_114 rfl (by simp) ?_
      refine rn_getr (t := g + 2) dX1_run_115 hg gf_X1_15 rfl (formula_refs _ hg).2.1.1 ?_
      refine rn_iload_n (i := 1) (x := x1) dX1_run_118 rfl (by simp) ?_
      refine rn_iload_n (i := 3) (x := x3) dX1_run_119 rfl (by simp) ?_
      refine rn_if_lt (tgt := 127) dX1_run_120 (by decide) (ite_go h (fun hc h => ?_) (fun hc h => ?_))
      · refine rn_aload_n (i := 0) (x := g) dX1_run_127 rfl (by simp) ?_
        refine rn_getr (t := g + 3) dX1_run_128 hg gf_X1_18 rfl (formula_refs _ hg).2.2.1 ?_
        refine rn_iload_n (i := 3) (x := x3) dX1_run_131 rfl (by simp) ?_
        refine rn_ineg dX1_run_132 ?_
        obtain ⟨hi, h⟩ := h
        refine rn_iaload dX1_run_133 (formula_refs _ hg).2.2.2 hi ?_
        obtain ⟨hi, h⟩ := h
        have h := h _ rfl
        refine rn_iastore dX1_run_134 (formula_refs _ hg).2.1.2 hi ?_
        generalize wi M (g + 2) (nx x1) (ri M (g + 3) (nx (-x3))) = M1 at h ⊢
        refine rn_iinc (x := x1) (v := x1 + 1) (lv' := [(0, .ref g), (1, .int (x1 + 1)), (2, .int x2), (3, .int x3)]) dX1_run_135 (by simp) rfl (by decide) rfl rfl ?_
        refine rn_iinc (x := x2) (v := x2 + 1) (lv' := [(0, .ref g), (1, .int (x1 + 1)), (2, .int (x2 + 1)), (3, .int x3)]) dX1_run_138 (by simp) rfl (by decide) rfl rfl ?_
        refine rn_goto (tgt := 4) dX1_run_141 (by decide) ?_
        refine Rn.sub (lv' := [(0, .ref g), (1, .int (x1 + 1)), (2, .int (x2 + 1))]) (by simp) ?_
        exact h
      · refine rn_iload_n (i := 3) (x := x3) dX1_run_123 rfl (by simp) ?_
        refine rn_goto (tgt := 134) dX1_run_124 (by decide) ?_
        obtain ⟨hi, h⟩ := h
        have h := h _ rfl
        refine rn_iastore dX1_run_134 (formula_refs _ hg).2.1.2 hi ?_
        generalize wi M (g + 2) (nx x1) x3 = M2 at h ⊢
        refine rn_iinc (x := x1) (v := x1 + 1) (lv' := [(0, .ref g), (1, .int (x1 + 1)), (2, .int x2), (3, .int x3)]) dX1_run_135 (by simp) rfl (by decide) rfl rfl ?_
        refine rn_iinc (x := x2) (v := x2 + 1) (lv' := [(0, .ref g), (1, .int (x1 + 1)), (2, .int (x2 + 1)), (3, .int x3)]) dX1_run_138 (by simp) rfl (by decide) rfl rfl ?_
        refine rn_goto (tgt := 4) dX1_run_141 (by decide) ?_
        refine Rn.sub (lv' := [(0, .ref g), (1, .int (x1 + 1)), (2, .int (x2 + 1))]) (by simp) ?_
        exact h
theorem dX1_joined_0 : decode μX1_joined.2.1 0 = .ok (.iload_n 0, 1) := by decide +kernel
theorem dX1_joined_1 : decode μX1_joined.2.1 1 = .ok (.tableswitch 152 (-16) (-7) #[140, 128, 124, 120, 116, 105, 94, 83, 69, 55], 55) := by decide +kernel
theorem dX1_joined_56 : decode μX1_joined.2.1 56 = .ok (.iload_n 1, 1) := by decide +kernel
theorem dX1_joined_57 : decode μX1_joined.2.1 57 = .ok (.ifCond .ne 7, 3) := by decide +kernel
theorem dX1_joined_60 : decode μX1_joined.2.1 60 = .ok (.iload_n 2, 1) := by decide +kernel
theorem dX1_joined_61 : decode μX1_joined.2.1 61 = .ok (.ifCond .eq 7, 3) := by decide +kernel
theorem dX1_joined_64 : decode μX1_joined.2.1 64 = .ok (.iconst 1, 1) := by decide +kernel
theorem dX1_joined_65 : decode μX1_joined.2.1 65 = .ok (.goto 4, 3) := by decide +kernel
theorem dX1_joined_68 : decode μX1_joined.2.1 68 = .ok (.iconst 0, 1) := by decide +kernel
theorem dX1_joined_69 : decode μX1_joined.2.1 69 = .ok (.ireturn, 1) := by decide +kernel
theorem dX1_joined_70 : decode μX1_joined.2.1 70 = .ok (.iload_n 1, 1) := by decide +kernel
theorem dX1_joined_71 : decode μX1_joined.2.1 71 = .ok (.ifCond .eq 11, 3) := by decide +kernel
theorem dX1_joined_74 : decode μX1_joined.2.1 74 = .ok (.iload_n 2, 1) := by decide +kernel
theorem dX1_joined_75 : decode μX1_joined.2.1 75 = .ok (.ifCond .eq 7, 3) := by decide +kernel
theorem dX1_joined_78 : decode μX1_joined.2.1 78 = .ok (.iconst 1, 1) := by decide +kernel
theorem dX1_joined_79 : decode μX1_joined.2.1 79 = .ok (.goto 4, 3) := by decide +kernel
theorem dX1_joined_82 : decode μX1_joined.2.1 82 = .ok (.iconst 0, 1) := by decide +kernel
theorem dX1_joined_83 : decode μX1_joined.2.1 83 = .ok (.ireturn, 1) := by decide +kernel
theorem dX1_joined_84 : decode μX1_joined.2.1 84 = .ok (.iload_n 1, 1) := by decide +kernel
theorem dX1_joined_85 : decode μX1_joined.2.1 85 = .ok (.iload_n 2, 1) := by decide +kernel
theorem dX1_joined_86 : decode μX1_joined.2.1 86 = .ok (.if_icmp .ge 7, 3) := by decide +kernel
theorem dX1_joined_89 : decode μX1_joined.2.1 89 = .ok (.iconst 1, 1) := by decide +kernel
theorem dX1_joined_90 : decode μX1_joined.2.1 90 = .ok (.goto 4, 3) := by decide +kernel
theorem dX1_joined_93 : decode μX1_joined.2.1 93 = .ok (.iconst 0, 1) := by decide +kernel
theorem dX1_joined_94 : decode μX1_joined.2.1 94 = .ok (.ireturn, 1) := by decide +kernel
theorem dX1_joined_95 : decode μX1_joined.2.1 95 = .ok (.iload_n 1, 1) := by decide +kernel
theorem dX1_joined_96 : decode μX1_joined.2.1 96 = .ok (.iload_n 2, 1) := by decide +kernel
theorem dX1_joined_97 : decode μX1_joined.2.1 97 = .ok (.if_icmp .le 7, 3) := by decide +kernel
theorem dX1_joined_100 : decode μX1_joined.2.1 100 = .ok (.iconst 1, 1) := by decide +kernel
theorem dX1_joined_101 : decode μX1_joined.2.1 101 = .ok (.goto 4, 3) := by decide +kernel
theorem dX1_joined_104 : decode μX1_joined.2.1 104 = .ok (.iconst 0, 1) := by decide +kernel
theorem dX1_joined_105 : decode μX1_joined.2.1 105 = .ok (.ireturn, 1) := by decide +kernel
theorem dX1_joined_106 : decode μX1_joined.2.1 106 = .ok (.iload_n 1, 1) := by decide +kernel
theorem dX1_joined_107 : decode μX1_joined.2.1 107 = .ok (.iload_n 2, 1) := by decide +kernel
theorem dX1_joined_108 : decode μX1_joined.2.1 108 = .ok (.if_icmp .ne 7, 3) := by decide +kernel
theorem dX1_joined_111 : decode μX1_joined.2.1 111 = .ok (.iconst 1, 1) := by decide +kernel
theorem dX1_joined_112 : decode μX1_joined.2.1 112 = .ok (.goto 4, 3) := by decide +kernel
theorem dX1_joined_115 : decode μX1_joined.2.1 115 = .ok (.iconst 0, 1) := by decide +kernel
theorem dX1_joined_116 : decode μX1_joined.2.1 116 = .ok (.ireturn, 1) := by decide +kernel
theorem dX1_joined_117 : decode μX1_joined.2.1 117 = .ok (.iload_n 1, 1) := by decide +kernel
theorem dX1_joined_118 : decode μX1_joined.2.1 118 = .ok (.iload_n 2, 1) := by decide +kernel
theorem dX1_joined_119 : decode μX1_joined.2.1 119 = .ok (.iadd, 1) := by decide +kernel
theorem dX1_joined_120 : decode μX1_joined.2.1 120 = .ok (.ireturn, 1) := by decide +kernel
theorem dX1_joined_121 : decode μX1_joined.2.1 121 = .ok (.iload_n 1, 1) := by decide +kernel
theorem dX1_joined_122 : decode μX1_joined.2.1 122 = .ok (.iload_n 2, 1) := by decide +kernel
theorem dX1_joined_123 : decode μX1_joined.2.1 123 = .ok (.isub, 1) := by decide +kernel
theorem dX1_joined_124 : decode μX1_joined.2.1 124 = .ok (.ireturn, 1) := by decide +kernel
theorem dX1_joined_125 : decode μX1_joined.2.1 125 = .ok (.iload_n 1, 1) := by decide +kernel
theorem dX1_joined_126 : decode μX1_joined.2.1 126 = .ok (.iload_n 2, 1) := by decide +kernel
theorem dX1_joined_127 : decode μX1_joined.2.1 127 = .ok (.imul, 1) := by decide +kernel
theorem dX1_joined_128 : decode μX1_joined.2.1 128 = .ok (.ireturn, 1) := by decide +kernel
theorem dX1_joined_129 : decode μX1_joined.2.1 129 = .ok (.iload_n 2, 1) := by decide +kernel
theorem dX1_joined_130 : decode μX1_joined.2.1 130 = .ok (.ifCond .ne 7, 3) := by decide +kernel
theorem dX1_joined_133 : decode μX1_joined.2.1 133 = .ok (.iconst 0, 1) := by decide +kernel
theorem dX1_joined_134 : decode μX1_joined.2.1 134 = .ok (.goto 6, 3) := by decide +kernel
theorem dX1_joined_137 : decode μX1_joined.2.1 137 = .ok (.iload_n 1, 1) := by decide +kernel
theorem dX1_joined_138 : decode μX1_joined.2.1 138 = .ok (.iload_n 2, 1) := by decide +kernel
theorem dX1_joined_139 : decode μX1_joined.2.1 139 = .ok (.idiv, 1) := by decide +kernel
theorem dX1_joined_140 : decode μX1_joined.2.1 140 = .ok (.ireturn, 1) := by decide +kernel
theorem dX1_joined_141 : decode μX1_joined.2.1 141 = .ok (.iload_n 2, 1) := by decide +kernel
theorem dX1_joined_142 : decode μX1_joined.2.1 142 = .ok (.ifCond .ne 7, 3) := by decide +kernel
theorem dX1_joined_145 : decode μX1_joined.2.1 145 = .ok (.iconst 0, 1) := by decide +kernel
theorem dX1_joined_146 : decode μX1_joined.2.1 146 = .ok (.goto 6, 3) := by decide +kernel
theorem dX1_joined_149 : decode μX1_joined.2.1 149 = .ok (.iload_n 1, 1) := by decide +kernel
theorem dX1_joined_150 : decode μX1_joined.2.1 150 = .ok (.iload_n 2, 1) := by decide +kernel
theorem dX1_joined_151 : decode μX1_joined.2.1 151 = .ok (.irem, 1) := by decide +kernel
theorem dX1_joined_152 : decode μX1_joined.2.1 152 = .ok (.ireturn, 1) := by decide +kernel
theorem dX1_joined_153 : decode μX1_joined.2.1 153 = .ok (.iconst 0, 1) := by decide +kernel
theorem dX1_joined_154 : decode μX1_joined.2.1 154 = .ok (.ireturn, 1) := by decide +kernel
set_option maxRecDepth 20000 in
theorem sg_X1_joined_0 {d : Nat} {x0 : Int32} {x1 : Int32} {x2 : Int32} {M : Mem} {K : (Int32 → Mem → Prop)}  (h : ((x0 = (-16) → (if x2 = 0 then K 0 M else (¬ x2 = 0 ∧ K (x1 - x1 / x2 * x2) M))) ∧ (x0 = (-15) → (if x2 = 0 then K 0 M else (¬ x2 = 0 ∧ K (x1 / x2) M))) ∧ (x0 = (-14) → K (x1 * x2) M) ∧ (x0 = (-13) → K (x1 - x2) M) ∧ (x0 = (-12) → K (x1 + x2) M) ∧ (x0 = (-11) → (if x1 = x2 then K 1 M else K 0 M)) ∧ (x0 = (-10) → (if x1 ≤ x2 then K 0 M else K 1 M)) ∧ (x0 = (-9) → (if x2 ≤ x1 then K 0 M else K 1 M)) ∧ (x0 = (-8) → (if x1 = 0 then K 0 M else (if x2 = 0 then K 0 M else K 1 M))) ∧ (x0 = (-7) → (if x1 = 0 then (if x2 = 0 then K 0 M else K 1 M) else K 1 M)) ∧ ((x0).toInt < (-16) ∨ (-7) < (x0).toInt → K 0 M))) : CI d μX1_joined [.int x0, .int x1, .int x2] M K := by
  show Rn d μX1_joined 0 [(0, .int x0), (1, .int x1), (2, .int x2)] [] M _
  refine rn_iload_n (i := 0) (x := x0) dX1_joined_0 rfl (by simp) ?_
  by_cases hlo : (x0).toInt < (-16)
  · have h := h.2.2.2.2.2.2.2.2.2.2 (Or.inl hlo)
    refine rn_tswitch (tgt := 153) dX1_joined_1 (Or.inl ⟨Or.inl hlo, by decide⟩) ?_
    refine rn_iconst (v := 0) dX1_joined_153 rfl ?_
    exact rn_iret dX1_joined_154 rfl ⟨_, rfl, h⟩
  by_cases hhi : (-7) < (x0).toInt
  · have h := h.2.2.2.2.2.2.2.2.2.2 (Or.inr hhi)
    refine rn_tswitch (tgt := 153) dX1_joined_1 (Or.inl ⟨Or.inr hhi, by decide⟩) ?_
    refine rn_iconst (v := 0) dX1_joined_153 rfl ?_
    exact rn_iret dX1_joined_154 rfl ⟨_, rfl, h⟩
  have hv : (x0).toInt = (-16) ∨ (x0).toInt = (-15) ∨ (x0).toInt = (-14) ∨ (x0).toInt = (-13) ∨ (x0).toInt = (-12) ∨ (x0).toInt = (-11) ∨ (x0).toInt = (-10) ∨ (x0).toInt = (-9) ∨ (x0).toInt = (-8) ∨ (x0).toInt = (-7) := by omega
  rcases hv with hv | hv | hv | hv | hv | hv | hv | hv | hv | hv
  · have h := h.1 (Int32.toInt_inj.mp hv)
    refine rn_tswitch (tgt := 141) dX1_joined_1 (Or.inr ⟨hlo, hhi, _, by rw [hv]; rfl, by decide⟩) ?_
    refine rn_iload_n (i := 2) (x := x2) dX1_joined_141 rfl (by simp) ?_
    refine rn_if_ne (tgt := 149) dX1_joined_142 (by decide) (ite_go h (fun hc h => ?_) (fun hc h => ?_))
    · refine rn_iconst (v := 0) dX1_joined_145 rfl ?_
      refine rn_goto (tgt := 152) dX1_joined_146 (by decide) ?_
      exact rn_iret dX1_joined_152 rfl ⟨_, rfl, h⟩
    · refine rn_iload_n (i := 1) (x := x1) dX1_joined_149 rfl (by simp) ?_
      refine rn_iload_n (i := 2) (x := x2) dX1_joined_150 rfl (by simp) ?_
      obtain ⟨hne, h⟩ := h
      refine rn_irem dX1_joined_151 hne ?_
      exact rn_iret dX1_joined_152 rfl ⟨_, rfl, h⟩
  · have h := h.2.1 (Int32.toInt_inj.mp hv)
    refine rn_tswitch (tgt := 129) dX1_joined_1 (Or.inr ⟨hlo, hhi, _, by rw [hv]; rfl, by decide⟩) ?_
    refine rn_iload_n (i := 2) (x := x2) dX1_joined_129 rfl (by simp) ?_
    refine rn_if_ne (tgt := 137) dX1_joined_130 (by decide) (ite_go h (fun hc h => ?_) (fun hc h => ?_))
    · refine rn_iconst (v := 0) dX1_joined_133 rfl ?_
      refine rn_goto (tgt := 140) dX1_joined_134 (by decide) ?_
      exact rn_iret dX1_joined_140 rfl ⟨_, rfl, h⟩
    · refine rn_iload_n (i := 1) (x := x1) dX1_joined_137 rfl (by simp) ?_
      refine rn_iload_n (i := 2) (x := x2) dX1_joined_138 rfl (by simp) ?_
      obtain ⟨hne, h⟩ := h
      refine rn_idiv dX1_joined_139 hne ?_
      exact rn_iret dX1_joined_140 rfl ⟨_, rfl, h⟩
  · have h := h.2.2.1 (Int32.toInt_inj.mp hv)
    refine rn_tswitch (tgt := 125) dX1_joined_1 (Or.inr ⟨hlo, hhi, _, by rw [hv]; rfl, by decide⟩) ?_
    refine rn_iload_n (i := 1) (x := x1) dX1_joined_125 rfl (by simp) ?_
    refine rn_iload_n (i := 2) (x := x2) dX1_joined_126 rfl (by simp) ?_
    refine rn_imul dX1_joined_127 ?_
    exact rn_iret dX1_joined_128 rfl ⟨_, rfl, h⟩
  · have h := h.2.2.2.1 (Int32.toInt_inj.mp hv)
    refine rn_tswitch (tgt := 121) dX1_joined_1 (Or.inr ⟨hlo, hhi, _, by rw [hv]; rfl, by decide⟩) ?_
    refine rn_iload_n (i := 1) (x := x1) dX1_joined_121 rfl (by simp) ?_
    refine rn_iload_n (i := 2) (x := x2) dX1_joined_122 rfl (by simp) ?_
    refine rn_isub dX1_joined_123 ?_
    exact rn_iret dX1_joined_124 rfl ⟨_, rfl, h⟩
  · have h := h.2.2.2.2.1 (Int32.toInt_inj.mp hv)
    refine rn_tswitch (tgt := 117) dX1_joined_1 (Or.inr ⟨hlo, hhi, _, by rw [hv]; rfl, by decide⟩) ?_
    refine rn_iload_n (i := 1) (x := x1) dX1_joined_117 rfl (by simp) ?_
    refine rn_iload_n (i := 2) (x := x2) dX1_joined_118 rfl (by simp) ?_
    refine rn_iadd dX1_joined_119 ?_
    exact rn_iret dX1_joined_120 rfl ⟨_, rfl, h⟩
  · have h := h.2.2.2.2.2.1 (Int32.toInt_inj.mp hv)
    refine rn_tswitch (tgt := 106) dX1_joined_1 (Or.inr ⟨hlo, hhi, _, by rw [hv]; rfl, by decide⟩) ?_
    refine rn_iload_n (i := 1) (x := x1) dX1_joined_106 rfl (by simp) ?_
    refine rn_iload_n (i := 2) (x := x2) dX1_joined_107 rfl (by simp) ?_
    refine rn_icmp_ne (tgt := 115) dX1_joined_108 (by decide) (ite_go h (fun hc h => ?_) (fun hc h => ?_))
    · refine rn_iconst (v := 1) dX1_joined_111 rfl ?_
      refine rn_goto (tgt := 116) dX1_joined_112 (by decide) ?_
      exact rn_iret dX1_joined_116 rfl ⟨_, rfl, h⟩
    · refine rn_iconst (v := 0) dX1_joined_115 rfl ?_
      exact rn_iret dX1_joined_116 rfl ⟨_, rfl, h⟩
  · have h := h.2.2.2.2.2.2.1 (Int32.toInt_inj.mp hv)
    refine rn_tswitch (tgt := 95) dX1_joined_1 (Or.inr ⟨hlo, hhi, _, by rw [hv]; rfl, by decide⟩) ?_
    refine rn_iload_n (i := 1) (x := x1) dX1_joined_95 rfl (by simp) ?_
    refine rn_iload_n (i := 2) (x := x2) dX1_joined_96 rfl (by simp) ?_
    refine rn_icmp_le (tgt := 104) dX1_joined_97 (by decide) (ite_go h (fun hc h => ?_) (fun hc h => ?_))
    · refine rn_iconst (v := 0) dX1_joined_104 rfl ?_
      exact rn_iret dX1_joined_105 rfl ⟨_, rfl, h⟩
    · refine rn_iconst (v := 1) dX1_joined_100 rfl ?_
      refine rn_goto (tgt := 105) dX1_joined_101 (by decide) ?_
      exact rn_iret dX1_joined_105 rfl ⟨_, rfl, h⟩
  · have h := h.2.2.2.2.2.2.2.1 (Int32.toInt_inj.mp hv)
    refine rn_tswitch (tgt := 84) dX1_joined_1 (Or.inr ⟨hlo, hhi, _, by rw [hv]; rfl, by decide⟩) ?_
    refine rn_iload_n (i := 1) (x := x1) dX1_joined_84 rfl (by simp) ?_
    refine rn_iload_n (i := 2) (x := x2) dX1_joined_85 rfl (by simp) ?_
    refine rn_icmp_ge (tgt := 93) dX1_joined_86 (by decide) (ite_go h (fun hc h => ?_) (fun hc h => ?_))
    · refine rn_iconst (v := 0) dX1_joined_93 rfl ?_
      exact rn_iret dX1_joined_94 rfl ⟨_, rfl, h⟩
    · refine rn_iconst (v := 1) dX1_joined_89 rfl ?_
      refine rn_goto (tgt := 94) dX1_joined_90 (by decide) ?_
      exact rn_iret dX1_joined_94 rfl ⟨_, rfl, h⟩
  · have h := h.2.2.2.2.2.2.2.2.1 (Int32.toInt_inj.mp hv)
    refine rn_tswitch (tgt := 70) dX1_joined_1 (Or.inr ⟨hlo, hhi, _, by rw [hv]; rfl, by decide⟩) ?_
    refine rn_iload_n (i := 1) (x := x1) dX1_joined_70 rfl (by simp) ?_
    refine rn_if_eq (tgt := 82) dX1_joined_71 (by decide) (ite_go h (fun hc h => ?_) (fun hc h => ?_))
    · refine rn_iconst (v := 0) dX1_joined_82 rfl ?_
      exact rn_iret dX1_joined_83 rfl ⟨_, rfl, h⟩
    · refine rn_iload_n (i := 2) (x := x2) dX1_joined_74 rfl (by simp) ?_
      refine rn_if_eq (tgt := 82) dX1_joined_75 (by decide) (ite_go h (fun hc h => ?_) (fun hc h => ?_))
      · refine rn_iconst (v := 0) dX1_joined_82 rfl ?_
        exact rn_iret dX1_joined_83 rfl ⟨_, rfl, h⟩
      · refine rn_iconst (v := 1) dX1_joined_78 rfl ?_
        refine rn_goto (tgt := 83) dX1_joined_79 (by decide) ?_
        exact rn_iret dX1_joined_83 rfl ⟨_, rfl, h⟩
  · have h := h.2.2.2.2.2.2.2.2.2.1 (Int32.toInt_inj.mp hv)
    refine rn_tswitch (tgt := 56) dX1_joined_1 (Or.inr ⟨hlo, hhi, _, by rw [hv]; rfl, by decide⟩) ?_
    refine rn_iload_n (i := 1) (x := x1) dX1_joined_56 rfl (by simp) ?_
    refine rn_if_ne (tgt := 64) dX1_joined_57 (by decide) (ite_go h (fun hc h => ?_) (fun hc h => ?_))
    · refine rn_iload_n (i := 2) (x := x2) dX1_joined_60 rfl (by simp) ?_
      refine rn_if_eq (tgt := 68) dX1_joined_61 (by decide) (ite_go h (fun hc h => ?_) (fun hc h => ?_))
      · refine rn_iconst (v := 0) dX1_joined_68 rfl ?_
        exact rn_iret dX1_joined_69 rfl ⟨_, rfl, h⟩
      · refine rn_iconst (v := 1) dX1_joined_64 rfl ?_
        refine rn_goto (tgt := 69) dX1_joined_65 (by decide) ?_
        exact rn_iret dX1_joined_69 rfl ⟨_, rfl, h⟩
    · refine rn_iconst (v := 1) dX1_joined_64 rfl ?_
      refine rn_goto (tgt := 69) dX1_joined_65 (by decide) ?_
      exact rn_iret dX1_joined_69 rfl ⟨_, rfl, h⟩
