theorem dX2_empty_0 : decode μX2_empty.2.1 0 = .ok (.aload_n 0, 1) := by decide +kernel
theorem dX2_empty_1 : decode μX2_empty.2.1 1 = .ok (.iconst 0, 1) := by decide +kernel
theorem dX2_empty_2 : decode μX2_empty.2.1 2 = .ok (.putfield 9, 3) := by decide +kernel
theorem dX2_empty_5 : decode μX2_empty.2.1 5 = .ok (.aload_n 0, 1) := by decide +kernel
theorem dX2_empty_6 : decode μX2_empty.2.1 6 = .ok (.iconst 0, 1) := by decide +kernel
theorem dX2_empty_7 : decode μX2_empty.2.1 7 = .ok (.putfield 15, 3) := by decide +kernel
theorem dX2_empty_10 : decode μX2_empty.2.1 10 = .ok (.aload_n 0, 1) := by decide +kernel
theorem dX2_empty_11 : decode μX2_empty.2.1 11 = .ok (.iconst 0, 1) := by decide +kernel
theorem dX2_empty_12 : decode μX2_empty.2.1 12 = .ok (.putfield 18, 3) := by decide +kernel
theorem dX2_empty_15 : decode μX2_empty.2.1 15 = .ok (.aload_n 0, 1) := by decide +kernel
theorem dX2_empty_16 : decode μX2_empty.2.1 16 = .ok (.iconst 0, 1) := by decide +kernel
theorem dX2_empty_17 : decode μX2_empty.2.1 17 = .ok (.putfield 21, 3) := by decide +kernel
theorem dX2_empty_20 : decode μX2_empty.2.1 20 = .ok (.aload_n 0, 1) := by decide +kernel
theorem dX2_empty_21 : decode μX2_empty.2.1 21 = .ok (.iconst 0, 1) := by decide +kernel
theorem dX2_empty_22 : decode μX2_empty.2.1 22 = .ok (.putfield 24, 3) := by decide +kernel
theorem dX2_empty_25 : decode μX2_empty.2.1 25 = .ok (.iconst 0, 1) := by decide +kernel
theorem dX2_empty_26 : decode μX2_empty.2.1 26 = .ok (.istore_n 1, 1) := by decide +kernel
theorem dX2_empty_27 : decode μX2_empty.2.1 27 = .ok (.iload_n 1, 1) := by decide +kernel
theorem dX2_empty_28 : decode μX2_empty.2.1 28 = .ok (.bipush 8, 2) := by decide +kernel
theorem dX2_empty_30 : decode μX2_empty.2.1 30 = .ok (.if_icmp .ge 16, 3) := by decide +kernel
theorem dX2_empty_33 : decode μX2_empty.2.1 33 = .ok (.aload_n 0, 1) := by decide +kernel
theorem dX2_empty_34 : decode μX2_empty.2.1 34 = .ok (.getfield 27, 3) := by decide +kernel
theorem dX2_empty_37 : decode μX2_empty.2.1 37 = .ok (.iload_n 1, 1) := by decide +kernel
theorem dX2_empty_38 : decode μX2_empty.2.1 38 = .ok (.iconst 0, 1) := by decide +kernel
theorem dX2_empty_39 : decode μX2_empty.2.1 39 = .ok (.iastore, 1) := by decide +kernel
theorem dX2_empty_40 : decode μX2_empty.2.1 40 = .ok (.iinc 1 1, 3) := by decide +kernel
theorem dX2_empty_43 : decode μX2_empty.2.1 43 = .ok (.goto (-16), 3) := by decide +kernel
theorem dX2_empty_46 : decode μX2_empty.2.1 46 = .ok (.aload_n 0, 1) := by decide +kernel
theorem dX2_empty_47 : decode μX2_empty.2.1 47 = .ok (.invokevirtual 43, 3) := by decide +kernel
theorem dX2_empty_50 : decode μX2_empty.2.1 50 = .ok (.return_, 1) := by decide +kernel
set_option maxRecDepth 20000 in
theorem sg_X2_empty_0 {d : Nat} {o : Nat} {M : Mem} {K : (Mem → Prop)} (ho : kd o = (0, 2)) (h : (∀ M1, M1 = wi M o 0 0 → (∀ M2, M2 = wi M1 o 1 0 → (∀ M3, M3 = wi M2 o 2 0 → (∀ M4, M4 = wi M3 o 3 0 → (∀ M5, M5 = wi M4 o 4 0 → RV (d + 1) μX2_empty 27 [(0, .ref o), (1, .int 0)] [] M5 K)))))) : CV (d + 1) μX2_empty [.ref o] M K := by
  show Rn (d + 1) μX2_empty 0 [(0, .ref o)] [] M _
  refine rn_aload_n (i := 0) (x := o) dX2_empty_0 rfl (by simp) ?_
  refine rn_iconst (v := 0) dX2_empty_1 rfl ?_
  have h := h _ rfl
  refine rn_puti dX2_empty_2 ho pf_X2_9 (by decide) rfl rfl ?_
  generalize wi M o 0 0 = M1 at h ⊢
  refine rn_aload_n (i := 0) (x := o) dX2_empty_5 rfl (by simp) ?_
  refine rn_iconst (v := 0) dX2_empty_6 rfl ?_
  have h := h _ rfl
  refine rn_puti dX2_empty_7 ho pf_X2_15 (by decide) rfl rfl ?_
  generalize wi M1 o 1 0 = M2 at h ⊢
  refine rn_aload_n (i := 0) (x := o) dX2_empty_10 rfl (by simp) ?_
  refine rn_iconst (v := 0) dX2_empty_11 rfl ?_
  have h := h _ rfl
  refine rn_puti dX2_empty_12 ho pf_X2_18 (by decide) rfl rfl ?_
  generalize wi M2 o 2 0 = M3 at h ⊢
  refine rn_aload_n (i := 0) (x := o) dX2_empty_15 rfl (by simp) ?_
  refine rn_iconst (v := 0) dX2_empty_16 rfl ?_
  have h := h _ rfl
  refine rn_puti dX2_empty_17 ho pf_X2_21 (by decide) rfl rfl ?_
  generalize wi M3 o 3 0 = M4 at h ⊢
  refine rn_aload_n (i := 0) (x := o) dX2_empty_20 rfl (by simp) ?_
  refine rn_iconst (v := 0) dX2_empty_21 rfl ?_
  have h := h _ rfl
  refine rn_puti dX2_empty_22 ho pf_X2_24 (by decide) rfl rfl ?_
  generalize wi M4 o 4 0 = M5 at h ⊢
  refine rn_iconst (v := 0) dX2_empty_25 rfl ?_
  refine rn_istore_n (lv' := [(0, .ref o), (1, .int 0)]) (hd := dX2_empty_26) (i := 1) (hi := rfl) (hn := by decide) (hf := rfl) (hl := rfl) ?_
  exact h
set_option maxRecDepth 20000 in
theorem sg_X2_empty_27 {d : Nat} {o : Nat} {x1 : Int32} {M : Mem} {K : (Mem → Prop)} (ho : kd o = (0, 2)) (h : (if 8 ≤ x1 then (CV d μX2_settle [.ref o] M (fun M1 => K M1)) else (vp_in x1 8 ∧ ∀ M2, M2 = wi M (o + 1) (nx x1) 0 → RV (d + 1) μX2_empty 27 [(0, .ref o), (1, .int (x1 + 1))] [] M2 K))) : RV (d + 1) μX2_empty 27 [(0, .ref o), (1, .int x1)] [] M K := by
  show Rn (d + 1) μX2_empty 27 [(0, .ref o), (1, .int x1)] [] M _
  refine rn_iload_n (i := 1) (x := x1) dX2_empty_27 rfl (by simp) ?_
  refine rn_bipush (v := 8) dX2_empty_28 rfl ?_
  refine rn_icmp_ge (tgt := 46) dX2_empty_30 (by decide) (ite_go h (fun hc h => ?_) (fun hc h => ?_))
  · refine rn_aload_n (i := 0) (x := o) dX2_empty_46 rfl (by simp) ?_
    refine rn_callVv (as := []) (st := []) dX2_empty_47 mf_X2_settle lk_X2_43 im_X2_settle ho rfl rfl rfl (Nat.le_of_ble_eq_true rfl) (Nat.le_of_ble_eq_true rfl) rfl (RV.mono h (fun M1 h => ?_))
    exact rn_ret dX2_empty_50 rfl ⟨rfl, h⟩
  · refine rn_aload_n (i := 0) (x := o) dX2_empty_33 rfl (by simp) ?_
    refine rn_getr (t := o + 1) dX2_empty_34 ho gf_X2_27 rfl (froth_refs _ ho).1.1 ?_
    refine rn_iload_n (i := 1) (x := x1) dX2_empty_37 rfl (by simp) ?_
    refine rn_iconst (v := 0) dX2_empty_38 rfl ?_
    obtain ⟨hi, h⟩ := h
    have h := h _ rfl
    refine rn_iastore dX2_empty_39 (froth_refs _ ho).1.2 hi ?_
    generalize wi M (o + 1) (nx x1) 0 = M2 at h ⊢
    refine rn_iinc (x := x1) (v := x1 + 1) (lv' := [(0, .ref o), (1, .int (x1 + 1))]) dX2_empty_40 (by simp) rfl (by decide) rfl rfl ?_
    refine rn_goto (tgt := 27) dX2_empty_43 (by decide) ?_
    exact h
theorem dX2_copyFrom_0 : decode μX2_copyFrom.2.1 0 = .ok (.aload_n 0, 1) := by decide +kernel
theorem dX2_copyFrom_1 : decode μX2_copyFrom.2.1 1 = .ok (.aload_n 1, 1) := by decide +kernel
theorem dX2_copyFrom_2 : decode μX2_copyFrom.2.1 2 = .ok (.getfield 9, 3) := by decide +kernel
theorem dX2_copyFrom_5 : decode μX2_copyFrom.2.1 5 = .ok (.putfield 9, 3) := by decide +kernel
theorem dX2_copyFrom_8 : decode μX2_copyFrom.2.1 8 = .ok (.aload_n 0, 1) := by decide +kernel
theorem dX2_copyFrom_9 : decode μX2_copyFrom.2.1 9 = .ok (.aload_n 1, 1) := by decide +kernel
theorem dX2_copyFrom_10 : decode μX2_copyFrom.2.1 10 = .ok (.getfield 15, 3) := by decide +kernel
theorem dX2_copyFrom_13 : decode μX2_copyFrom.2.1 13 = .ok (.putfield 15, 3) := by decide +kernel
theorem dX2_copyFrom_16 : decode μX2_copyFrom.2.1 16 = .ok (.aload_n 0, 1) := by decide +kernel
theorem dX2_copyFrom_17 : decode μX2_copyFrom.2.1 17 = .ok (.aload_n 1, 1) := by decide +kernel
theorem dX2_copyFrom_18 : decode μX2_copyFrom.2.1 18 = .ok (.getfield 18, 3) := by decide +kernel
theorem dX2_copyFrom_21 : decode μX2_copyFrom.2.1 21 = .ok (.putfield 18, 3) := by decide +kernel
theorem dX2_copyFrom_24 : decode μX2_copyFrom.2.1 24 = .ok (.aload_n 0, 1) := by decide +kernel
theorem dX2_copyFrom_25 : decode μX2_copyFrom.2.1 25 = .ok (.aload_n 1, 1) := by decide +kernel
theorem dX2_copyFrom_26 : decode μX2_copyFrom.2.1 26 = .ok (.getfield 21, 3) := by decide +kernel
theorem dX2_copyFrom_29 : decode μX2_copyFrom.2.1 29 = .ok (.putfield 21, 3) := by decide +kernel
theorem dX2_copyFrom_32 : decode μX2_copyFrom.2.1 32 = .ok (.aload_n 0, 1) := by decide +kernel
theorem dX2_copyFrom_33 : decode μX2_copyFrom.2.1 33 = .ok (.aload_n 1, 1) := by decide +kernel
theorem dX2_copyFrom_34 : decode μX2_copyFrom.2.1 34 = .ok (.getfield 24, 3) := by decide +kernel
theorem dX2_copyFrom_37 : decode μX2_copyFrom.2.1 37 = .ok (.putfield 24, 3) := by decide +kernel
theorem dX2_copyFrom_40 : decode μX2_copyFrom.2.1 40 = .ok (.aload_n 1, 1) := by decide +kernel
theorem dX2_copyFrom_41 : decode μX2_copyFrom.2.1 41 = .ok (.getfield 31, 3) := by decide +kernel
theorem dX2_copyFrom_44 : decode μX2_copyFrom.2.1 44 = .ok (.iconst 0, 1) := by decide +kernel
theorem dX2_copyFrom_45 : decode μX2_copyFrom.2.1 45 = .ok (.aload_n 0, 1) := by decide +kernel
theorem dX2_copyFrom_46 : decode μX2_copyFrom.2.1 46 = .ok (.getfield 31, 3) := by decide +kernel
theorem dX2_copyFrom_49 : decode μX2_copyFrom.2.1 49 = .ok (.iconst 0, 1) := by decide +kernel
theorem dX2_copyFrom_50 : decode μX2_copyFrom.2.1 50 = .ok (.bipush 12, 2) := by decide +kernel
theorem dX2_copyFrom_52 : decode μX2_copyFrom.2.1 52 = .ok (.invokestatic 46, 3) := by decide +kernel
theorem dX2_copyFrom_55 : decode μX2_copyFrom.2.1 55 = .ok (.aload_n 1, 1) := by decide +kernel
theorem dX2_copyFrom_56 : decode μX2_copyFrom.2.1 56 = .ok (.getfield 27, 3) := by decide +kernel
theorem dX2_copyFrom_59 : decode μX2_copyFrom.2.1 59 = .ok (.iconst 0, 1) := by decide +kernel
theorem dX2_copyFrom_60 : decode μX2_copyFrom.2.1 60 = .ok (.aload_n 0, 1) := by decide +kernel
theorem dX2_copyFrom_61 : decode μX2_copyFrom.2.1 61 = .ok (.getfield 27, 3) := by decide +kernel
theorem dX2_copyFrom_64 : decode μX2_copyFrom.2.1 64 = .ok (.iconst 0, 1) := by decide +kernel
theorem dX2_copyFrom_65 : decode μX2_copyFrom.2.1 65 = .ok (.bipush 8, 2) := by decide +kernel
theorem dX2_copyFrom_67 : decode μX2_copyFrom.2.1 67 = .ok (.invokestatic 46, 3) := by decide +kernel
theorem dX2_copyFrom_70 : decode μX2_copyFrom.2.1 70 = .ok (.aload_n 1, 1) := by decide +kernel
theorem dX2_copyFrom_71 : decode μX2_copyFrom.2.1 71 = .ok (.getfield 34, 3) := by decide +kernel
theorem dX2_copyFrom_74 : decode μX2_copyFrom.2.1 74 = .ok (.iconst 0, 1) := by decide +kernel
theorem dX2_copyFrom_75 : decode μX2_copyFrom.2.1 75 = .ok (.aload_n 0, 1) := by decide +kernel
theorem dX2_copyFrom_76 : decode μX2_copyFrom.2.1 76 = .ok (.getfield 34, 3) := by decide +kernel
theorem dX2_copyFrom_79 : decode μX2_copyFrom.2.1 79 = .ok (.iconst 0, 1) := by decide +kernel
theorem dX2_copyFrom_80 : decode μX2_copyFrom.2.1 80 = .ok (.bipush 8, 2) := by decide +kernel
theorem dX2_copyFrom_82 : decode μX2_copyFrom.2.1 82 = .ok (.invokestatic 46, 3) := by decide +kernel
theorem dX2_copyFrom_85 : decode μX2_copyFrom.2.1 85 = .ok (.aload_n 1, 1) := by decide +kernel
theorem dX2_copyFrom_86 : decode μX2_copyFrom.2.1 86 = .ok (.getfield 37, 3) := by decide +kernel
theorem dX2_copyFrom_89 : decode μX2_copyFrom.2.1 89 = .ok (.iconst 0, 1) := by decide +kernel
theorem dX2_copyFrom_90 : decode μX2_copyFrom.2.1 90 = .ok (.aload_n 0, 1) := by decide +kernel
theorem dX2_copyFrom_91 : decode μX2_copyFrom.2.1 91 = .ok (.getfield 37, 3) := by decide +kernel
theorem dX2_copyFrom_94 : decode μX2_copyFrom.2.1 94 = .ok (.iconst 0, 1) := by decide +kernel
theorem dX2_copyFrom_95 : decode μX2_copyFrom.2.1 95 = .ok (.bipush 8, 2) := by decide +kernel
theorem dX2_copyFrom_97 : decode μX2_copyFrom.2.1 97 = .ok (.invokestatic 46, 3) := by decide +kernel
theorem dX2_copyFrom_100 : decode μX2_copyFrom.2.1 100 = .ok (.return_, 1) := by decide +kernel
set_option maxRecDepth 20000 in
theorem sg_X2_copyFrom_0 {d : Nat} {o : Nat} {o' : Nat} {M : Mem} {K : (Mem → Prop)} (ho : kd o = (0, 2)) (ho' : kd o' = (0, 2)) (h : (∀ M1, M1 = wi M o 0 (ri M o' 0) → (∀ M2, M2 = wi M1 o 1 (ri M1 o' 1) → (∀ M3, M3 = wi M2 o 2 (ri M2 o' 2) → (∀ M4, M4 = wi M3 o 3 (ri M3 o' 3) → (∀ M5, M5 = wi M4 o 4 (ri M4 o' 4) → ((¬ (0 : Int32) < 0 ∧ ¬ (0 : Int32) < 0 ∧ ¬ (12 : Int32) < 0 ∧ (nx 0) + (nx 12) ≤ 12 ∧ (nx 0) + (nx 12) ≤ 12) ∧ ∀ M6, M6 = cpi M5 (o' + 2) (nx 0) (o + 2) (nx 0) (nx 12) → ((¬ (0 : Int32) < 0 ∧ ¬ (0 : Int32) < 0 ∧ ¬ (8 : Int32) < 0 ∧ (nx 0) + (nx 8) ≤ 8 ∧ (nx 0) + (nx 8) ≤ 8) ∧ ∀ M7, M7 = cpi M6 (o' + 1) (nx 0) (o + 1) (nx 0) (nx 8) → ((¬ (0 : Int32) < 0 ∧ ¬ (0 : Int32) < 0 ∧ ¬ (8 : Int32) < 0 ∧ (nx 0) + (nx 8) ≤ 8 ∧ (nx 0) + (nx 8) ≤ 8) ∧ ∀ M8, M8 = cpi M7 (o' + 3) (nx 0) (o + 3) (nx 0) (nx 8) → ((¬ (0 : Int32) < 0 ∧ ¬ (0 : Int32) < 0 ∧ ¬ (8 : Int32) < 0 ∧ (nx 0) + (nx 8) ≤ 8 ∧ (nx 0) + (nx 8) ≤ 8) ∧ ∀ M9, M9 = cpi M8 (o' + 4) (nx 0) (o + 4) (nx 0) (nx 8) → K M9)))))))))) : CV (d + 1) μX2_copyFrom [.ref o, .ref o'] M K := by
  show Rn (d + 1) μX2_copyFrom 0 [(0, .ref o), (1, .ref o')] [] M _
  refine rn_aload_n (i := 0) (x := o) dX2_copyFrom_0 rfl (by simp) ?_
  refine rn_aload_n (i := 1) (x := o') dX2_copyFrom_1 rfl (by simp) ?_
  refine rn_geti dX2_copyFrom_2 ho' gf_X2_9 (by decide) ?_
  have h := h _ rfl
  refine rn_puti dX2_copyFrom_5 ho pf_X2_9 (by decide) rfl rfl ?_
  generalize wi M o 0 (ri M o' 0) = M1 at h ⊢
  refine rn_aload_n (i := 0) (x := o) dX2_copyFrom_8 rfl (by simp) ?_
  refine rn_aload_n (i := 1) (x := o') dX2_copyFrom_9 rfl (by simp) ?_
  refine rn_geti dX2_copyFrom_10 ho' gf_X2_15 (by decide) ?_
  have h := h _ rfl
  refine rn_puti dX2_copyFrom_13 ho pf_X2_15 (by decide) rfl rfl ?_
  generalize wi M1 o 1 (ri M1 o' 1) = M2 at h ⊢
  refine rn_aload_n (i := 0) (x := o) dX2_copyFrom_16 rfl (by simp) ?_
  refine rn_aload_n (i := 1) (x := o') dX2_copyFrom_17 rfl (by simp) ?_
  refine rn_geti dX2_copyFrom_18 ho' gf_X2_18 (by decide) ?_
  have h := h _ rfl
  refine rn_puti dX2_copyFrom_21 ho pf_X2_18 (by decide) rfl rfl ?_
  generalize wi M2 o 2 (ri M2 o' 2) = M3 at h ⊢
  refine rn_aload_n (i := 0) (x := o) dX2_copyFrom_24 rfl (by simp) ?_
  refine rn_aload_n (i := 1) (x := o') dX2_copyFrom_25 rfl (by simp) ?_
  refine rn_geti dX2_copyFrom_26 ho' gf_X2_21 (by decide) ?_
  have h := h _ rfl
  refine rn_puti dX2_copyFrom_29 ho pf_X2_21 (by decide) rfl rfl ?_
  generalize wi M3 o 3 (ri M3 o' 3) = M4 at h ⊢
  refine rn_aload_n (i := 0) (x := o) dX2_copyFrom_32 rfl (by simp) ?_
  refine rn_aload_n (i := 1) (x := o') dX2_copyFrom_33 rfl (by simp) ?_
  refine rn_geti dX2_copyFrom_34 ho' gf_X2_24 (by decide) ?_
  have h := h _ rfl
  refine rn_puti dX2_copyFrom_37 ho pf_X2_24 (by decide) rfl rfl ?_
  generalize wi M4 o 4 (ri M4 o' 4) = M5 at h ⊢
  refine rn_aload_n (i := 1) (x := o') dX2_copyFrom_40 rfl (by simp) ?_
  refine rn_getr (t := o' + 2) dX2_copyFrom_41 ho' gf_X2_31 rfl (froth_refs _ ho').2.1.1 ?_
  refine rn_iconst (v := 0) dX2_copyFrom_44 rfl ?_
  refine rn_aload_n (i := 0) (x := o) dX2_copyFrom_45 rfl (by simp) ?_
  refine rn_getr (t := o + 2) dX2_copyFrom_46 ho gf_X2_31 rfl (froth_refs _ ho).2.1.1 ?_
  refine rn_iconst (v := 0) dX2_copyFrom_49 rfl ?_
  refine rn_bipush (v := 12) dX2_copyFrom_50 rfl ?_
  obtain ⟨⟨q1, q2, q3, q4, q5⟩, h⟩ := h
  have h := h _ rfl
  refine rn_copy dX2_copyFrom_52 cp_X2_46 (froth_refs _ ho').2.1.2 (froth_refs _ ho).2.1.2 q1 q2 q3 q4 q5 (Nat.le_of_ble_eq_true rfl) ?_
  generalize cpi M5 (o' + 2) (nx 0) (o + 2) (nx 0) (nx 12) = M6 at h ⊢
  refine rn_aload_n (i := 1) (x := o') dX2_copyFrom_55 rfl (by simp) ?_
  refine rn_getr (t := o' + 1) dX2_copyFrom_56 ho' gf_X2_27 rfl (froth_refs _ ho').1.1 ?_
  refine rn_iconst (v := 0) dX2_copyFrom_59 rfl ?_
  refine rn_aload_n (i := 0) (x := o) dX2_copyFrom_60 rfl (by simp) ?_
  refine rn_getr (t := o + 1) dX2_copyFrom_61 ho gf_X2_27 rfl (froth_refs _ ho).1.1 ?_
  refine rn_iconst (v := 0) dX2_copyFrom_64 rfl ?_
  refine rn_bipush (v := 8) dX2_copyFrom_65 rfl ?_
  obtain ⟨⟨q1, q2, q3, q4, q5⟩, h⟩ := h
  have h := h _ rfl
  refine rn_copy dX2_copyFrom_67 cp_X2_46 (froth_refs _ ho').1.2 (froth_refs _ ho).1.2 q1 q2 q3 q4 q5 (Nat.le_of_ble_eq_true rfl) ?_
  generalize cpi M6 (o' + 1) (nx 0) (o + 1) (nx 0) (nx 8) = M7 at h ⊢
  refine rn_aload_n (i := 1) (x := o') dX2_copyFrom_70 rfl (by simp) ?_
  refine rn_getr (t := o' + 3) dX2_copyFrom_71 ho' gf_X2_34 rfl (froth_refs _ ho').2.2.1.1 ?_
  refine rn_iconst (v := 0) dX2_copyFrom_74 rfl ?_
  refine rn_aload_n (i := 0) (x := o) dX2_copyFrom_75 rfl (by simp) ?_
  refine rn_getr (t := o + 3) dX2_copyFrom_76 ho gf_X2_34 rfl (froth_refs _ ho).2.2.1.1 ?_
  refine rn_iconst (v := 0) dX2_copyFrom_79 rfl ?_
  refine rn_bipush (v := 8) dX2_copyFrom_80 rfl ?_
  obtain ⟨⟨q1, q2, q3, q4, q5⟩, h⟩ := h
  have h := h _ rfl
  refine rn_copy dX2_copyFrom_82 cp_X2_46 (froth_refs _ ho').2.2.1.2 (froth_refs _ ho).2.2.1.2 q1 q2 q3 q4 q5 (Nat.le_of_ble_eq_true rfl) ?_
  generalize cpi M7 (o' + 3) (nx 0) (o + 3) (nx 0) (nx 8) = M8 at h ⊢
  refine rn_aload_n (i := 1) (x := o') dX2_copyFrom_85 rfl (by simp) ?_
  refine rn_getr (t := o' + 4) dX2_copyFrom_86 ho' gf_X2_37 rfl (froth_refs _ ho').2.2.2.1.1 ?_
  refine rn_iconst (v := 0) dX2_copyFrom_89 rfl ?_
  refine rn_aload_n (i := 0) (x := o) dX2_copyFrom_90 rfl (by simp) ?_
  refine rn_getr (t := o + 4) dX2_copyFrom_91 ho gf_X2_37 rfl (froth_refs _ ho).2.2.2.1.1 ?_
  refine rn_iconst (v := 0) dX2_copyFrom_94 rfl ?_
  refine rn_bipush (v := 8) dX2_copyFrom_95 rfl ?_
  obtain ⟨⟨q1, q2, q3, q4, q5⟩, h⟩ := h
  have h := h _ rfl
  refine rn_copy dX2_copyFrom_97 cp_X2_46 (froth_refs _ ho').2.2.2.1.2 (froth_refs _ ho).2.2.2.1.2 q1 q2 q3 q4 q5 (Nat.le_of_ble_eq_true rfl) ?_
  generalize cpi M8 (o' + 4) (nx 0) (o + 4) (nx 0) (nx 8) = M9 at h ⊢
  exact rn_ret dX2_copyFrom_100 rfl ⟨rfl, h⟩
theorem dX2_writeTo_0 : decode μX2_writeTo.2.1 0 = .ok (.iload_n 2, 1) := by decide +kernel
theorem dX2_writeTo_1 : decode μX2_writeTo.2.1 1 = .ok (.ifCond .lt 12, 3) := by decide +kernel
theorem dX2_writeTo_4 : decode μX2_writeTo.2.1 4 = .ok (.iload_n 2, 1) := by decide +kernel
theorem dX2_writeTo_5 : decode μX2_writeTo.2.1 5 = .ok (.bipush 24, 2) := by decide +kernel
theorem dX2_writeTo_7 : decode μX2_writeTo.2.1 7 = .ok (.iadd, 1) := by decide +kernel
theorem dX2_writeTo_8 : decode μX2_writeTo.2.1 8 = .ok (.aload_n 1, 1) := by decide +kernel
theorem dX2_writeTo_9 : decode μX2_writeTo.2.1 9 = .ok (.arraylength, 1) := by decide +kernel
theorem dX2_writeTo_10 : decode μX2_writeTo.2.1 10 = .ok (.if_icmp .le 4, 3) := by decide +kernel
theorem dX2_writeTo_13 : decode μX2_writeTo.2.1 13 = .ok (.return_, 1) := by decide +kernel
theorem dX2_writeTo_14 : decode μX2_writeTo.2.1 14 = .ok (.aload_n 1, 1) := by decide +kernel
theorem dX2_writeTo_15 : decode μX2_writeTo.2.1 15 = .ok (.iload_n 2, 1) := by decide +kernel
theorem dX2_writeTo_16 : decode μX2_writeTo.2.1 16 = .ok (.aload_n 0, 1) := by decide +kernel
theorem dX2_writeTo_17 : decode μX2_writeTo.2.1 17 = .ok (.getfield 15, 3) := by decide +kernel
theorem dX2_writeTo_20 : decode μX2_writeTo.2.1 20 = .ok (.iastore, 1) := by decide +kernel
theorem dX2_writeTo_21 : decode μX2_writeTo.2.1 21 = .ok (.aload_n 1, 1) := by decide +kernel
theorem dX2_writeTo_22 : decode μX2_writeTo.2.1 22 = .ok (.iload_n 2, 1) := by decide +kernel
theorem dX2_writeTo_23 : decode μX2_writeTo.2.1 23 = .ok (.iconst 1, 1) := by decide +kernel
theorem dX2_writeTo_24 : decode μX2_writeTo.2.1 24 = .ok (.iadd, 1) := by decide +kernel
theorem dX2_writeTo_25 : decode μX2_writeTo.2.1 25 = .ok (.aload_n 0, 1) := by decide +kernel
theorem dX2_writeTo_26 : decode μX2_writeTo.2.1 26 = .ok (.getfield 18, 3) := by decide +kernel
theorem dX2_writeTo_29 : decode μX2_writeTo.2.1 29 = .ok (.iastore, 1) := by decide +kernel
theorem dX2_writeTo_30 : decode μX2_writeTo.2.1 30 = .ok (.aload_n 1, 1) := by decide +kernel
theorem dX2_writeTo_31 : decode μX2_writeTo.2.1 31 = .ok (.iload_n 2, 1) := by decide +kernel
theorem dX2_writeTo_32 : decode μX2_writeTo.2.1 32 = .ok (.iconst 2, 1) := by decide +kernel
theorem dX2_writeTo_33 : decode μX2_writeTo.2.1 33 = .ok (.iadd, 1) := by decide +kernel
theorem dX2_writeTo_34 : decode μX2_writeTo.2.1 34 = .ok (.aload_n 0, 1) := by decide +kernel
theorem dX2_writeTo_35 : decode μX2_writeTo.2.1 35 = .ok (.getfield 21, 3) := by decide +kernel
theorem dX2_writeTo_38 : decode μX2_writeTo.2.1 38 = .ok (.iastore, 1) := by decide +kernel
theorem dX2_writeTo_39 : decode μX2_writeTo.2.1 39 = .ok (.aload_n 1, 1) := by decide +kernel
theorem dX2_writeTo_40 : decode μX2_writeTo.2.1 40 = .ok (.iload_n 2, 1) := by decide +kernel
theorem dX2_writeTo_41 : decode μX2_writeTo.2.1 41 = .ok (.iconst 3, 1) := by decide +kernel
theorem dX2_writeTo_42 : decode μX2_writeTo.2.1 42 = .ok (.iadd, 1) := by decide +kernel
theorem dX2_writeTo_43 : decode μX2_writeTo.2.1 43 = .ok (.aload_n 0, 1) := by decide +kernel
theorem dX2_writeTo_44 : decode μX2_writeTo.2.1 44 = .ok (.getfield 24, 3) := by decide +kernel
theorem dX2_writeTo_47 : decode μX2_writeTo.2.1 47 = .ok (.iastore, 1) := by decide +kernel
theorem dX2_writeTo_48 : decode μX2_writeTo.2.1 48 = .ok (.aload_n 0, 1) := by decide +kernel
theorem dX2_writeTo_49 : decode μX2_writeTo.2.1 49 = .ok (.getfield 27, 3) := by decide +kernel
theorem dX2_writeTo_52 : decode μX2_writeTo.2.1 52 = .ok (.iconst 0, 1) := by decide +kernel
theorem dX2_writeTo_53 : decode μX2_writeTo.2.1 53 = .ok (.aload_n 1, 1) := by decide +kernel
theorem dX2_writeTo_54 : decode μX2_writeTo.2.1 54 = .ok (.iload_n 2, 1) := by decide +kernel
theorem dX2_writeTo_55 : decode μX2_writeTo.2.1 55 = .ok (.iconst 4, 1) := by decide +kernel
theorem dX2_writeTo_56 : decode μX2_writeTo.2.1 56 = .ok (.iadd, 1) := by decide +kernel
theorem dX2_writeTo_57 : decode μX2_writeTo.2.1 57 = .ok (.bipush 8, 2) := by decide +kernel
theorem dX2_writeTo_59 : decode μX2_writeTo.2.1 59 = .ok (.invokestatic 46, 3) := by decide +kernel
theorem dX2_writeTo_62 : decode μX2_writeTo.2.1 62 = .ok (.aload_n 0, 1) := by decide +kernel
theorem dX2_writeTo_63 : decode μX2_writeTo.2.1 63 = .ok (.getfield 31, 3) := by decide +kernel
theorem dX2_writeTo_66 : decode μX2_writeTo.2.1 66 = .ok (.iconst 0, 1) := by decide +kernel
theorem dX2_writeTo_67 : decode μX2_writeTo.2.1 67 = .ok (.aload_n 1, 1) := by decide +kernel
theorem dX2_writeTo_68 : decode μX2_writeTo.2.1 68 = .ok (.iload_n 2, 1) := by decide +kernel
theorem dX2_writeTo_69 : decode μX2_writeTo.2.1 69 = .ok (.iconst 4, 1) := by decide +kernel
theorem dX2_writeTo_70 : decode μX2_writeTo.2.1 70 = .ok (.iadd, 1) := by decide +kernel
theorem dX2_writeTo_71 : decode μX2_writeTo.2.1 71 = .ok (.bipush 8, 2) := by decide +kernel
theorem dX2_writeTo_73 : decode μX2_writeTo.2.1 73 = .ok (.iadd, 1) := by decide +kernel
theorem dX2_writeTo_74 : decode μX2_writeTo.2.1 74 = .ok (.bipush 12, 2) := by decide +kernel
theorem dX2_writeTo_76 : decode μX2_writeTo.2.1 76 = .ok (.invokestatic 46, 3) := by decide +kernel
theorem dX2_writeTo_79 : decode μX2_writeTo.2.1 79 = .ok (.return_, 1) := by decide +kernel
set_option maxRecDepth 20000 in
theorem sg_X2_writeTo_0 {d : Nat} {o : Nat} {w nw : Nat} {x2 : Int32} {M : Mem} {K : (Mem → Prop)} (ho : kd o = (0, 2)) (hw : kd w = (1, nw)) (h : (if x2 < 0 then K M else (if x2 + 24 ≤ Int32.ofNat nw then (vp_in x2 nw ∧ ∀ M1, M1 = wi M w (nx x2) (ri M o 1) → (vp_in (x2 + 1) nw ∧ ∀ M2, M2 = wi M1 w (nx (x2 + 1)) (ri M1 o 2) → (vp_in (x2 + 2) nw ∧ ∀ M3, M3 = wi M2 w (nx (x2 + 2)) (ri M2 o 3) → (vp_in (x2 + 3) nw ∧ ∀ M4, M4 = wi M3 w (nx (x2 + 3)) (ri M3 o 4) → ((¬ (0 : Int32) < 0 ∧ ¬ (x2 + 4 : Int32) < 0 ∧ ¬ (8 : Int32) < 0 ∧ (nx 0) + (nx 8) ≤ 8 ∧ (nx (x2 + 4)) + (nx 8) ≤ nw) ∧ ∀ M5, M5 = cpi M4 (o + 1) (nx 0) w (nx (x2 + 4)) (nx 8) → ((¬ (0 : Int32) < 0 ∧ ¬ ((x2 + 4) + 8 : Int32) < 0 ∧ ¬ (12 : Int32) < 0 ∧ (nx 0) + (nx 12) ≤ 12 ∧ (nx ((x2 + 4) + 8)) + (nx 12) ≤ nw) ∧ ∀ M6, M6 = cpi M5 (o + 2) (nx 0) w (nx ((x2 + 4) + 8)) (nx 12) → K M6)))))) else K M))) : CV (d + 1) μX2_writeTo [.ref o, .ref w, .int x2] M K := by
  show Rn (d + 1) μX2_writeTo 0 [(0, .ref o), (1, .ref w), (2, .int x2)] [] M _
  refine rn_iload_n (i := 2) (x := x2) dX2_writeTo_0 rfl (by simp) ?_
  refine rn_if_lt (tgt := 13) dX2_writeTo_1 (by decide) (ite_go h (fun hc h => ?_) (fun hc h => ?_))
  · exact rn_ret dX2_writeTo_13 rfl ⟨rfl, h⟩
  · refine rn_iload_n (i := 2) (x := x2) dX2_writeTo_4 rfl (by simp) ?_
    refine rn_bipush (v := 24) dX2_writeTo_5 rfl ?_
    refine rn_iadd dX2_writeTo_7 ?_
    refine rn_aload_n (i := 1) (x := w) dX2_writeTo_8 rfl (by simp) ?_
    refine rn_alen_i (v := Int32.ofNat nw) dX2_writeTo_9 hw rfl ?_
    refine rn_icmp_le (tgt := 14) dX2_writeTo_10 (by decide) (ite_go h (fun hc h => ?_) (fun hc h => ?_))
    · refine rn_aload_n (i := 1) (x := w) dX2_writeTo_14 rfl (by simp) ?_
      refine rn_iload_n (i := 2) (x := x2) dX2_writeTo_15 rfl (by simp) ?_
      refine rn_aload_n (i := 0) (x := o) dX2_writeTo_16 rfl (by simp) ?_
      refine rn_geti dX2_writeTo_17 ho gf_X2_15 (by decide) ?_
      obtain ⟨hi, h⟩ := h
      have h := h _ rfl
      refine rn_iastore dX2_writeTo_20 hw hi ?_
      generalize wi M w (nx x2) (ri M o 1) = M1 at h ⊢
      refine rn_aload_n (i := 1) (x := w) dX2_writeTo_21 rfl (by simp) ?_
      refine rn_iload_n (i := 2) (x := x2) dX2_writeTo_22 rfl (by simp) ?_
      refine rn_iconst (v := 1) dX2_writeTo_23 rfl ?_
      refine rn_iadd dX2_writeTo_24 ?_
      refine rn_aload_n (i := 0) (x := o) dX2_writeTo_25 rfl (by simp) ?_
      refine rn_geti dX2_writeTo_26 ho gf_X2_18 (by decide) ?_
      obtain ⟨hi, h⟩ := h
      have h := h _ rfl
      refine rn_iastore dX2_writeTo_29 hw hi ?_
      generalize wi M1 w (nx (x2 + 1)) (ri M1 o 2) = M2 at h ⊢
      refine rn_aload_n (i := 1) (x := w) dX2_writeTo_30 rfl (by simp) ?_
      refine rn_iload_n (i := 2) (x := x2) dX2_writeTo_31 rfl (by simp) ?_
      refine rn_iconst (v := 2) dX2_writeTo_32 rfl ?_
      refine rn_iadd dX2_writeTo_33 ?_
      refine rn_aload_n (i := 0) (x := o) dX2_writeTo_34 rfl (by simp) ?_
      refine rn_geti dX2_writeTo_35 ho gf_X2_21 (by decide) ?_
      obtain ⟨hi, h⟩ := h
      have h := h _ rfl
      refine rn_iastore dX2_writeTo_38 hw hi ?_
      generalize wi M2 w (nx (x2 + 2)) (ri M2 o 3) = M3 at h ⊢
      refine rn_aload_n (i := 1) (x := w) dX2_writeTo_39 rfl (by simp) ?_
      refine rn_iload_n (i := 2) (x := x2) dX2_writeTo_40 rfl (by simp) ?_
      refine rn_iconst (v := 3) dX2_writeTo_41 rfl ?_
      refine rn_iadd dX2_writeTo_42 ?_
      refine rn_aload_n (i := 0) (x := o) dX2_writeTo_43 rfl (by simp) ?_
      refine rn_geti dX2_writeTo_44 ho gf_X2_24 (by decide) ?_
      obtain ⟨hi, h⟩ := h
      have h := h _ rfl
      refine rn_iastore dX2_writeTo_47 hw hi ?_
      generalize wi M3 w (nx (x2 + 3)) (ri M3 o 4) = M4 at h ⊢
      refine rn_aload_n (i := 0) (x := o) dX2_writeTo_48 rfl (by simp) ?_
      refine rn_getr (t := o + 1) dX2_writeTo_49 ho gf_X2_27 rfl (froth_refs _ ho).1.1 ?_
      refine rn_iconst (v := 0) dX2_writeTo_52 rfl ?_
      refine rn_aload_n (i := 1) (x := w) dX2_writeTo_53 rfl (by simp) ?_
      refine rn_iload_n (i := 2) (x := x2) dX2_writeTo_54 rfl (by simp) ?_
      refine rn_iconst (v := 4) dX2_writeTo_55 rfl ?_
      refine rn_iadd dX2_writeTo_56 ?_
      refine rn_bipush (v := 8) dX2_writeTo_57 rfl ?_
      obtain ⟨⟨q1, q2, q3, q4, q5⟩, h⟩ := h
      have h := h _ rfl
      refine rn_copy dX2_writeTo_59 cp_X2_46 (froth_refs _ ho).1.2 hw q1 q2 q3 q4 q5 (Nat.le_of_ble_eq_true rfl) ?_
      generalize cpi M4 (o + 1) (nx 0) w (nx (x2 + 4)) (nx 8) = M5 at h ⊢
      refine rn_aload_n (i := 0) (x := o) dX2_writeTo_62 rfl (by simp) ?_
      refine rn_getr (t := o + 2) dX2_writeTo_63 ho gf_X2_31 rfl (froth_refs _ ho).2.1.1 ?_
      refine rn_iconst (v := 0) dX2_writeTo_66 rfl ?_
      refine rn_aload_n (i := 1) (x := w) dX2_writeTo_67 rfl (by simp) ?_
      refine rn_iload_n (i := 2) (x := x2) dX2_writeTo_68 rfl (by simp) ?_
      refine rn_iconst (v := 4) dX2_writeTo_69 rfl ?_
      refine rn_iadd dX2_writeTo_70 ?_
      refine rn_bipush (v := 8) dX2_writeTo_71 rfl ?_
      refine rn_iadd dX2_writeTo_73 ?_
      refine rn_bipush (v := 12) dX2_writeTo_74 rfl ?_
      obtain ⟨⟨q1, q2, q3, q4, q5⟩, h⟩ := h
      have h := h _ rfl
      refine rn_copy dX2_writeTo_76 cp_X2_46 (froth_refs _ ho).2.1.2 hw q1 q2 q3 q4 q5 (Nat.le_of_ble_eq_true rfl) ?_
      generalize cpi M5 (o + 2) (nx 0) w (nx ((x2 + 4) + 8)) (nx 12) = M6 at h ⊢
      exact rn_ret dX2_writeTo_79 rfl ⟨rfl, h⟩
    · exact rn_ret dX2_writeTo_13 rfl ⟨rfl, h⟩
theorem dX2_readFrom_0 : decode μX2_readFrom.2.1 0 = .ok (.iload_n 2, 1) := by decide +kernel
theorem dX2_readFrom_1 : decode μX2_readFrom.2.1 1 = .ok (.ifCond .lt 12, 3) := by decide +kernel
theorem dX2_readFrom_4 : decode μX2_readFrom.2.1 4 = .ok (.iload_n 2, 1) := by decide +kernel
theorem dX2_readFrom_5 : decode μX2_readFrom.2.1 5 = .ok (.bipush 24, 2) := by decide +kernel
theorem dX2_readFrom_7 : decode μX2_readFrom.2.1 7 = .ok (.iadd, 1) := by decide +kernel
theorem dX2_readFrom_8 : decode μX2_readFrom.2.1 8 = .ok (.aload_n 1, 1) := by decide +kernel
theorem dX2_readFrom_9 : decode μX2_readFrom.2.1 9 = .ok (.arraylength, 1) := by decide +kernel
theorem dX2_readFrom_10 : decode μX2_readFrom.2.1 10 = .ok (.if_icmp .le 4, 3) := by decide +kernel
theorem dX2_readFrom_13 : decode μX2_readFrom.2.1 13 = .ok (.return_, 1) := by decide +kernel
theorem dX2_readFrom_14 : decode μX2_readFrom.2.1 14 = .ok (.aload_n 0, 1) := by decide +kernel
theorem dX2_readFrom_15 : decode μX2_readFrom.2.1 15 = .ok (.aload_n 1, 1) := by decide +kernel
theorem dX2_readFrom_16 : decode μX2_readFrom.2.1 16 = .ok (.iload_n 2, 1) := by decide +kernel
theorem dX2_readFrom_17 : decode μX2_readFrom.2.1 17 = .ok (.iaload, 1) := by decide +kernel
theorem dX2_readFrom_18 : decode μX2_readFrom.2.1 18 = .ok (.putfield 15, 3) := by decide +kernel
theorem dX2_readFrom_21 : decode μX2_readFrom.2.1 21 = .ok (.aload_n 0, 1) := by decide +kernel
theorem dX2_readFrom_22 : decode μX2_readFrom.2.1 22 = .ok (.aload_n 1, 1) := by decide +kernel
theorem dX2_readFrom_23 : decode μX2_readFrom.2.1 23 = .ok (.iload_n 2, 1) := by decide +kernel
theorem dX2_readFrom_24 : decode μX2_readFrom.2.1 24 = .ok (.iconst 1, 1) := by decide +kernel
theorem dX2_readFrom_25 : decode μX2_readFrom.2.1 25 = .ok (.iadd, 1) := by decide +kernel
theorem dX2_readFrom_26 : decode μX2_readFrom.2.1 26 = .ok (.iaload, 1) := by decide +kernel
theorem dX2_readFrom_27 : decode μX2_readFrom.2.1 27 = .ok (.putfield 18, 3) := by decide +kernel
theorem dX2_readFrom_30 : decode μX2_readFrom.2.1 30 = .ok (.aload_n 0, 1) := by decide +kernel
theorem dX2_readFrom_31 : decode μX2_readFrom.2.1 31 = .ok (.aload_n 1, 1) := by decide +kernel
theorem dX2_readFrom_32 : decode μX2_readFrom.2.1 32 = .ok (.iload_n 2, 1) := by decide +kernel
theorem dX2_readFrom_33 : decode μX2_readFrom.2.1 33 = .ok (.iconst 2, 1) := by decide +kernel
theorem dX2_readFrom_34 : decode μX2_readFrom.2.1 34 = .ok (.iadd, 1) := by decide +kernel
theorem dX2_readFrom_35 : decode μX2_readFrom.2.1 35 = .ok (.iaload, 1) := by decide +kernel
theorem dX2_readFrom_36 : decode μX2_readFrom.2.1 36 = .ok (.putfield 21, 3) := by decide +kernel
theorem dX2_readFrom_39 : decode μX2_readFrom.2.1 39 = .ok (.aload_n 0, 1) := by decide +kernel
theorem dX2_readFrom_40 : decode μX2_readFrom.2.1 40 = .ok (.aload_n 1, 1) := by decide +kernel
theorem dX2_readFrom_41 : decode μX2_readFrom.2.1 41 = .ok (.iload_n 2, 1) := by decide +kernel
theorem dX2_readFrom_42 : decode μX2_readFrom.2.1 42 = .ok (.iconst 3, 1) := by decide +kernel
theorem dX2_readFrom_43 : decode μX2_readFrom.2.1 43 = .ok (.iadd, 1) := by decide +kernel
theorem dX2_readFrom_44 : decode μX2_readFrom.2.1 44 = .ok (.iaload, 1) := by decide +kernel
theorem dX2_readFrom_45 : decode μX2_readFrom.2.1 45 = .ok (.putfield 24, 3) := by decide +kernel
theorem dX2_readFrom_48 : decode μX2_readFrom.2.1 48 = .ok (.aload_n 1, 1) := by decide +kernel
theorem dX2_readFrom_49 : decode μX2_readFrom.2.1 49 = .ok (.iload_n 2, 1) := by decide +kernel
theorem dX2_readFrom_50 : decode μX2_readFrom.2.1 50 = .ok (.iconst 4, 1) := by decide +kernel
theorem dX2_readFrom_51 : decode μX2_readFrom.2.1 51 = .ok (.iadd, 1) := by decide +kernel
theorem dX2_readFrom_52 : decode μX2_readFrom.2.1 52 = .ok (.aload_n 0, 1) := by decide +kernel
theorem dX2_readFrom_53 : decode μX2_readFrom.2.1 53 = .ok (.getfield 27, 3) := by decide +kernel
theorem dX2_readFrom_56 : decode μX2_readFrom.2.1 56 = .ok (.iconst 0, 1) := by decide +kernel
theorem dX2_readFrom_57 : decode μX2_readFrom.2.1 57 = .ok (.bipush 8, 2) := by decide +kernel
theorem dX2_readFrom_59 : decode μX2_readFrom.2.1 59 = .ok (.invokestatic 46, 3) := by decide +kernel
theorem dX2_readFrom_62 : decode μX2_readFrom.2.1 62 = .ok (.aload_n 1, 1) := by decide +kernel
theorem dX2_readFrom_63 : decode μX2_readFrom.2.1 63 = .ok (.iload_n 2, 1) := by decide +kernel
theorem dX2_readFrom_64 : decode μX2_readFrom.2.1 64 = .ok (.iconst 4, 1) := by decide +kernel
theorem dX2_readFrom_65 : decode μX2_readFrom.2.1 65 = .ok (.iadd, 1) := by decide +kernel
theorem dX2_readFrom_66 : decode μX2_readFrom.2.1 66 = .ok (.bipush 8, 2) := by decide +kernel
theorem dX2_readFrom_68 : decode μX2_readFrom.2.1 68 = .ok (.iadd, 1) := by decide +kernel
theorem dX2_readFrom_69 : decode μX2_readFrom.2.1 69 = .ok (.aload_n 0, 1) := by decide +kernel
theorem dX2_readFrom_70 : decode μX2_readFrom.2.1 70 = .ok (.getfield 31, 3) := by decide +kernel
theorem dX2_readFrom_73 : decode μX2_readFrom.2.1 73 = .ok (.iconst 0, 1) := by decide +kernel
theorem dX2_readFrom_74 : decode μX2_readFrom.2.1 74 = .ok (.bipush 12, 2) := by decide +kernel
theorem dX2_readFrom_76 : decode μX2_readFrom.2.1 76 = .ok (.invokestatic 46, 3) := by decide +kernel
theorem dX2_readFrom_79 : decode μX2_readFrom.2.1 79 = .ok (.aload_n 0, 1) := by decide +kernel
theorem dX2_readFrom_80 : decode μX2_readFrom.2.1 80 = .ok (.invokevirtual 43, 3) := by decide +kernel
theorem dX2_readFrom_83 : decode μX2_readFrom.2.1 83 = .ok (.return_, 1) := by decide +kernel
set_option maxRecDepth 20000 in
theorem sg_X2_readFrom_0 {d : Nat} {o : Nat} {w nw : Nat} {x2 : Int32} {M : Mem} {K : (Mem → Prop)} (ho : kd o = (0, 2)) (hw : kd w = (1, nw)) (h : (if x2 < 0 then K M else (if x2 + 24 ≤ Int32.ofNat nw then (vp_in x2 nw ∧ (∀ M1, M1 = wi M o 1 (ri M w (nx x2)) → (vp_in (x2 + 1) nw ∧ (∀ M2, M2 = wi M1 o 2 (ri M1 w (nx (x2 + 1))) → (vp_in (x2 + 2) nw ∧ (∀ M3, M3 = wi M2 o 3 (ri M2 w (nx (x2 + 2))) → (vp_in (x2 + 3) nw ∧ (∀ M4, M4 = wi M3 o 4 (ri M3 w (nx (x2 + 3))) → ((¬ (x2 + 4 : Int32) < 0 ∧ ¬ (0 : Int32) < 0 ∧ ¬ (8 : Int32) < 0 ∧ (nx (x2 + 4)) + (nx 8) ≤ nw ∧ (nx 0) + (nx 8) ≤ 8) ∧ ∀ M5, M5 = cpi M4 w (nx (x2 + 4)) (o + 1) (nx 0) (nx 8) → ((¬ ((x2 + 4) + 8 : Int32) < 0 ∧ ¬ (0 : Int32) < 0 ∧ ¬ (12 : Int32) < 0 ∧ (nx ((x2 + 4) + 8)) + (nx 12) ≤ nw ∧ (nx 0) + (nx 12) ≤ 12) ∧ ∀ M6, M6 = cpi M5 w (nx ((x2 + 4) + 8)) (o + 2) (nx 0) (nx 12) → (CV d μX2_settle [.ref o] M6 (fun M7 => K M7)))))))))))) else K M))) : CV (d + 1) μX2_readFrom [.ref o, .ref w, .int x2] M K := by
  show Rn (d + 1) μX2_readFrom 0 [(0, .ref o), (1, .ref w), (2, .int x2)] [] M _
  refine rn_iload_n (i := 2) (x := x2) dX2_readFrom_0 rfl (by simp) ?_
  refine rn_if_lt (tgt := 13) dX2_readFrom_1 (by decide) (ite_go h (fun hc h => ?_) (fun hc h => ?_))
  · exact rn_ret dX2_readFrom_13 rfl ⟨rfl, h⟩
  · refine rn_iload_n (i := 2) (x := x2) dX2_readFrom_4 rfl (by simp) ?_
    refine rn_bipush (v := 24) dX2_readFrom_5 rfl ?_
    refine rn_iadd dX2_readFrom_7 ?_
    refine rn_aload_n (i := 1) (x := w) dX2_readFrom_8 rfl (by simp) ?_
    refine rn_alen_i (v := Int32.ofNat nw) dX2_readFrom_9 hw rfl ?_
    refine rn_icmp_le (tgt := 14) dX2_readFrom_10 (by decide) (ite_go h (fun hc h => ?_) (fun hc h => ?_))
    · refine rn_aload_n (i := 0) (x := o) dX2_readFrom_14 rfl (by simp) ?_
      refine rn_aload_n (i := 1) (x := w) dX2_readFrom_15 rfl (by simp) ?_
      refine rn_iload_n (i := 2) (x := x2) dX2_readFrom_16 rfl (by simp) ?_
      obtain ⟨hi, h⟩ := h
      refine rn_iaload dX2_readFrom_17 hw hi ?_
      have h := h _ rfl
      refine rn_puti dX2_readFrom_18 ho pf_X2_15 (by decide) rfl rfl ?_
      generalize wi M o 1 (ri M w (nx x2)) = M1 at h ⊢
      refine rn_aload_n (i := 0) (x := o) dX2_readFrom_21 rfl (by simp) ?_
      refine rn_aload_n (i := 1) (x := w) dX2_readFrom_22 rfl (by simp) ?_
      refine rn_iload_n (i := 2) (x := x2) dX2_readFrom_23 rfl (by simp) ?_
      refine rn_iconst (v := 1) dX2_readFrom_24 rfl ?_
      refine rn_iadd dX2_readFrom_25 ?_
      obtain ⟨hi, h⟩ := h
      refine rn_iaload dX2_readFrom_26 hw hi ?_
      have h := h _ rfl
      refine rn_puti dX2_readFrom_27 ho pf_X2_18 (by decide) rfl rfl ?_
      generalize wi M1 o 2 (ri M1 w (nx (x2 + 1))) = M2 at h ⊢
      refine rn_aload_n (i := 0) (x := o) dX2_readFrom_30 rfl (by simp) ?_
      refine rn_aload_n (i := 1) (x := w) dX2_readFrom_31 rfl (by simp) ?_
      refine rn_iload_n (i := 2) (x := x2) dX2_readFrom_32 rfl (by simp) ?_
      refine rn_iconst (v := 2) dX2_readFrom_33 rfl ?_
      refine rn_iadd dX2_readFrom_34 ?_
      obtain ⟨hi, h⟩ := h
      refine rn_iaload dX2_readFrom_35 hw hi ?_
      have h := h _ rfl
      refine rn_puti dX2_readFrom_36 ho pf_X2_21 (by decide) rfl rfl ?_
      generalize wi M2 o 3 (ri M2 w (nx (x2 + 2))) = M3 at h ⊢
      refine rn_aload_n (i := 0) (x := o) dX2_readFrom_39 rfl (by simp) ?_
      refine rn_aload_n (i := 1) (x := w) dX2_readFrom_40 rfl (by simp) ?_
      refine rn_iload_n (i := 2) (x := x2) dX2_readFrom_41 rfl (by simp) ?_
      refine rn_iconst (v := 3) dX2_readFrom_42 rfl ?_
      refine rn_iadd dX2_readFrom_43 ?_
      obtain ⟨hi, h⟩ := h
      refine rn_iaload dX2_readFrom_44 hw hi ?_
      have h := h _ rfl
      refine rn_puti dX2_readFrom_45 ho pf_X2_24 (by decide) rfl rfl ?_
      generalize wi M3 o 4 (ri M3 w (nx (x2 + 3))) = M4 at h ⊢
      refine rn_aload_n (i := 1) (x := w) dX2_readFrom_48 rfl (by simp) ?_
      refine rn_iload_n (i := 2) (x := x2) dX2_readFrom_49 rfl (by simp) ?_
      refine rn_iconst (v := 4) dX2_readFrom_50 rfl ?_
      refine rn_iadd dX2_readFrom_51 ?_
      refine rn_aload_n (i := 0) (x := o) dX2_readFrom_52 rfl (by simp) ?_
      refine rn_getr (t := o + 1) dX2_readFrom_53 ho gf_X2_27 rfl (froth_refs _ ho).1.1 ?_
      refine rn_iconst (v := 0) dX2_readFrom_56 rfl ?_
      refine rn_bipush (v := 8) dX2_readFrom_57 rfl ?_
      obtain ⟨⟨q1, q2, q3, q4, q5⟩, h⟩ := h
      have h := h _ rfl
      refine rn_copy dX2_readFrom_59 cp_X2_46 hw (froth_refs _ ho).1.2 q1 q2 q3 q4 q5 (Nat.le_of_ble_eq_true rfl) ?_
      generalize cpi M4 w (nx (x2 + 4)) (o + 1) (nx 0) (nx 8) = M5 at h ⊢
      refine rn_aload_n (i := 1) (x := w) dX2_readFrom_62 rfl (by simp) ?_
      refine rn_iload_n (i := 2) (x := x2) dX2_readFrom_63 rfl (by simp) ?_
      refine rn_iconst (v := 4) dX2_readFrom_64 rfl ?_
      refine rn_iadd dX2_readFrom_65 ?_
      refine rn_bipush (v := 8) dX2_readFrom_66 rfl ?_
      refine rn_iadd dX2_readFrom_68 ?_
      refine rn_aload_n (i := 0) (x := o) dX2_readFrom_69 rfl (by simp) ?_
      refine rn_getr (t := o + 2) dX2_readFrom_70 ho gf_X2_31 rfl (froth_refs _ ho).2.1.1 ?_
      refine rn_iconst (v := 0) dX2_readFrom_73 rfl ?_
      refine rn_bipush (v := 12) dX2_readFrom_74 rfl ?_
      obtain ⟨⟨q1, q2, q3, q4, q5⟩, h⟩ := h
      have h := h _ rfl
      refine rn_copy dX2_readFrom_76 cp_X2_46 hw (froth_refs _ ho).2.1.2 q1 q2 q3 q4 q5 (Nat.le_of_ble_eq_true rfl) ?_
      generalize cpi M5 w (nx ((x2 + 4) + 8)) (o + 2) (nx 0) (nx 12) = M6 at h ⊢
      refine rn_aload_n (i := 0) (x := o) dX2_readFrom_79 rfl (by simp) ?_
      refine rn_callVv (as := []) (st := []) dX2_readFrom_80 mf_X2_settle lk_X2_43 im_X2_settle ho rfl rfl rfl (Nat.le_of_ble_eq_true rfl) (Nat.le_of_ble_eq_true rfl) rfl (RV.mono h (fun M7 h => ?_))
      exact rn_ret dX2_readFrom_83 rfl ⟨rfl, h⟩
    · exact rn_ret dX2_readFrom_13 rfl ⟨rfl, h⟩
theorem dX2_isTold_0 : decode μX2_isTold.2.1 0 = .ok (.iload_n 1, 1) := by decide +kernel
theorem dX2_isTold_1 : decode μX2_isTold.2.1 1 = .ok (.ifCond .lt 15, 3) := by decide +kernel
theorem dX2_isTold_4 : decode μX2_isTold.2.1 4 = .ok (.iload_n 1, 1) := by decide +kernel
theorem dX2_isTold_5 : decode μX2_isTold.2.1 5 = .ok (.aload_n 0, 1) := by decide +kernel
theorem dX2_isTold_6 : decode μX2_isTold.2.1 6 = .ok (.getfield 9, 3) := by decide +kernel
theorem dX2_isTold_9 : decode μX2_isTold.2.1 9 = .ok (.if_icmp .ge 7, 3) := by decide +kernel
theorem dX2_isTold_12 : decode μX2_isTold.2.1 12 = .ok (.iconst 1, 1) := by decide +kernel
theorem dX2_isTold_13 : decode μX2_isTold.2.1 13 = .ok (.goto 4, 3) := by decide +kernel
theorem dX2_isTold_16 : decode μX2_isTold.2.1 16 = .ok (.iconst 0, 1) := by decide +kernel
theorem dX2_isTold_17 : decode μX2_isTold.2.1 17 = .ok (.ireturn, 1) := by decide +kernel
set_option maxRecDepth 20000 in
theorem sg_X2_isTold_0 {d : Nat} {o : Nat} {x1 : Int32} {M : Mem} {K : (Int32 → Mem → Prop)} (ho : kd o = (0, 2)) (h : (if x1 < 0 then K 0 M else (if ri M o 0 ≤ x1 then K 0 M else K 1 M))) : CI d μX2_isTold [.ref o, .int x1] M K := by
  show Rn d μX2_isTold 0 [(0, .ref o), (1, .int x1)] [] M _
  refine rn_iload_n (i := 1) (x := x1) dX2_isTold_0 rfl (by simp) ?_
  refine rn_if_lt (tgt := 16) dX2_isTold_1 (by decide) (ite_go h (fun hc h => ?_) (fun hc h => ?_))
  · refine rn_iconst (v := 0) dX2_isTold_16 rfl ?_
    exact rn_zret dX2_isTold_17 rfl (by decide) ⟨_, rfl, h⟩
  · refine rn_iload_n (i := 1) (x := x1) dX2_isTold_4 rfl (by simp) ?_
    refine rn_aload_n (i := 0) (x := o) dX2_isTold_5 rfl (by simp) ?_
    refine rn_geti dX2_isTold_6 ho gf_X2_9 (by decide) ?_
    refine rn_icmp_ge (tgt := 16) dX2_isTold_9 (by decide) (ite_go h (fun hc h => ?_) (fun hc h => ?_))
    · refine rn_iconst (v := 0) dX2_isTold_16 rfl ?_
      exact rn_zret dX2_isTold_17 rfl (by decide) ⟨_, rfl, h⟩
    · refine rn_iconst (v := 1) dX2_isTold_12 rfl ?_
      refine rn_goto (tgt := 17) dX2_isTold_13 (by decide) ?_
      exact rn_zret dX2_isTold_17 rfl (by decide) ⟨_, rfl, h⟩
theorem dX2_isThere_0 : decode μX2_isThere.2.1 0 = .ok (.iload_n 1, 1) := by decide +kernel
theorem dX2_isThere_1 : decode μX2_isThere.2.1 1 = .ok (.ifCond .lt 27, 3) := by decide +kernel
theorem dX2_isThere_4 : decode μX2_isThere.2.1 4 = .ok (.iload_n 1, 1) := by decide +kernel
theorem dX2_isThere_5 : decode μX2_isThere.2.1 5 = .ok (.aload_n 0, 1) := by decide +kernel
theorem dX2_isThere_6 : decode μX2_isThere.2.1 6 = .ok (.getfield 9, 3) := by decide +kernel
theorem dX2_isThere_9 : decode μX2_isThere.2.1 9 = .ok (.if_icmp .ge 19, 3) := by decide +kernel
theorem dX2_isThere_12 : decode μX2_isThere.2.1 12 = .ok (.aload_n 0, 1) := by decide +kernel
theorem dX2_isThere_13 : decode μX2_isThere.2.1 13 = .ok (.getfield 15, 3) := by decide +kernel
theorem dX2_isThere_16 : decode μX2_isThere.2.1 16 = .ok (.iload_n 1, 1) := by decide +kernel
theorem dX2_isThere_17 : decode μX2_isThere.2.1 17 = .ok (.ishr, 1) := by decide +kernel
theorem dX2_isThere_18 : decode μX2_isThere.2.1 18 = .ok (.iconst 1, 1) := by decide +kernel
theorem dX2_isThere_19 : decode μX2_isThere.2.1 19 = .ok (.iand, 1) := by decide +kernel
theorem dX2_isThere_20 : decode μX2_isThere.2.1 20 = .ok (.iconst 1, 1) := by decide +kernel
theorem dX2_isThere_21 : decode μX2_isThere.2.1 21 = .ok (.if_icmp .ne 7, 3) := by decide +kernel
theorem dX2_isThere_24 : decode μX2_isThere.2.1 24 = .ok (.iconst 1, 1) := by decide +kernel
theorem dX2_isThere_25 : decode μX2_isThere.2.1 25 = .ok (.goto 4, 3) := by decide +kernel
theorem dX2_isThere_28 : decode μX2_isThere.2.1 28 = .ok (.iconst 0, 1) := by decide +kernel
theorem dX2_isThere_29 : decode μX2_isThere.2.1 29 = .ok (.ireturn, 1) := by decide +kernel
set_option maxRecDepth 20000 in
theorem sg_X2_isThere_0 {d : Nat} {o : Nat} {x1 : Int32} {M : Mem} {K : (Int32 → Mem → Prop)} (ho : kd o = (0, 2)) (h : (if x1 < 0 then K 0 M else (if ri M o 0 ≤ x1 then K 0 M else (if ((ri M o 1) >>> (x1 &&& 31)) &&& 1 = 1 then K 1 M else K 0 M)))) : CI d μX2_isThere [.ref o, .int x1] M K := by
  show Rn d μX2_isThere 0 [(0, .ref o), (1, .int x1)] [] M _
  refine rn_iload_n (i := 1) (x := x1) dX2_isThere_0 rfl (by simp) ?_
  refine rn_if_lt (tgt := 28) dX2_isThere_1 (by decide) (ite_go h (fun hc h => ?_) (fun hc h => ?_))
  · refine rn_iconst (v := 0) dX2_isThere_28 rfl ?_
    exact rn_zret dX2_isThere_29 rfl (by decide) ⟨_, rfl, h⟩
  · refine rn_iload_n (i := 1) (x := x1) dX2_isThere_4 rfl (by simp) ?_
    refine rn_aload_n (i := 0) (x := o) dX2_isThere_5 rfl (by simp) ?_
    refine rn_geti dX2_isThere_6 ho gf_X2_9 (by decide) ?_
    refine rn_icmp_ge (tgt := 28) dX2_isThere_9 (by decide) (ite_go h (fun hc h => ?_) (fun hc h => ?_))
    · refine rn_iconst (v := 0) dX2_isThere_28 rfl ?_
      exact rn_zret dX2_isThere_29 rfl (by decide) ⟨_, rfl, h⟩
    · refine rn_aload_n (i := 0) (x := o) dX2_isThere_12 rfl (by simp) ?_
      refine rn_geti dX2_isThere_13 ho gf_X2_15 (by decide) ?_
      refine rn_iload_n (i := 1) (x := x1) dX2_isThere_16 rfl (by simp) ?_
      refine rn_ishr dX2_isThere_17 ?_
      refine rn_iconst (v := 1) dX2_isThere_18 rfl ?_
      refine rn_iand dX2_isThere_19 ?_
      refine rn_iconst (v := 1) dX2_isThere_20 rfl ?_
      refine rn_icmp_ne (tgt := 28) dX2_isThere_21 (by decide) (ite_go h (fun hc h => ?_) (fun hc h => ?_))
      · refine rn_iconst (v := 1) dX2_isThere_24 rfl ?_
        refine rn_goto (tgt := 29) dX2_isThere_25 (by decide) ?_
        exact rn_zret dX2_isThere_29 rfl (by decide) ⟨_, rfl, h⟩
      · refine rn_iconst (v := 0) dX2_isThere_28 rfl ?_
        exact rn_zret dX2_isThere_29 rfl (by decide) ⟨_, rfl, h⟩
theorem dX2_howManyThere_0 : decode μX2_howManyThere.2.1 0 = .ok (.aload_n 0, 1) := by decide +kernel
theorem dX2_howManyThere_1 : decode μX2_howManyThere.2.1 1 = .ok (.getfield 15, 3) := by decide +kernel
theorem dX2_howManyThere_4 : decode μX2_howManyThere.2.1 4 = .ok (.invokestatic 52, 3) := by decide +kernel
theorem dX2_howManyThere_7 : decode μX2_howManyThere.2.1 7 = .ok (.ireturn, 1) := by decide +kernel
set_option maxRecDepth 20000 in
theorem sg_X2_howManyThere_0 {d : Nat} {o : Nat} {M : Mem} {K : (Int32 → Mem → Prop)} (ho : kd o = (0, 2)) (h : (CI d μJ6_bitCount_0f7a4 [.int (ri M o 1)] M (fun r2 M1 => K r2 M1))) : CI (d + 1) μX2_howManyThere [.ref o] M K := by
  show Rn (d + 1) μX2_howManyThere 0 [(0, .ref o)] [] M _
  refine rn_aload_n (i := 0) (x := o) dX2_howManyThere_0 rfl (by simp) ?_
  refine rn_geti dX2_howManyThere_1 ho gf_X2_15 (by decide) ?_
  refine rn_callSi (as := [.int (ri M o 1)]) (st := []) dX2_howManyThere_4 mf_J6_bitCount_0f7a4 lk_X2_52 sm_J6_bitCount_0f7a4 rfl (Nat.le_of_ble_eq_true rfl) (Nat.le_of_ble_eq_true rfl) rfl (RI.mono h (fun r2 M1 h => ?_))
  exact rn_iret dX2_howManyThere_7 rfl ⟨_, rfl, h⟩
theorem dX2_meets_0 : decode μX2_meets.2.1 0 = .ok (.iload_n 1, 1) := by decide +kernel
theorem dX2_meets_1 : decode μX2_meets.2.1 1 = .ok (.ifCond .lt 41, 3) := by decide +kernel
theorem dX2_meets_4 : decode μX2_meets.2.1 4 = .ok (.iload_n 1, 1) := by decide +kernel
theorem dX2_meets_5 : decode μX2_meets.2.1 5 = .ok (.aload_n 0, 1) := by decide +kernel
theorem dX2_meets_6 : decode μX2_meets.2.1 6 = .ok (.getfield 9, 3) := by decide +kernel
theorem dX2_meets_9 : decode μX2_meets.2.1 9 = .ok (.if_icmp .ge 33, 3) := by decide +kernel
theorem dX2_meets_12 : decode μX2_meets.2.1 12 = .ok (.iload_n 2, 1) := by decide +kernel
theorem dX2_meets_13 : decode μX2_meets.2.1 13 = .ok (.ifCond .lt 29, 3) := by decide +kernel
theorem dX2_meets_16 : decode μX2_meets.2.1 16 = .ok (.iload_n 2, 1) := by decide +kernel
theorem dX2_meets_17 : decode μX2_meets.2.1 17 = .ok (.aload_n 0, 1) := by decide +kernel
theorem dX2_meets_18 : decode μX2_meets.2.1 18 = .ok (.getfield 9, 3) := by decide +kernel
theorem dX2_meets_21 : decode μX2_meets.2.1 21 = .ok (.if_icmp .ge 21, 3) := by decide +kernel
theorem dX2_meets_24 : decode μX2_meets.2.1 24 = .ok (.aload_n 0, 1) := by decide +kernel
theorem dX2_meets_25 : decode μX2_meets.2.1 25 = .ok (.getfield 34, 3) := by decide +kernel
theorem dX2_meets_28 : decode μX2_meets.2.1 28 = .ok (.iload_n 1, 1) := by decide +kernel
theorem dX2_meets_29 : decode μX2_meets.2.1 29 = .ok (.iaload, 1) := by decide +kernel
theorem dX2_meets_30 : decode μX2_meets.2.1 30 = .ok (.iload_n 2, 1) := by decide +kernel
theorem dX2_meets_31 : decode μX2_meets.2.1 31 = .ok (.ishr, 1) := by decide +kernel
theorem dX2_meets_32 : decode μX2_meets.2.1 32 = .ok (.iconst 1, 1) := by decide +kernel
theorem dX2_meets_33 : decode μX2_meets.2.1 33 = .ok (.iand, 1) := by decide +kernel
theorem dX2_meets_34 : decode μX2_meets.2.1 34 = .ok (.iconst 1, 1) := by decide +kernel
theorem dX2_meets_35 : decode μX2_meets.2.1 35 = .ok (.if_icmp .ne 7, 3) := by decide +kernel
theorem dX2_meets_38 : decode μX2_meets.2.1 38 = .ok (.iconst 1, 1) := by decide +kernel
theorem dX2_meets_39 : decode μX2_meets.2.1 39 = .ok (.goto 4, 3) := by decide +kernel
theorem dX2_meets_42 : decode μX2_meets.2.1 42 = .ok (.iconst 0, 1) := by decide +kernel
theorem dX2_meets_43 : decode μX2_meets.2.1 43 = .ok (.ireturn, 1) := by decide +kernel
set_option maxRecDepth 20000 in
theorem sg_X2_meets_0 {d : Nat} {o : Nat} {x1 : Int32} {x2 : Int32} {M : Mem} {K : (Int32 → Mem → Prop)} (ho : kd o = (0, 2)) (h : (if x1 < 0 then K 0 M else (if ri M o 0 ≤ x1 then K 0 M else (if x2 < 0 then K 0 M else (if ri M o 0 ≤ x2 then K 0 M else (vp_in x1 8 ∧ (if ((ri M (o + 3) (nx x1)) >>> (x2 &&& 31)) &&& 1 = 1 then K 1 M else K 0 M))))))) : CI d μX2_meets [.ref o, .int x1, .int x2] M K := by
  show Rn d μX2_meets 0 [(0, .ref o), (1, .int x1), (2, .int x2)] [] M _
  refine rn_iload_n (i := 1) (x := x1) dX2_meets_0 rfl (by simp) ?_
  refine rn_if_lt (tgt := 42) dX2_meets_1 (by decide) (ite_go h (fun hc h => ?_) (fun hc h => ?_))
  · refine rn_iconst (v := 0) dX2_meets_42 rfl ?_
    exact rn_zret dX2_meets_43 rfl (by decide) ⟨_, rfl, h⟩
  · refine rn_iload_n (i := 1) (x := x1) dX2_meets_4 rfl (by simp) ?_
    refine rn_aload_n (i := 0) (x := o) dX2_meets_5 rfl (by simp) ?_
    refine rn_geti dX2_meets_6 ho gf_X2_9 (by decide) ?_
    refine rn_icmp_ge (tgt := 42) dX2_meets_9 (by decide) (ite_go h (fun hc h => ?_) (fun hc h => ?_))
    · refine rn_iconst (v := 0) dX2_meets_42 rfl ?_
      exact rn_zret dX2_meets_43 rfl (by decide) ⟨_, rfl, h⟩
    · refine rn_iload_n (i := 2) (x := x2) dX2_meets_12 rfl (by simp) ?_
      refine rn_if_lt (tgt := 42) dX2_meets_13 (by decide) (ite_go h (fun hc h => ?_) (fun hc h => ?_))
      · refine rn_iconst (v := 0) dX2_meets_42 rfl ?_
        exact rn_zret dX2_meets_43 rfl (by decide) ⟨_, rfl, h⟩
      · refine rn_iload_n (i := 2) (x := x2) dX2_meets_16 rfl (by simp) ?_
        refine rn_aload_n (i := 0) (x := o) dX2_meets_17 rfl (by simp) ?_
        refine rn_geti dX2_meets_18 ho gf_X2_9 (by decide) ?_
        refine rn_icmp_ge (tgt := 42) dX2_meets_21 (by decide) (ite_go h (fun hc h => ?_) (fun hc h => ?_))
        · refine rn_iconst (v := 0) dX2_meets_42 rfl ?_
          exact rn_zret dX2_meets_43 rfl (by decide) ⟨_, rfl, h⟩
        · refine rn_aload_n (i := 0) (x := o) dX2_meets_24 rfl (by simp) ?_
          refine rn_getr (t := o + 3) dX2_meets_25 ho gf_X2_34 rfl (froth_refs _ ho).2.2.1.1 ?_
          refine rn_iload_n (i := 1) (x := x1) dX2_meets_28 rfl (by simp) ?_
          obtain ⟨hi, h⟩ := h
          refine rn_iaload dX2_meets_29 (froth_refs _ ho).2.2.1.2 hi ?_
          refine rn_iload_n (i := 2) (x := x2) dX2_meets_30 rfl (by simp) ?_
          refine rn_ishr dX2_meets_31 ?_
          refine rn_iconst (v := 1) dX2_meets_32 rfl ?_
          refine rn_iand dX2_meets_33 ?_
          refine rn_iconst (v := 1) dX2_meets_34 rfl ?_
          refine rn_icmp_ne (tgt := 42) dX2_meets_35 (by decide) (ite_go h (fun hc h => ?_) (fun hc h => ?_))
          · refine rn_iconst (v := 1) dX2_meets_38 rfl ?_
            refine rn_goto (tgt := 43) dX2_meets_39 (by decide) ?_
            exact rn_zret dX2_meets_43 rfl (by decide) ⟨_, rfl, h⟩
          · refine rn_iconst (v := 0) dX2_meets_42 rfl ?_
            exact rn_zret dX2_meets_43 rfl (by decide) ⟨_, rfl, h⟩
theorem dX2_howManyWalls_0 : decode μX2_howManyWalls.2.1 0 = .ok (.iconst 0, 1) := by decide +kernel
theorem dX2_howManyWalls_1 : decode μX2_howManyWalls.2.1 1 = .ok (.istore_n 1, 1) := by decide +kernel
theorem dX2_howManyWalls_2 : decode μX2_howManyWalls.2.1 2 = .ok (.iconst 0, 1) := by decide +kernel
theorem dX2_howManyWalls_3 : decode μX2_howManyWalls.2.1 3 = .ok (.istore_n 2, 1) := by decide +kernel
theorem dX2_howManyWalls_4 : decode μX2_howManyWalls.2.1 4 = .ok (.iload_n 2, 1) := by decide +kernel
theorem dX2_howManyWalls_5 : decode μX2_howManyWalls.2.1 5 = .ok (.aload_n 0, 1) := by decide +kernel
theorem dX2_howManyWalls_6 : decode μX2_howManyWalls.2.1 6 = .ok (.getfield 9, 3) := by decide +kernel
theorem dX2_howManyWalls_9 : decode μX2_howManyWalls.2.1 9 = .ok (.if_icmp .ge 21, 3) := by decide +kernel
theorem dX2_howManyWalls_12 : decode μX2_howManyWalls.2.1 12 = .ok (.iload_n 1, 1) := by decide +kernel
theorem dX2_howManyWalls_13 : decode μX2_howManyWalls.2.1 13 = .ok (.aload_n 0, 1) := by decide +kernel
theorem dX2_howManyWalls_14 : decode μX2_howManyWalls.2.1 14 = .ok (.getfield 34, 3) := by decide +kernel
theorem dX2_howManyWalls_17 : decode μX2_howManyWalls.2.1 17 = .ok (.iload_n 2, 1) := by decide +kernel
theorem dX2_howManyWalls_18 : decode μX2_howManyWalls.2.1 18 = .ok (.iaload, 1) := by decide +kernel
theorem dX2_howManyWalls_19 : decode μX2_howManyWalls.2.1 19 = .ok (.invokestatic 52, 3) := by decide +kernel
theorem dX2_howManyWalls_22 : decode μX2_howManyWalls.2.1 22 = .ok (.iadd, 1) := by decide +kernel
theorem dX2_howManyWalls_23 : decode μX2_howManyWalls.2.1 23 = .ok (.istore_n 1, 1) := by decide +kernel
theorem dX2_howManyWalls_24 : decode μX2_howManyWalls.2.1 24 = .ok (.iinc 2 1, 3) := by decide +kernel
theorem dX2_howManyWalls_27 : decode μX2_howManyWalls.2.1 27 = .ok (.goto (-23), 3) := by decide +kernel
theorem dX2_howManyWalls_30 : decode μX2_howManyWalls.2.1 30 = .ok (.iload_n 1, 1) := by decide +kernel
theorem dX2_howManyWalls_31 : decode μX2_howManyWalls.2.1 31 = .ok (.iconst 2, 1) := by decide +kernel
theorem dX2_howManyWalls_32 : decode μX2_howManyWalls.2.1 32 = .ok (.idiv, 1) := by decide +kernel
theorem dX2_howManyWalls_33 : decode μX2_howManyWalls.2.1 33 = .ok (.ireturn, 1) := by decide +kernel
set_option maxRecDepth 20000 in
theorem sg_X2_howManyWalls_0 {d : Nat} {o : Nat} {M : Mem} {K : (Int32 → Mem → Prop)} (ho : kd o = (0, 2)) (h : RI (d + 1) μX2_howManyWalls 4 [(0, .ref o), (1, .int 0), (2, .int 0)] [] M K) : CI (d + 1) μX2_howManyWalls [.ref o] M K := by
  show Rn (d + 1) μX2_howManyWalls 0 [(0, .ref o)] [] M _
  refine rn_iconst (v := 0) dX2_howManyWalls_0 rfl ?_
  refine rn_istore_n (lv' := [(0, .ref o), (1, .int 0)]) (hd := dX2_howManyWalls_1) (i := 1) (hi := rfl) (hn := by decide) (hf := rfl) (hl := rfl) ?_
  refine rn_iconst (v := 0) dX2_howManyWalls_2 rfl ?_
  refine rn_istore_n (lv' := [(0, .ref o), (1, .int 0), (2, .int 0)]) (hd := dX2_howManyWalls_3) (i := 2) (hi := rfl) (hn := by decide) (hf := rfl) (hl := rfl) ?_
  exact h
set_option maxRecDepth 20000 in
theorem sg_X2_howManyWalls_4 {d : Nat} {o : Nat} {x1 : Int32} {x2 : Int32} {M : Mem} {K : (Int32 → Mem → Prop)} (ho : kd o = (0, 2)) (h : (if ri M o 0 ≤ x2 then K (x1 / 2) M else (vp_in x2 8 ∧ (CI d μJ6_bitCount_0f7a4 [.int (ri M (o + 3) (nx x2))] M (fun r2 M1 => RI (d + 1) μX2_howManyWalls 4 [(0, .ref o), (1, .int (x1 + r2)), (2, .int (x2 + 1))] [] M1 K))))) : RI (d + 1) μX2_howManyWalls 4 [(0, .ref o), (1, .int x1), (2, .int x2)] [] M K := by
  show Rn (d + 1) μX2_howManyWalls 4 [(0, .ref o), (1, .int x1), (2, .int x2)] [] M _
  refine rn_iload_n (i := 2) (x := x2) dX2_howManyWalls_4 rfl (by simp) ?_
  refine rn_aload_n (i := 0) (x := o) dX2_howManyWalls_5 rfl (by simp) ?_
  refine rn_geti dX2_howManyWalls_6 ho gf_X2_9 (by decide) ?_
  refine rn_icmp_ge (tgt := 30) dX2_howManyWalls_9 (by decide) (ite_go h (fun hc h => ?_) (fun hc h => ?_))
  · refine rn_iload_n (i := 1) (x := x1) dX2_howManyWalls_30 rfl (by simp) ?_
    refine rn_iconst (v := 2) dX2_howManyWalls_31 rfl ?_
    refine rn_idiv dX2_howManyWalls_32 (by decide) ?_
    exact rn_iret dX2_howManyWalls_33 rfl ⟨_, rfl, h⟩
  · refine rn_iload_n (i := 1) (x := x1) dX2_howManyWalls_12 rfl (by simp) ?_
    refine rn_aload_n (i := 0) (x := o) dX2_howManyWalls_13 rfl (by simp) ?_
    refine rn_getr (t := o + 3) dX2_howManyWalls_14 ho gf_X2_34 rfl (froth_refs _ ho).2.2.1.1 ?_
    refine rn_iload_n (i := 2) (x := x2) dX2_howManyWalls_17 rfl (by simp) ?_
    obtain ⟨hi, h⟩ := h
    refine rn_iaload dX2_howManyWalls_18 (froth_refs _ ho).2.2.1.2 hi ?_
    refine rn_callSi (as := [.int (ri M (o + 3) (nx x2))]) (st := [.int x1]) dX2_howManyWalls_19 mf_J6_bitCount_0f7a4 lk_X2_52 sm_J6_bitCount_0f7a4 rfl (Nat.le_of_ble_eq_true rfl) (Nat.le_of_ble_eq_true rfl) rfl (RI.mono h (fun r2 M1 h => ?_))
    refine rn_iadd dX2_howManyWalls_22 ?_
    refine rn_istore_n (lv' := [(0, .ref o), (1, .int (x1 + r2)), (2, .int x2)]) (hd := dX2_howManyWalls_23) (i := 1) (hi := rfl) (hn := by decide) (hf := rfl) (hl := rfl) ?_
    refine rn_iinc (x := x2) (v := x2 + 1) (lv' := [(0, .ref o), (1, .int (x1 + r2)), (2, .int (x2 + 1))]) dX2_howManyWalls_24 (by simp) rfl (by decide) rfl rfl ?_
    refine rn_goto (tgt := 4) dX2_howManyWalls_27 (by decide) ?_
    exact h
theorem dX2_hasCorner_0 : decode μX2_hasCorner.2.1 0 = .ok (.iconst 0, 1) := by decide +kernel
theorem dX2_hasCorner_1 : decode μX2_hasCorner.2.1 1 = .ok (.istore_n 2, 1) := by decide +kernel
theorem dX2_hasCorner_2 : decode μX2_hasCorner.2.1 2 = .ok (.iload_n 2, 1) := by decide +kernel
theorem dX2_hasCorner_3 : decode μX2_hasCorner.2.1 3 = .ok (.aload_n 0, 1) := by decide +kernel
theorem dX2_hasCorner_4 : decode μX2_hasCorner.2.1 4 = .ok (.getfield 24, 3) := by decide +kernel
theorem dX2_hasCorner_7 : decode μX2_hasCorner.2.1 7 = .ok (.if_icmp .ge 21, 3) := by decide +kernel
theorem dX2_hasCorner_10 : decode μX2_hasCorner.2.1 10 = .ok (.aload_n 0, 1) := by decide +kernel
theorem dX2_hasCorner_11 : decode μX2_hasCorner.2.1 11 = .ok (.getfield 31, 3) := by decide +kernel
theorem dX2_hasCorner_14 : decode μX2_hasCorner.2.1 14 = .ok (.iload_n 2, 1) := by decide +kernel
theorem dX2_hasCorner_15 : decode μX2_hasCorner.2.1 15 = .ok (.iaload, 1) := by decide +kernel
theorem dX2_hasCorner_16 : decode μX2_hasCorner.2.1 16 = .ok (.iload_n 1, 1) := by decide +kernel
theorem dX2_hasCorner_17 : decode μX2_hasCorner.2.1 17 = .ok (.if_icmp .ne 5, 3) := by decide +kernel
theorem dX2_hasCorner_20 : decode μX2_hasCorner.2.1 20 = .ok (.iconst 1, 1) := by decide +kernel
theorem dX2_hasCorner_21 : decode μX2_hasCorner.2.1 21 = .ok (.ireturn, 1) := by decide +kernel
theorem dX2_hasCorner_22 : decode μX2_hasCorner.2.1 22 = .ok (.iinc 2 1, 3) := by decide +kernel
theorem dX2_hasCorner_25 : decode μX2_hasCorner.2.1 25 = .ok (.goto (-23), 3) := by decide +kernel
theorem dX2_hasCorner_28 : decode μX2_hasCorner.2.1 28 = .ok (.iconst 0, 1) := by decide +kernel
theorem dX2_hasCorner_29 : decode μX2_hasCorner.2.1 29 = .ok (.ireturn, 1) := by decide +kernel
set_option maxRecDepth 20000 in
theorem sg_X2_hasCorner_0 {d : Nat} {o : Nat} {x1 : Int32} {M : Mem} {K : (Int32 → Mem → Prop)} (ho : kd o = (0, 2)) (h : RI d μX2_hasCorner 2 [(0, .ref o), (1, .int x1), (2, .int 0)] [] M K) : CI d μX2_hasCorner [.ref o, .int x1] M K := by
  show Rn d μX2_hasCorner 0 [(0, .ref o), (1, .int x1)] [] M _
  refine rn_iconst (v := 0) dX2_hasCorner_0 rfl ?_
  refine rn_istore_n (lv' := [(0, .ref o), (1, .int x1), (2, .int 0)]) (hd := dX2_hasCorner_1) (i := 2) (hi := rfl) (hn := by decide) (hf := rfl) (hl := rfl) ?_
  exact h
set_option maxRecDepth 20000 in
theorem sg_X2_hasCorner_2 {d : Nat} {o : Nat} {x1 : Int32} {x2 : Int32} {M : Mem} {K : (Int32 → Mem → Prop)} (ho : kd o = (0, 2)) (h : (if ri M o 4 ≤ x2 then K 0 M else (vp_in x2 12 ∧ (if ri M (o + 2) (nx x2) = x1 then K 1 M else RI d μX2_hasCorner 2 [(0, .ref o), (1, .int x1), (2, .int (x2 + 1))] [] M K)))) : RI d μX2_hasCorner 2 [(0, .ref o), (1, .int x1), (2, .int x2)] [] M K := by
  show Rn d μX2_hasCorner 2 [(0, .ref o), (1, .int x1), (2, .int x2)] [] M _
  refine rn_iload_n (i := 2) (x := x2) dX2_hasCorner_2 rfl (by simp) ?_
  refine rn_aload_n (i := 0) (x := o) dX2_hasCorner_3 rfl (by simp) ?_
  refine rn_geti dX2_hasCorner_4 ho gf_X2_24 (by decide) ?_
  refine rn_icmp_ge (tgt := 28) dX2_hasCorner_7 (by decide) (ite_go h (fun hc h => ?_) (fun hc h => ?_))
  · refine rn_iconst (v := 0) dX2_hasCorner_28 rfl ?_
    exact rn_zret dX2_hasCorner_29 rfl (by decide) ⟨_, rfl, h⟩
  · refine rn_aload_n (i := 0) (x := o) dX2_hasCorner_10 rfl (by simp) ?_
    refine rn_getr (t := o + 2) dX2_hasCorner_11 ho gf_X2_31 rfl (froth_refs _ ho).2.1.1 ?_
    refine rn_iload_n (i := 2) (x := x2) dX2_hasCorner_14 rfl (by simp) ?_
    obtain ⟨hi, h⟩ := h
    refine rn_iaload dX2_hasCorner_15 (froth_refs _ ho).2.1.2 hi ?_
    refine rn_iload_n (i := 1) (x := x1) dX2_hasCorner_16 rfl (by simp) ?_
    refine rn_icmp_ne (tgt := 22) dX2_hasCorner_17 (by decide) (ite_go h (fun hc h => ?_) (fun hc h => ?_))
    · refine rn_iconst (v := 1) dX2_hasCorner_20 rfl ?_
      exact rn_zret dX2_hasCorner_21 rfl (by decide) ⟨_, rfl, h⟩
    · refine rn_iinc (x := x2) (v := x2 + 1) (lv' := [(0, .ref o), (1, .int x1), (2, .int (x2 + 1))]) dX2_hasCorner_22 (by simp) rfl (by decide) rfl rfl ?_
      refine rn_goto (tgt := 2) dX2_hasCorner_25 (by decide) ?_
      exact h
theorem dX2_bear_0 : decode μX2_bear.2.1 0 = .ok (.aload_n 0, 1) := by decide +kernel
theorem dX2_bear_1 : decode μX2_bear.2.1 1 = .ok (.getfield 9, 3) := by decide +kernel
theorem dX2_bear_4 : decode μX2_bear.2.1 4 = .ok (.bipush 8, 2) := by decide +kernel
theorem dX2_bear_6 : decode μX2_bear.2.1 6 = .ok (.if_icmp .lt 4, 3) := by decide +kernel
theorem dX2_bear_9 : decode μX2_bear.2.1 9 = .ok (.return_, 1) := by decide +kernel
theorem dX2_bear_10 : decode μX2_bear.2.1 10 = .ok (.aload_n 0, 1) := by decide +kernel
theorem dX2_bear_11 : decode μX2_bear.2.1 11 = .ok (.getfield 9, 3) := by decide +kernel
theorem dX2_bear_14 : decode μX2_bear.2.1 14 = .ok (.istore_n 3, 1) := by decide +kernel
theorem dX2_bear_15 : decode μX2_bear.2.1 15 = .ok (.aload_n 0, 1) := by decide +kernel
theorem dX2_bear_16 : decode μX2_bear.2.1 16 = .ok (.dup, 1) := by decide +kernel
theorem dX2_bear_17 : decode μX2_bear.2.1 17 = .ok (.getfield 9, 3) := by decide +kernel
theorem dX2_bear_20 : decode μX2_bear.2.1 20 = .ok (.iconst 1, 1) := by decide +kernel
theorem dX2_bear_21 : decode μX2_bear.2.1 21 = .ok (.iadd, 1) := by decide +kernel
theorem dX2_bear_22 : decode μX2_bear.2.1 22 = .ok (.putfield 9, 3) := by decide +kernel
theorem dX2_bear_25 : decode μX2_bear.2.1 25 = .ok (.aload_n 0, 1) := by decide +kernel
theorem dX2_bear_26 : decode μX2_bear.2.1 26 = .ok (.dup, 1) := by decide +kernel
theorem dX2_bear_27 : decode μX2_bear.2.1 27 = .ok (.getfield 15, 3) := by decide +kernel
theorem dX2_bear_30 : decode μX2_bear.2.1 30 = .ok (.iconst 1, 1) := by decide +kernel
theorem dX2_bear_31 : decode μX2_bear.2.1 31 = .ok (.iload_n 3, 1) := by decide +kernel
theorem dX2_bear_32 : decode μX2_bear.2.1 32 = .ok (.ishl, 1) := by decide +kernel
theorem dX2_bear_33 : decode μX2_bear.2.1 33 = .ok (.ior, 1) := by decide +kernel
theorem dX2_bear_34 : decode μX2_bear.2.1 34 = .ok (.putfield 15, 3) := by decide +kernel
theorem dX2_bear_37 : decode μX2_bear.2.1 37 = .ok (.aload_n 0, 1) := by decide +kernel
theorem dX2_bear_38 : decode μX2_bear.2.1 38 = .ok (.getfield 27, 3) := by decide +kernel
theorem dX2_bear_41 : decode μX2_bear.2.1 41 = .ok (.iload_n 3, 1) := by decide +kernel
theorem dX2_bear_42 : decode μX2_bear.2.1 42 = .ok (.iload_n 1, 1) := by decide +kernel
theorem dX2_bear_43 : decode μX2_bear.2.1 43 = .ok (.iastore, 1) := by decide +kernel
theorem dX2_bear_44 : decode μX2_bear.2.1 44 = .ok (.aload_n 0, 1) := by decide +kernel
theorem dX2_bear_45 : decode μX2_bear.2.1 45 = .ok (.getfield 9, 3) := by decide +kernel
theorem dX2_bear_48 : decode μX2_bear.2.1 48 = .ok (.iconst 3, 1) := by decide +kernel
theorem dX2_bear_49 : decode μX2_bear.2.1 49 = .ok (.if_icmp .ne 22, 3) := by decide +kernel
theorem dX2_bear_52 : decode μX2_bear.2.1 52 = .ok (.aload_n 0, 1) := by decide +kernel
theorem dX2_bear_53 : decode μX2_bear.2.1 53 = .ok (.aload_n 0, 1) := by decide +kernel
theorem dX2_bear_54 : decode μX2_bear.2.1 54 = .ok (.getfield 15, 3) := by decide +kernel
theorem dX2_bear_57 : decode μX2_bear.2.1 57 = .ok (.invokevirtual 58, 3) := by decide +kernel
theorem dX2_bear_60 : decode μX2_bear.2.1 60 = .ok (.aload_n 0, 1) := by decide +kernel
theorem dX2_bear_61 : decode μX2_bear.2.1 61 = .ok (.aload_n 0, 1) := by decide +kernel
theorem dX2_bear_62 : decode μX2_bear.2.1 62 = .ok (.getfield 15, 3) := by decide +kernel
theorem dX2_bear_65 : decode μX2_bear.2.1 65 = .ok (.invokevirtual 58, 3) := by decide +kernel
theorem dX2_bear_68 : decode μX2_bear.2.1 68 = .ok (.goto 57, 3) := by decide +kernel
theorem dX2_bear_71 : decode μX2_bear.2.1 71 = .ok (.aload_n 0, 1) := by decide +kernel
theorem dX2_bear_72 : decode μX2_bear.2.1 72 = .ok (.getfield 9, 3) := by decide +kernel
theorem dX2_bear_75 : decode μX2_bear.2.1 75 = .ok (.iconst 3, 1) := by decide +kernel
theorem dX2_bear_76 : decode μX2_bear.2.1 76 = .ok (.if_icmp .le 49, 3) := by decide +kernel
theorem dX2_bear_79 : decode μX2_bear.2.1 79 = .ok (.aload_n 0, 1) := by decide +kernel
theorem dX2_bear_80 : decode μX2_bear.2.1 80 = .ok (.iload_n 2, 1) := by decide +kernel
theorem dX2_bear_81 : decode μX2_bear.2.1 81 = .ok (.invokevirtual 62, 3) := by decide +kernel
theorem dX2_bear_84 : decode μX2_bear.2.1 84 = .ok (.iconst 0, 1) := by decide +kernel
theorem dX2_bear_85 : decode μX2_bear.2.1 85 = .ok (.istore 4, 2) := by decide +kernel
theorem dX2_bear_87 : decode μX2_bear.2.1 87 = .ok (.iload 4, 2) := by decide +kernel
theorem dX2_bear_89 : decode μX2_bear.2.1 89 = .ok (.iload_n 3, 1) := by decide +kernel
theorem dX2_bear_90 : decode μX2_bear.2.1 90 = .ok (.if_icmp .ge 35, 3) := by decide +kernel
theorem dX2_bear_93 : decode μX2_bear.2.1 93 = .ok (.iload_n 2, 1) := by decide +kernel
theorem dX2_bear_94 : decode μX2_bear.2.1 94 = .ok (.iload 4, 2) := by decide +kernel
theorem dX2_bear_96 : decode μX2_bear.2.1 96 = .ok (.ishr, 1) := by decide +kernel
theorem dX2_bear_97 : decode μX2_bear.2.1 97 = .ok (.iconst 1, 1) := by decide +kernel
theorem dX2_bear_98 : decode μX2_bear.2.1 98 = .ok (.iand, 1) := by decide +kernel
theorem dX2_bear_99 : decode μX2_bear.2.1 99 = .ok (.iconst 1, 1) := by decide +kernel
theorem dX2_bear_100 : decode μX2_bear.2.1 100 = .ok (.if_icmp .ne 19, 3) := by decide +kernel
theorem dX2_bear_103 : decode μX2_bear.2.1 103 = .ok (.aload_n 0, 1) := by decide +kernel
theorem dX2_bear_104 : decode μX2_bear.2.1 104 = .ok (.iload_n 2, 1) := by decide +kernel
theorem dX2_bear_105 : decode μX2_bear.2.1 105 = .ok (.iconst 1, 1) := by decide +kernel
theorem dX2_bear_106 : decode μX2_bear.2.1 106 = .ok (.iload 4, 2) := by decide +kernel
theorem dX2_bear_108 : decode μX2_bear.2.1 108 = .ok (.ishl, 1) := by decide +kernel
theorem dX2_bear_109 : decode μX2_bear.2.1 109 = .ok (.iconst (-1), 1) := by decide +kernel
theorem dX2_bear_110 : decode μX2_bear.2.1 110 = .ok (.ixor, 1) := by decide +kernel
theorem dX2_bear_111 : decode μX2_bear.2.1 111 = .ok (.iand, 1) := by decide +kernel
theorem dX2_bear_112 : decode μX2_bear.2.1 112 = .ok (.iconst 1, 1) := by decide +kernel
theorem dX2_bear_113 : decode μX2_bear.2.1 113 = .ok (.iload_n 3, 1) := by decide +kernel
theorem dX2_bear_114 : decode μX2_bear.2.1 114 = .ok (.ishl, 1) := by decide +kernel
theorem dX2_bear_115 : decode μX2_bear.2.1 115 = .ok (.ior, 1) := by decide +kernel
theorem dX2_bear_116 : decode μX2_bear.2.1 116 = .ok (.invokevirtual 58, 3) := by decide +kernel
theorem dX2_bear_119 : decode μX2_bear.2.1 119 = .ok (.iinc 4 1, 3) := by decide +kernel
theorem dX2_bear_122 : decode μX2_bear.2.1 122 = .ok (.goto (-35), 3) := by decide +kernel
theorem dX2_bear_125 : decode μX2_bear.2.1 125 = .ok (.aload_n 0, 1) := by decide +kernel
theorem dX2_bear_126 : decode μX2_bear.2.1 126 = .ok (.invokevirtual 43, 3) := by decide +kernel
theorem dX2_bear_129 : decode μX2_bear.2.1 129 = .ok (.return_, 1) := by decide +kernel
set_option maxRecDepth 20000 in
theorem sg_X2_bear_0 {d : Nat} {o : Nat} {x1 : Int32} {x2 : Int32} {M : Mem} {K : (Mem → Prop)} (ho : kd o = (0, 2)) (h : (if ri M o 0 < 8 then (∀ M1, M1 = wi M o 0 ((ri M o 0) + 1) → (∀ M2, M2 = wi M1 o 1 ((ri M1 o 1) ||| ((1 : Int32) <<< ((ri M o 0) &&& 31))) → (vp_in (ri M o 0) 8 ∧ ∀ M3, M3 = wi M2 (o + 1) (nx (ri M o 0)) x1 → (if ri M3 o 0 = 3 then (CV d μX2_addCorner [.ref o, .int (ri M3 o 1)] M3 (fun M4 => (CV d μX2_addCorner [.ref o, .int (ri M4 o 1)] M4 (fun M5 => (CV d μX2_settle [.ref o] M5 (fun M6 => K M6)))))) else (if ri M3 o 0 ≤ 3 then (CV d μX2_settle [.ref o] M3 (fun M7 => K M7)) else (CV d μX2_dropOneCorner [.ref o, .int x2] M3 (fun M8 => RV (d + 1) μX2_bear 87 [(0, .ref o), (1, .int x1), (2, .int x2), (3, .int (ri M o 0)), (4, .int 0)] [] M8 K))))))) else K M)) : CV (d + 1) μX2_bear [.ref o, .int x1, .int x2] M K := by
  show Rn (d + 1) μX2_bear 0 [(0, .ref o), (1, .int x1), (2, .int x2)] [] M _
  refine rn_aload_n (i := 0) (x := o) dX2_bear_0 rfl (by simp) ?_
  refine rn_geti dX2_bear_1 ho gf_X2_9 (by decide) ?_
  refine rn_bipush (v := 8) dX2_bear_4 rfl ?_
  refine rn_icmp_lt (tgt := 10) dX2_bear_6 (by decide) (ite_go h (fun hc h => ?_) (fun hc h => ?_))
  · refine rn_aload_n (i := 0) (x := o) dX2_bear_10 rfl (by simp) ?_
    refine rn_geti dX2_bear_11 ho gf_X2_9 (by decide) ?_
    refine rn_istore_n (lv' := [(0, .ref o), (1, .int x1), (2, .int x2), (3, .int (ri M o 0))]) (hd := dX2_bear_14) (i := 3) (hi := rfl) (hn := by decide) (hf := rfl) (hl := rfl) ?_
    refine rn_aload_n (i := 0) (x := o) dX2_bear_15 rfl (by simp) ?_
    refine rn_dup dX2_bear_16 rfl ?_
    refine rn_geti dX2_bear_17 ho gf_X2_9 (by decide) ?_
    refine rn_iconst (v := 1) dX2_bear_20 rfl ?_
    refine rn_iadd dX2_bear_21 ?_
    have h := h _ rfl
    refine rn_puti dX2_bear_22 ho pf_X2_9 (by decide) rfl rfl ?_
    generalize wi M o 0 ((ri M o 0) + 1) = M1 at h ⊢
    refine rn_aload_n (i := 0) (x := o) dX2_bear_25 rfl (by simp) ?_
    refine rn_dup dX2_bear_26 rfl ?_
    refine rn_geti dX2_bear_27 ho gf_X2_15 (by decide) ?_
    refine rn_iconst (v := 1) dX2_bear_30 rfl ?_
    refine rn_iload_n (i := 3) (x := ri M o 0) dX2_bear_31 rfl (by simp) ?_
    refine rn_ishl dX2_bear_32 ?_
    refine rn_ior dX2_bear_33 ?_
    have h := h _ rfl
    refine rn_puti dX2_bear_34 ho pf_X2_15 (by decide) rfl rfl ?_
    generalize wi M1 o 1 ((ri M1 o 1) ||| ((1 : Int32) <<< ((ri M o 0) &&& 31))) = M2 at h ⊢
    refine rn_aload_n (i := 0) (x := o) dX2_bear_37 rfl (by simp) ?_
    refine rn_getr (t := o + 1) dX2_bear_38 ho gf_X2_27 rfl (froth_refs _ ho).1.1 ?_
    refine rn_iload_n (i := 3) (x := ri M o 0) dX2_bear_41 rfl (by simp) ?_
    refine rn_iload_n (i := 1) (x := x1) dX2_bear_42 rfl (by simp) ?_
    obtain ⟨hi, h⟩ := h
    have h := h _ rfl
    refine rn_iastore dX2_bear_43 (froth_refs _ ho).1.2 hi ?_
    generalize wi M2 (o + 1) (nx (ri M o 0)) x1 = M3 at h ⊢
    refine rn_aload_n (i := 0) (x := o) dX2_bear_44 rfl (by simp) ?_
    refine rn_geti dX2_bear_45 ho gf_X2_9 (by decide) ?_
    refine rn_iconst (v := 3) dX2_bear_48 rfl ?_
    refine rn_icmp_ne (tgt := 71) dX2_bear_49 (by decide) (ite_go h (fun hc h => ?_) (fun hc h => ?_))
    · refine rn_aload_n (i := 0) (x := o) dX2_bear_52 rfl (by simp) ?_
      refine rn_aload_n (i := 0) (x := o) dX2_bear_53 rfl (by simp) ?_
      refine rn_geti dX2_bear_54 ho gf_X2_15 (by decide) ?_
      refine rn_callVv (as := [.int (ri M3 o 1)]) (st := []) dX2_bear_57 mf_X2_addCorner lk_X2_58 im_X2_addCorner ho rfl rfl rfl (Nat.le_of_ble_eq_true rfl) (Nat.le_of_ble_eq_true rfl) rfl (RV.mono h (fun M4 h => ?_))
      refine rn_aload_n (i := 0) (x := o) dX2_bear_60 rfl (by simp) ?_
      refine rn_aload_n (i := 0) (x := o) dX2_bear_61 rfl (by simp) ?_
      refine rn_geti dX2_bear_62 ho gf_X2_15 (by decide) ?_
      refine rn_callVv (as := [.int (ri M4 o 1)]) (st := []) dX2_bear_65 mf_X2_addCorner lk_X2_58 im_X2_addCorner ho rfl rfl rfl (Nat.le_of_ble_eq_true rfl) (Nat.le_of_ble_eq_true rfl) rfl (RV.mono h (fun M5 h => ?_))
      refine rn_goto (tgt := 125) dX2_bear_68 (by decide) ?_
      refine rn_aload_n (i := 0) (x := o) dX2_bear_125 rfl (by simp) ?_
      refine rn_callVv (as := []) (st := []) dX2_bear_126 mf_X2_settle lk_X2_43 im_X2_settle ho rfl rfl rfl (Nat.le_of_ble_eq_true rfl) (Nat.le_of_ble_eq_true rfl) rfl (RV.mono h (fun M6 h => ?_))
      exact rn_ret dX2_bear_129 rfl ⟨rfl, h⟩
    · refine rn_aload_n (i := 0) (x := o) dX2_bear_71 rfl (by simp) ?_
      refine rn_geti dX2_bear_72 ho gf_X2_9 (by decide) ?_
      refine rn_iconst (v := 3) dX2_bear_75 rfl ?_
      refine rn_icmp_le (tgt := 125) dX2_bear_76 (by decide) (ite_go h (fun hc h => ?_) (fun hc h => ?_))
      · refine rn_aload_n (i := 0) (x := o) dX2_bear_125 rfl (by simp) ?_
        refine rn_callVv (as := []) (st := []) dX2_bear_126 mf_X2_settle lk_X2_43 im_X2_settle ho rfl rfl rfl (Nat.le_of_ble_eq_true rfl) (Nat.le_of_ble_eq_true rfl) rfl (RV.mono h (fun M7 h => ?_))
        exact rn_ret dX2_bear_129 rfl ⟨rfl, h⟩
      · refine rn_aload_n (i := 0) (x := o) dX2_bear_79 rfl (by simp) ?_
        refine rn_iload_n (i := 2) (x := x2) dX2_bear_80 rfl (by simp) ?_
        refine rn_callVv (as := [.int x2]) (st := []) dX2_bear_81 mf_X2_dropOneCorner lk_X2_62 im_X2_dropOneCorner ho rfl rfl rfl (Nat.le_of_ble_eq_true rfl) (Nat.le_of_ble_eq_true rfl) rfl (RV.mono h (fun M8 h => ?_))
        refine rn_iconst (v := 0) dX2_bear_84 rfl ?_
        refine rn_istore (lv' := [(0, .ref o), (1, .int x1), (2, .int x2), (3, .int (ri M o 0)), (4, .int 0)]) (hd := dX2_bear_85) (hn := by decide) (hf := rfl) (hl := rfl) ?_
        exact h
  · exact rn_ret dX2_bear_9 rfl ⟨rfl, h⟩
set_option maxRecDepth 20000 in
theorem sg_X2_bear_87 {d : Nat} {o : Nat} {x1 : Int32} {x2 : Int32} {x3 : Int32} {x4 : Int32} {M : Mem} {K : (Mem → Prop)} (ho : kd o = (0, 2)) (h : (if x3 ≤ x4 then (CV d μX2_settle [.ref o] M (fun M1 => K M1)) else (if (x2 >>> (x4 &&& 31)) &&& 1 = 1 then (CV d μX2_addCorner [.ref o, .int ((x2 &&& (((1 : Int32) <<< (x4 &&& 31)) ^^^ ((-1)))) ||| ((1 : Int32) <<< (x3 &&& 31)))] M (fun M2 => RV (d + 1) μX2_bear 87 [(0, .ref o), (1, .int x1), (2, .int x2), (3, .int x3), (4, .int (x4 + 1))] [] M2 K)) else RV (d + 1) μX2_bear 87 [(0, .ref o), (1, .int x1), (2, .int x2), (3, .int x3), (4, .int (x4 + 1))] [] M K))) : RV (d + 1) μX2_bear 87 [(0, .ref o), (1, .int x1), (2, .int x2), (3, .int x3), (4, .int x4)] [] M K := by
  show Rn (d + 1) μX2_bear 87 [(0, .ref o), (1, .int x1), (2, .int x2), (3, .int x3), (4, .int x4)] [] M _
  refine rn_iload (x := x4) dX2_bear_87 (by simp) ?_
  refine rn_iload_n (i := 3) (x := x3) dX2_bear_89 rfl (by simp) ?_
  refine rn_icmp_ge (tgt := 125) dX2_bear_90 (by decide) (ite_go h (fun hc h => ?_) (fun hc h => ?_))
  · refine rn_aload_n (i := 0) (x := o) dX2_bear_125 rfl (by simp) ?_
    refine rn_callVv (as := []) (st := []) dX2_bear_126 mf_X2_settle lk_X2_43 im_X2_settle ho rfl rfl rfl (Nat.le_of_ble_eq_true rfl) (Nat.le_of_ble_eq_true rfl) rfl (RV.mono h (fun M1 h => ?_))
    exact rn_ret dX2_bear_129 rfl ⟨rfl, h⟩
  · refine rn_iload_n (i := 2) (x := x2) dX2_bear_93 rfl (by simp) ?_
    refine rn_iload (x := x4) dX2_bear_94 (by simp) ?_
    refine rn_ishr dX2_bear_96 ?_
    refine rn_iconst (v := 1) dX2_bear_97 rfl ?_
    refine rn_iand dX2_bear_98 ?_
    refine rn_iconst (v := 1) dX2_bear_99 rfl ?_
    refine rn_icmp_ne (tgt := 119) dX2_bear_100 (by decide) (ite_go h (fun hc h => ?_) (fun hc h => ?_))
    · refine rn_aload_n (i := 0) (x := o) dX2_bear_103 rfl (by simp) ?_
      refine rn_iload_n (i := 2) (x := x2) dX2_bear_104 rfl (by simp) ?_
      refine rn_iconst (v := 1) dX2_bear_105 rfl ?_
      refine rn_iload (x := x4) dX2_bear_106 (by simp) ?_
      refine rn_ishl dX2_bear_108 ?_
      refine rn_iconst (v := -1) dX2_bear_109 rfl ?_
      refine rn_ixor dX2_bear_110 ?_
      refine rn_iand dX2_bear_111 ?_
      refine rn_iconst (v := 1) dX2_bear_112 rfl ?_
      refine rn_iload_n (i := 3) (x := x3) dX2_bear_113 rfl (by simp) ?_
      refine rn_ishl dX2_bear_114 ?_
      refine rn_ior dX2_bear_115 ?_
      refine rn_callVv (as := [.int ((x2 &&& (((1 : Int32) <<< (x4 &&& 31)) ^^^ ((-1)))) ||| ((1 : Int32) <<< (x3 &&& 31)))]) (st := []) dX2_bear_116 mf_X2_addCorner lk_X2_58 im_X2_addCorner ho rfl rfl rfl (Nat.le_of_ble_eq_true rfl) (Nat.le_of_ble_eq_true rfl) rfl (RV.mono h (fun M2 h => ?_))
      refine rn_iinc (x := x4) (v := x4 + 1) (lv' := [(0, .ref o), (1, .int x1), (2, .int x2), (3, .int x3), (4, .int (x4 + 1))]) dX2_bear_119 (by simp) rfl (by decide) rfl rfl ?_
      refine rn_goto (tgt := 87) dX2_bear_122 (by decide) ?_
      exact h
    · refine rn_iinc (x := x4) (v := x4 + 1) (lv' := [(0, .ref o), (1, .int x1), (2, .int x2), (3, .int x3), (4, .int (x4 + 1))]) dX2_bear_119 (by simp) rfl (by decide) rfl rfl ?_
      refine rn_goto (tgt := 87) dX2_bear_122 (by decide) ?_
      exact h
theorem dX2_addCorner_0 : decode μX2_addCorner.2.1 0 = .ok (.aload_n 0, 1) := by decide +kernel
theorem dX2_addCorner_1 : decode μX2_addCorner.2.1 1 = .ok (.getfield 24, 3) := by decide +kernel
theorem dX2_addCorner_4 : decode μX2_addCorner.2.1 4 = .ok (.bipush 12, 2) := by decide +kernel
theorem dX2_addCorner_6 : decode μX2_addCorner.2.1 6 = .ok (.if_icmp .ge 23, 3) := by decide +kernel
theorem dX2_addCorner_9 : decode μX2_addCorner.2.1 9 = .ok (.aload_n 0, 1) := by decide +kernel
theorem dX2_addCorner_10 : decode μX2_addCorner.2.1 10 = .ok (.getfield 31, 3) := by decide +kernel
theorem dX2_addCorner_13 : decode μX2_addCorner.2.1 13 = .ok (.aload_n 0, 1) := by decide +kernel
theorem dX2_addCorner_14 : decode μX2_addCorner.2.1 14 = .ok (.getfield 24, 3) := by decide +kernel
theorem dX2_addCorner_17 : decode μX2_addCorner.2.1 17 = .ok (.iload_n 1, 1) := by decide +kernel
theorem dX2_addCorner_18 : decode μX2_addCorner.2.1 18 = .ok (.iastore, 1) := by decide +kernel
theorem dX2_addCorner_19 : decode μX2_addCorner.2.1 19 = .ok (.aload_n 0, 1) := by decide +kernel
theorem dX2_addCorner_20 : decode μX2_addCorner.2.1 20 = .ok (.dup, 1) := by decide +kernel
theorem dX2_addCorner_21 : decode μX2_addCorner.2.1 21 = .ok (.getfield 24, 3) := by decide +kernel
theorem dX2_addCorner_24 : decode μX2_addCorner.2.1 24 = .ok (.iconst 1, 1) := by decide +kernel
theorem dX2_addCorner_25 : decode μX2_addCorner.2.1 25 = .ok (.iadd, 1) := by decide +kernel
theorem dX2_addCorner_26 : decode μX2_addCorner.2.1 26 = .ok (.putfield 24, 3) := by decide +kernel
theorem dX2_addCorner_29 : decode μX2_addCorner.2.1 29 = .ok (.return_, 1) := by decide +kernel
set_option maxRecDepth 20000 in
theorem sg_X2_addCorner_0 {d : Nat} {o : Nat} {x1 : Int32} {M : Mem} {K : (Mem → Prop)} (ho : kd o = (0, 2)) (h : (if 12 ≤ ri M o 4 then K M else (vp_in (ri M o 4) 12 ∧ ∀ M1, M1 = wi M (o + 2) (nx (ri M o 4)) x1 → (∀ M2, M2 = wi M1 o 4 ((ri M1 o 4) + 1) → K M2)))) : CV d μX2_addCorner [.ref o, .int x1] M K := by
  show Rn d μX2_addCorner 0 [(0, .ref o), (1, .int x1)] [] M _
  refine rn_aload_n (i := 0) (x := o) dX2_addCorner_0 rfl (by simp) ?_
  refine rn_geti dX2_addCorner_1 ho gf_X2_24 (by decide) ?_
  refine rn_bipush (v := 12) dX2_addCorner_4 rfl ?_
  refine rn_icmp_ge (tgt := 29) dX2_addCorner_6 (by decide) (ite_go h (fun hc h => ?_) (fun hc h => ?_))
  · exact rn_ret dX2_addCorner_29 rfl ⟨rfl, h⟩
  · refine rn_aload_n (i := 0) (x := o) dX2_addCorner_9 rfl (by simp) ?_
    refine rn_getr (t := o + 2) dX2_addCorner_10 ho gf_X2_31 rfl (froth_refs _ ho).2.1.1 ?_
    refine rn_aload_n (i := 0) (x := o) dX2_addCorner_13 rfl (by simp) ?_
    refine rn_geti dX2_addCorner_14 ho gf_X2_24 (by decide) ?_
    refine rn_iload_n (i := 1) (x := x1) dX2_addCorner_17 rfl (by simp) ?_
    obtain ⟨hi, h⟩ := h
    have h := h _ rfl
    refine rn_iastore dX2_addCorner_18 (froth_refs _ ho).2.1.2 hi ?_
    generalize wi M (o + 2) (nx (ri M o 4)) x1 = M1 at h ⊢
    refine rn_aload_n (i := 0) (x := o) dX2_addCorner_19 rfl (by simp) ?_
    refine rn_dup dX2_addCorner_20 rfl ?_
    refine rn_geti dX2_addCorner_21 ho gf_X2_24 (by decide) ?_
    refine rn_iconst (v := 1) dX2_addCorner_24 rfl ?_
    refine rn_iadd dX2_addCorner_25 ?_
    have h := h _ rfl
    refine rn_puti dX2_addCorner_26 ho pf_X2_24 (by decide) rfl rfl ?_
    generalize wi M1 o 4 ((ri M1 o 4) + 1) = M2 at h ⊢
    exact rn_ret dX2_addCorner_29 rfl ⟨rfl, h⟩
theorem dX2_dropOneCorner_0 : decode μX2_dropOneCorner.2.1 0 = .ok (.iconst 0, 1) := by decide +kernel
theorem dX2_dropOneCorner_1 : decode μX2_dropOneCorner.2.1 1 = .ok (.istore_n 2, 1) := by decide +kernel
theorem dX2_dropOneCorner_2 : decode μX2_dropOneCorner.2.1 2 = .ok (.iload_n 2, 1) := by decide +kernel
theorem dX2_dropOneCorner_3 : decode μX2_dropOneCorner.2.1 3 = .ok (.aload_n 0, 1) := by decide +kernel
theorem dX2_dropOneCorner_4 : decode μX2_dropOneCorner.2.1 4 = .ok (.getfield 24, 3) := by decide +kernel
theorem dX2_dropOneCorner_7 : decode μX2_dropOneCorner.2.1 7 = .ok (.if_icmp .ge 45, 3) := by decide +kernel
theorem dX2_dropOneCorner_10 : decode μX2_dropOneCorner.2.1 10 = .ok (.aload_n 0, 1) := by decide +kernel
theorem dX2_dropOneCorner_11 : decode μX2_dropOneCorner.2.1 11 = .ok (.getfield 31, 3) := by decide +kernel
theorem dX2_dropOneCorner_14 : decode μX2_dropOneCorner.2.1 14 = .ok (.iload_n 2, 1) := by decide +kernel
theorem dX2_dropOneCorner_15 : decode μX2_dropOneCorner.2.1 15 = .ok (.iaload, 1) := by decide +kernel
theorem dX2_dropOneCorner_16 : decode μX2_dropOneCorner.2.1 16 = .ok (.iload_n 1, 1) := by decide +kernel
theorem dX2_dropOneCorner_17 : decode μX2_dropOneCorner.2.1 17 = .ok (.if_icmp .ne 29, 3) := by decide +kernel
theorem dX2_dropOneCorner_20 : decode μX2_dropOneCorner.2.1 20 = .ok (.aload_n 0, 1) := by decide +kernel
theorem dX2_dropOneCorner_21 : decode μX2_dropOneCorner.2.1 21 = .ok (.dup, 1) := by decide +kernel
theorem dX2_dropOneCorner_22 : decode μX2_dropOneCorner.2.1 22 = .ok (.getfield 24, 3) := by decide +kernel
theorem dX2_dropOneCorner_25 : decode μX2_dropOneCorner.2.1 25 = .ok (.iconst 1, 1) := by decide +kernel
theorem dX2_dropOneCorner_26 : decode μX2_dropOneCorner.2.1 26 = .ok (.isub, 1) := by decide +kernel
theorem dX2_dropOneCorner_27 : decode μX2_dropOneCorner.2.1 27 = .ok (.putfield 24, 3) := by decide +kernel
theorem dX2_dropOneCorner_30 : decode μX2_dropOneCorner.2.1 30 = .ok (.aload_n 0, 1) := by decide +kernel
theorem dX2_dropOneCorner_31 : decode μX2_dropOneCorner.2.1 31 = .ok (.getfield 31, 3) := by decide +kernel
theorem dX2_dropOneCorner_34 : decode μX2_dropOneCorner.2.1 34 = .ok (.iload_n 2, 1) := by decide +kernel
theorem dX2_dropOneCorner_35 : decode μX2_dropOneCorner.2.1 35 = .ok (.aload_n 0, 1) := by decide +kernel
theorem dX2_dropOneCorner_36 : decode μX2_dropOneCorner.2.1 36 = .ok (.getfield 31, 3) := by decide +kernel
theorem dX2_dropOneCorner_39 : decode μX2_dropOneCorner.2.1 39 = .ok (.aload_n 0, 1) := by decide +kernel
theorem dX2_dropOneCorner_40 : decode μX2_dropOneCorner.2.1 40 = .ok (.getfield 24, 3) := by decide +kernel
theorem dX2_dropOneCorner_43 : decode μX2_dropOneCorner.2.1 43 = .ok (.iaload, 1) := by decide +kernel
theorem dX2_dropOneCorner_44 : decode μX2_dropOneCorner.2.1 44 = .ok (.iastore, 1) := by decide +kernel
theorem dX2_dropOneCorner_45 : decode μX2_dropOneCorner.2.1 45 = .ok (.return_, 1) := by decide +kernel
theorem dX2_dropOneCorner_46 : decode μX2_dropOneCorner.2.1 46 = .ok (.iinc 2 1, 3) := by decide +kernel
theorem dX2_dropOneCorner_49 : decode μX2_dropOneCorner.2.1 49 = .ok (.goto (-47), 3) := by decide +kernel
theorem dX2_dropOneCorner_52 : decode μX2_dropOneCorner.2.1 52 = .ok (.return_, 1) := by decide +kernel
set_option maxRecDepth 20000 in
theorem sg_X2_dropOneCorner_0 {d : Nat} {o : Nat} {x1 : Int32} {M : Mem} {K : (Mem → Prop)} (ho : kd o = (0, 2)) (h : RV d μX2_dropOneCorner 2 [(0, .ref o), (1, .int x1), (2, .int 0)] [] M K) : CV d μX2_dropOneCorner [.ref o, .int x1] M K := by
  show Rn d μX2_dropOneCorner 0 [(0, .ref o), (1, .int x1)] [] M _
  refine rn_iconst (v := 0) dX2_dropOneCorner_0 rfl ?_
  refine rn_istore_n (lv' := [(0, .ref o), (1, .int x1), (2, .int 0)]) (hd := dX2_dropOneCorner_1) (i := 2) (hi := rfl) (hn := by decide) (hf := rfl) (hl := rfl) ?_
  exact h
set_option maxRecDepth 20000 in
theorem sg_X2_dropOneCorner_2 {d : Nat} {o : Nat} {x1 : Int32} {x2 : Int32} {M : Mem} {K : (Mem → Prop)} (ho : kd o = (0, 2)) (h : (if ri M o 4 ≤ x2 then K M else (vp_in x2 12 ∧ (if ri M (o + 2) (nx x2) = x1 then (∀ M1, M1 = wi M o 4 ((ri M o 4) - 1) → (vp_in (ri M1 o 4) 12 ∧ (vp_in x2 12 ∧ ∀ M2, M2 = wi M1 (o + 2) (nx x2) (ri M1 (o + 2) (nx (ri M1 o 4))) → K M2))) else RV d μX2_dropOneCorner 2 [(0, .ref o), (1, .int x1), (2, .int (x2 + 1))] [] M K)))) : RV d μX2_dropOneCorner 2 [(0, .ref o), (1, .int x1), (2, .int x2)] [] M K := by
  show Rn d μX2_dropOneCorner 2 [(0, .ref o), (1, .int x1), (2, .int x2)] [] M _
  refine rn_iload_n (i := 2) (x := x2) dX2_dropOneCorner_2 rfl (by simp) ?_
  refine rn_aload_n (i := 0) (x := o) dX2_dropOneCorner_3 rfl (by simp) ?_
  refine rn_geti dX2_dropOneCorner_4 ho gf_X2_24 (by decide) ?_
  refine rn_icmp_ge (tgt := 52) dX2_dropOneCorner_7 (by decide) (ite_go h (fun hc h => ?_) (fun hc h => ?_))
  · exact rn_ret dX2_dropOneCorner_52 rfl ⟨rfl, h⟩
  · refine rn_aload_n (i := 0) (x := o) dX2_dropOneCorner_10 rfl (by simp) ?_
    refine rn_getr (t := o + 2) dX2_dropOneCorner_11 ho gf_X2_31 rfl (froth_refs _ ho).2.1.1 ?_
    refine rn_iload_n (i := 2) (x := x2) dX2_dropOneCorner_14 rfl (by simp) ?_
    obtain ⟨hi, h⟩ := h
    refine rn_iaload dX2_dropOneCorner_15 (froth_refs _ ho).2.1.2 hi ?_
    refine rn_iload_n (i := 1) (x := x1) dX2_dropOneCorner_16 rfl (by simp) ?_
    refine rn_icmp_ne (tgt := 46) dX2_dropOneCorner_17 (by decide) (ite_go h (fun hc h => ?_) (fun hc h => ?_))
    · refine rn_aload_n (i := 0) (x := o) dX2_dropOneCorner_20 rfl (by simp) ?_
      refine rn_dup dX2_dropOneCorner_21 rfl ?_
      refine rn_geti dX2_dropOneCorner_22 ho gf_X2_24 (by decide) ?_
      refine rn_iconst (v := 1) dX2_dropOneCorner_25 rfl ?_
      refine rn_isub dX2_dropOneCorner_26 ?_
      have h := h _ rfl
      refine rn_puti dX2_dropOneCorner_27 ho pf_X2_24 (by decide) rfl rfl ?_
      generalize wi M o 4 ((ri M o 4) - 1) = M1 at h ⊢
      refine rn_aload_n (i := 0) (x := o) dX2_dropOneCorner_30 rfl (by simp) ?_
      refine rn_getr (t := o + 2) dX2_dropOneCorner_31 ho gf_X2_31 rfl (froth_refs _ ho).2.1.1 ?_
      refine rn_iload_n (i := 2) (x := x2) dX2_dropOneCorner_34 rfl (by simp) ?_
      refine rn_aload_n (i := 0) (x := o) dX2_dropOneCorner_35 rfl (by simp) ?_
      refine rn_getr (t := o + 2) dX2_dropOneCorner_36 ho gf_X2_31 rfl (froth_refs _ ho).2.1.1 ?_
      refine rn_aload_n (i := 0) (x := o) dX2_dropOneCorner_39 rfl (by simp) ?_
      refine rn_geti dX2_dropOneCorner_40 ho gf_X2_24 (by decide) ?_
      obtain ⟨hi, h⟩ := h
      refine rn_iaload dX2_dropOneCorner_43 (froth_refs _ ho).2.1.2 hi ?_
      obtain ⟨hi, h⟩ := h
      have h := h _ rfl
      refine rn_iastore dX2_dropOneCorner_44 (froth_refs _ ho).2.1.2 hi ?_
      generalize wi M1 (o + 2) (nx x2) (ri M1 (o + 2) (nx (ri M1 o 4))) = M2 at h ⊢
      exact rn_ret dX2_dropOneCorner_45 rfl ⟨rfl, h⟩
    · refine rn_iinc (x := x2) (v := x2 + 1) (lv' := [(0, .ref o), (1, .int x1), (2, .int (x2 + 1))]) dX2_dropOneCorner_46 (by simp) rfl (by decide) rfl rfl ?_
      refine rn_goto (tgt := 2) dX2_dropOneCorner_49 (by decide) ?_
      exact h
theorem dX2_dropCornersOf_0 : decode μX2_dropCornersOf.2.1 0 = .ok (.iconst 0, 1) := by decide +kernel
theorem dX2_dropCornersOf_1 : decode μX2_dropCornersOf.2.1 1 = .ok (.istore_n 2, 1) := by decide +kernel
theorem dX2_dropCornersOf_2 : decode μX2_dropCornersOf.2.1 2 = .ok (.iconst 0, 1) := by decide +kernel
theorem dX2_dropCornersOf_3 : decode μX2_dropCornersOf.2.1 3 = .ok (.istore_n 3, 1) := by decide +kernel
theorem dX2_dropCornersOf_4 : decode μX2_dropCornersOf.2.1 4 = .ok (.iload_n 3, 1) := by decide +kernel
theorem dX2_dropCornersOf_5 : decode μX2_dropCornersOf.2.1 5 = .ok (.aload_n 0, 1) := by decide +kernel
theorem dX2_dropCornersOf_6 : decode μX2_dropCornersOf.2.1 6 = .ok (.getfield 24, 3) := by decide +kernel
theorem dX2_dropCornersOf_9 : decode μX2_dropCornersOf.2.1 9 = .ok (.if_icmp .ge 36, 3) := by decide +kernel
theorem dX2_dropCornersOf_12 : decode μX2_dropCornersOf.2.1 12 = .ok (.aload_n 0, 1) := by decide +kernel
theorem dX2_dropCornersOf_13 : decode μX2_dropCornersOf.2.1 13 = .ok (.getfield 31, 3) := by decide +kernel
theorem dX2_dropCornersOf_16 : decode μX2_dropCornersOf.2.1 16 = .ok (.iload_n 3, 1) := by decide +kernel
theorem dX2_dropCornersOf_17 : decode μX2_dropCornersOf.2.1 17 = .ok (.iaload, 1) := by decide +kernel
theorem dX2_dropCornersOf_18 : decode μX2_dropCornersOf.2.1 18 = .ok (.iload_n 1, 1) := by decide +kernel
theorem dX2_dropCornersOf_19 : decode μX2_dropCornersOf.2.1 19 = .ok (.iand, 1) := by decide +kernel
theorem dX2_dropCornersOf_20 : decode μX2_dropCornersOf.2.1 20 = .ok (.iload_n 1, 1) := by decide +kernel
theorem dX2_dropCornersOf_21 : decode μX2_dropCornersOf.2.1 21 = .ok (.if_icmp .eq 18, 3) := by decide +kernel
theorem dX2_dropCornersOf_24 : decode μX2_dropCornersOf.2.1 24 = .ok (.aload_n 0, 1) := by decide +kernel
theorem dX2_dropCornersOf_25 : decode μX2_dropCornersOf.2.1 25 = .ok (.getfield 31, 3) := by decide +kernel
theorem dX2_dropCornersOf_28 : decode μX2_dropCornersOf.2.1 28 = .ok (.iload_n 2, 1) := by decide +kernel
theorem dX2_dropCornersOf_29 : decode μX2_dropCornersOf.2.1 29 = .ok (.aload_n 0, 1) := by decide +kernel
theorem dX2_dropCornersOf_30 : decode μX2_dropCornersOf.2.1 30 = .ok (.getfield 31, 3) := by decide +kernel
theorem dX2_dropCornersOf_33 : decode μX2_dropCornersOf.2.1 33 = .ok (.iload_n 3, 1) := by decide +kernel
theorem dX2_dropCornersOf_34 : decode μX2_dropCornersOf.2.1 34 = .ok (.iaload, 1) := by decide +kernel
theorem dX2_dropCornersOf_35 : decode μX2_dropCornersOf.2.1 35 = .ok (.iastore, 1) := by decide +kernel
theorem dX2_dropCornersOf_36 : decode μX2_dropCornersOf.2.1 36 = .ok (.iinc 2 1, 3) := by decide +kernel
theorem dX2_dropCornersOf_39 : decode μX2_dropCornersOf.2.1 39 = .ok (.iinc 3 1, 3) := by decide +kernel
theorem dX2_dropCornersOf_42 : decode μX2_dropCornersOf.2.1 42 = .ok (.goto (-38), 3) := by decide +kernel
theorem dX2_dropCornersOf_45 : decode μX2_dropCornersOf.2.1 45 = .ok (.aload_n 0, 1) := by decide +kernel
theorem dX2_dropCornersOf_46 : decode μX2_dropCornersOf.2.1 46 = .ok (.iload_n 2, 1) := by decide +kernel
theorem dX2_dropCornersOf_47 : decode μX2_dropCornersOf.2.1 47 = .ok (.putfield 24, 3) := by decide +kernel
theorem dX2_dropCornersOf_50 : decode μX2_dropCornersOf.2.1 50 = .ok (.return_, 1) := by decide +kernel
set_option maxRecDepth 20000 in
theorem sg_X2_dropCornersOf_0 {d : Nat} {o : Nat} {x1 : Int32} {M : Mem} {K : (Mem → Prop)} (ho : kd o = (0, 2)) (h : RV d μX2_dropCornersOf 4 [(0, .ref o), (1, .int x1), (2, .int 0), (3, .int 0)] [] M K) : CV d μX2_dropCornersOf [.ref o, .int x1] M K := by
  show Rn d μX2_dropCornersOf 0 [(0, .ref o), (1, .int x1)] [] M _
  refine rn_iconst (v := 0) dX2_dropCornersOf_0 rfl ?_
  refine rn_istore_n (lv' := [(0, .ref o), (1, .int x1), (2, .int 0)]) (hd := dX2_dropCornersOf_1) (i := 2) (hi := rfl) (hn := by decide) (hf := rfl) (hl := rfl) ?_
  refine rn_iconst (v := 0) dX2_dropCornersOf_2 rfl ?_
  refine rn_istore_n (lv' := [(0, .ref o), (1, .int x1), (2, .int 0), (3, .int 0)]) (hd := dX2_dropCornersOf_3) (i := 3) (hi := rfl) (hn := by decide) (hf := rfl) (hl := rfl) ?_
  exact h
set_option maxRecDepth 20000 in
theorem sg_X2_dropCornersOf_4 {d : Nat} {o : Nat} {x1 : Int32} {x2 : Int32} {x3 : Int32} {M : Mem} {K : (Mem → Prop)} (ho : kd o = (0, 2)) (h : (if ri M o 4 ≤ x3 then (∀ M1, M1 = wi M o 4 x2 → K M1) else (vp_in x3 12 ∧ (if (ri M (o + 2) (nx x3)) &&& x1 = x1 then RV d μX2_dropCornersOf 4 [(0, .ref o), (1, .int x1), (2, .int x2), (3, .int (x3 + 1))] [] M K else (vp_in x3 12 ∧ (vp_in x2 12 ∧ ∀ M2, M2 = wi M (o + 2) (nx x2) (ri M (o + 2) (nx x3)) → RV d μX2_dropCornersOf 4 [(0, .ref o), (1, .int x1), (2, .int (x2 + 1)), (3, .int (x3 + 1))] [] M2 K)))))) : RV d μX2_dropCornersOf 4 [(0, .ref o), (1, .int x1), (2, .int x2), (3, .int x3)] [] M K := by
  show Rn d μX2_dropCornersOf 4 [(0, .ref o), (1, .int x1), (2, .int x2), (3, .int x3)] [] M _
  refine rn_iload_n (i := 3) (x := x3) dX2_dropCornersOf_4 rfl (by simp) ?_
  refine rn_aload_n (i := 0) (x := o) dX2_dropCornersOf_5 rfl (by simp) ?_
  refine rn_geti dX2_dropCornersOf_6 ho gf_X2_24 (by decide) ?_
  refine rn_icmp_ge (tgt := 45) dX2_dropCornersOf_9 (by decide) (ite_go h (fun hc h => ?_) (fun hc h => ?_))
  · refine rn_aload_n (i := 0) (x := o) dX2_dropCornersOf_45 rfl (by simp) ?_
    refine rn_iload_n (i := 2) (x := x2) dX2_dropCornersOf_46 rfl (by simp) ?_
    have h := h _ rfl
    refine rn_puti dX2_dropCornersOf_47 ho pf_X2_24 (by decide) rfl rfl ?_
    generalize wi M o 4 x2 = M1 at h ⊢
    exact rn_ret dX2_dropCornersOf_50 rfl ⟨rfl, h⟩
  · refine rn_aload_n (i := 0) (x := o) dX2_dropCornersOf_12 rfl (by simp) ?_
    refine rn_getr (t := o + 2) dX2_dropCornersOf_13 ho gf_X2_31 rfl (froth_refs _ ho).2.1.1 ?_
    refine rn_iload_n (i := 3) (x := x3) dX2_dropCornersOf_16 rfl (by simp) ?_
    obtain ⟨hi, h⟩ := h
    refine rn_iaload dX2_dropCornersOf_17 (froth_refs _ ho).2.1.2 hi ?_
    refine rn_iload_n (i := 1) (x := x1) dX2_dropCornersOf_18 rfl (by simp) ?_
    refine rn_iand dX2_dropCornersOf_19 ?_
    refine rn_iload_n (i := 1) (x := x1) dX2_dropCornersOf_20 rfl (by simp) ?_
    refine rn_icmp_eq (tgt := 39) dX2_dropCornersOf_21 (by decide) (ite_go h (fun hc h => ?_) (fun hc h => ?_))
    · refine rn_iinc (x := x3) (v := x3 + 1) (lv' := [(0, .ref o), (1, .int x1), (2, .int x2), (3, .int (x3 + 1))]) dX2_dropCornersOf_39 (by simp) rfl (by decide) rfl rfl ?_
      refine rn_goto (tgt := 4) dX2_dropCornersOf_42 (by decide) ?_
      exact h
    · refine rn_aload_n (i := 0) (x := o) dX2_dropCornersOf_24 rfl (by simp) ?_
      refine rn_getr (t := o + 2) dX2_dropCornersOf_25 ho gf_X2_31 rfl (froth_refs _ ho).2.1.1 ?_
      refine rn_iload_n (i := 2) (x := x2) dX2_dropCornersOf_28 rfl (by simp) ?_
      refine rn_aload_n (i := 0) (x := o) dX2_dropCornersOf_29 rfl (by simp) ?_
      refine rn_getr (t := o + 2) dX2_dropCornersOf_30 ho gf_X2_31 rfl (froth_refs _ ho).2.1.1 ?_
      refine rn_iload_n (i := 3) (x := x3) dX2_dropCornersOf_33 rfl (by simp) ?_
      obtain ⟨hi, h⟩ := h
      refine rn_iaload dX2_dropCornersOf_34 (froth_refs _ ho).2.1.2 hi ?_
      obtain ⟨hi, h⟩ := h
      have h := h _ rfl
      refine rn_iastore dX2_dropCornersOf_35 (froth_refs _ ho).2.1.2 hi ?_
      generalize wi M (o + 2) (nx x2) (ri M (o + 2) (nx x3)) = M2 at h ⊢
      refine rn_iinc (x := x2) (v := x2 + 1) (lv' := [(0, .ref o), (1, .int x1), (2, .int (x2 + 1)), (3, .int x3)]) dX2_dropCornersOf_36 (by simp) rfl (by decide) rfl rfl ?_
      refine rn_iinc (x := x3) (v := x3 + 1) (lv' := [(0, .ref o), (1, .int x1), (2, .int (x2 + 1)), (3, .int (x3 + 1))]) dX2_dropCornersOf_39 (by simp) rfl (by decide) rfl rfl ?_
      refine rn_goto (tgt := 4) dX2_dropCornersOf_42 (by decide) ?_
      exact h
theorem dX2_settle_0 : decode μX2_settle.2.1 0 = .ok (.iconst 1, 1) := by decide +kernel
theorem dX2_settle_1 : decode μX2_settle.2.1 1 = .ok (.istore_n 1, 1) := by decide +kernel
theorem dX2_settle_2 : decode μX2_settle.2.1 2 = .ok (.iload_n 1, 1) := by decide +kernel
theorem dX2_settle_3 : decode μX2_settle.2.1 3 = .ok (.aload_n 0, 1) := by decide +kernel
theorem dX2_settle_4 : decode μX2_settle.2.1 4 = .ok (.getfield 24, 3) := by decide +kernel
theorem dX2_settle_7 : decode μX2_settle.2.1 7 = .ok (.if_icmp .ge 74, 3) := by decide +kernel
theorem dX2_settle_10 : decode μX2_settle.2.1 10 = .ok (.aload_n 0, 1) := by decide +kernel
theorem dX2_settle_11 : decode μX2_settle.2.1 11 = .ok (.getfield 31, 3) := by decide +kernel
theorem dX2_settle_14 : decode μX2_settle.2.1 14 = .ok (.iload_n 1, 1) := by decide +kernel
theorem dX2_settle_15 : decode μX2_settle.2.1 15 = .ok (.iaload, 1) := by decide +kernel
theorem dX2_settle_16 : decode μX2_settle.2.1 16 = .ok (.istore_n 2, 1) := by decide +kernel
theorem dX2_settle_17 : decode μX2_settle.2.1 17 = .ok (.iload_n 1, 1) := by decide +kernel
theorem dX2_settle_18 : decode μX2_settle.2.1 18 = .ok (.istore_n 3, 1) := by decide +kernel
theorem dX2_settle_19 : decode μX2_settle.2.1 19 = .ok (.iload_n 1, 1) := by decide +kernel
theorem dX2_settle_20 : decode μX2_settle.2.1 20 = .ok (.iconst 1, 1) := by decide +kernel
theorem dX2_settle_21 : decode μX2_settle.2.1 21 = .ok (.isub, 1) := by decide +kernel
theorem dX2_settle_22 : decode μX2_settle.2.1 22 = .ok (.istore 4, 2) := by decide +kernel
theorem dX2_settle_24 : decode μX2_settle.2.1 24 = .ok (.iload 4, 2) := by decide +kernel
theorem dX2_settle_26 : decode μX2_settle.2.1 26 = .ok (.ifCond .lt 42, 3) := by decide +kernel
theorem dX2_settle_29 : decode μX2_settle.2.1 29 = .ok (.iload_n 2, 1) := by decide +kernel
theorem dX2_settle_30 : decode μX2_settle.2.1 30 = .ok (.aload_n 0, 1) := by decide +kernel
theorem dX2_settle_31 : decode μX2_settle.2.1 31 = .ok (.getfield 31, 3) := by decide +kernel
theorem dX2_settle_34 : decode μX2_settle.2.1 34 = .ok (.iload 4, 2) := by decide +kernel
theorem dX2_settle_36 : decode μX2_settle.2.1 36 = .ok (.iaload, 1) := by decide +kernel
theorem dX2_settle_37 : decode μX2_settle.2.1 37 = .ok (.invokestatic 65, 3) := by decide +kernel
theorem dX2_settle_40 : decode μX2_settle.2.1 40 = .ok (.ifCond .eq 28, 3) := by decide +kernel
theorem dX2_settle_43 : decode μX2_settle.2.1 43 = .ok (.aload_n 0, 1) := by decide +kernel
theorem dX2_settle_44 : decode μX2_settle.2.1 44 = .ok (.getfield 31, 3) := by decide +kernel
theorem dX2_settle_47 : decode μX2_settle.2.1 47 = .ok (.iload 4, 2) := by decide +kernel
theorem dX2_settle_49 : decode μX2_settle.2.1 49 = .ok (.iconst 1, 1) := by decide +kernel
theorem dX2_settle_50 : decode μX2_settle.2.1 50 = .ok (.iadd, 1) := by decide +kernel
theorem dX2_settle_51 : decode μX2_settle.2.1 51 = .ok (.aload_n 0, 1) := by decide +kernel
theorem dX2_settle_52 : decode μX2_settle.2.1 52 = .ok (.getfield 31, 3) := by decide +kernel
theorem dX2_settle_55 : decode μX2_settle.2.1 55 = .ok (.iload 4, 2) := by decide +kernel
theorem dX2_settle_57 : decode μX2_settle.2.1 57 = .ok (.iaload, 1) := by decide +kernel
theorem dX2_settle_58 : decode μX2_settle.2.1 58 = .ok (.iastore, 1) := by decide +kernel
theorem dX2_settle_59 : decode μX2_settle.2.1 59 = .ok (.iload 4, 2) := by decide +kernel
theorem dX2_settle_61 : decode μX2_settle.2.1 61 = .ok (.istore_n 3, 1) := by decide +kernel
theorem dX2_settle_62 : decode μX2_settle.2.1 62 = .ok (.iinc 4 (-1), 3) := by decide +kernel
theorem dX2_settle_65 : decode μX2_settle.2.1 65 = .ok (.goto (-41), 3) := by decide +kernel
theorem dX2_settle_68 : decode μX2_settle.2.1 68 = .ok (.aload_n 0, 1) := by decide +kernel
theorem dX2_settle_69 : decode μX2_settle.2.1 69 = .ok (.getfield 31, 3) := by decide +kernel
theorem dX2_settle_72 : decode μX2_settle.2.1 72 = .ok (.iload_n 3, 1) := by decide +kernel
theorem dX2_settle_73 : decode μX2_settle.2.1 73 = .ok (.iload_n 2, 1) := by decide +kernel
theorem dX2_settle_74 : decode μX2_settle.2.1 74 = .ok (.iastore, 1) := by decide +kernel
theorem dX2_settle_75 : decode μX2_settle.2.1 75 = .ok (.iinc 1 1, 3) := by decide +kernel
theorem dX2_settle_78 : decode μX2_settle.2.1 78 = .ok (.goto (-76), 3) := by decide +kernel
theorem dX2_settle_81 : decode μX2_settle.2.1 81 = .ok (.iconst 0, 1) := by decide +kernel
theorem dX2_settle_82 : decode μX2_settle.2.1 82 = .ok (.istore_n 1, 1) := by decide +kernel
theorem dX2_settle_83 : decode μX2_settle.2.1 83 = .ok (.iload_n 1, 1) := by decide +kernel
theorem dX2_settle_84 : decode μX2_settle.2.1 84 = .ok (.bipush 8, 2) := by decide +kernel
theorem dX2_settle_86 : decode μX2_settle.2.1 86 = .ok (.if_icmp .ge 80, 3) := by decide +kernel
theorem dX2_settle_89 : decode μX2_settle.2.1 89 = .ok (.iconst 1, 1) := by decide +kernel
theorem dX2_settle_90 : decode μX2_settle.2.1 90 = .ok (.iload_n 1, 1) := by decide +kernel
theorem dX2_settle_91 : decode μX2_settle.2.1 91 = .ok (.ishl, 1) := by decide +kernel
theorem dX2_settle_92 : decode μX2_settle.2.1 92 = .ok (.istore_n 2, 1) := by decide +kernel
theorem dX2_settle_93 : decode μX2_settle.2.1 93 = .ok (.iconst 0, 1) := by decide +kernel
theorem dX2_settle_94 : decode μX2_settle.2.1 94 = .ok (.istore_n 3, 1) := by decide +kernel
theorem dX2_settle_95 : decode μX2_settle.2.1 95 = .ok (.iconst 0, 1) := by decide +kernel
theorem dX2_settle_96 : decode μX2_settle.2.1 96 = .ok (.istore 4, 2) := by decide +kernel
theorem dX2_settle_98 : decode μX2_settle.2.1 98 = .ok (.iconst 0, 1) := by decide +kernel
theorem dX2_settle_99 : decode μX2_settle.2.1 99 = .ok (.istore 5, 2) := by decide +kernel
theorem dX2_settle_101 : decode μX2_settle.2.1 101 = .ok (.iload 5, 2) := by decide +kernel
theorem dX2_settle_103 : decode μX2_settle.2.1 103 = .ok (.aload_n 0, 1) := by decide +kernel
theorem dX2_settle_104 : decode μX2_settle.2.1 104 = .ok (.getfield 24, 3) := by decide +kernel
theorem dX2_settle_107 : decode μX2_settle.2.1 107 = .ok (.if_icmp .ge 34, 3) := by decide +kernel
theorem dX2_settle_110 : decode μX2_settle.2.1 110 = .ok (.aload_n 0, 1) := by decide +kernel
theorem dX2_settle_111 : decode μX2_settle.2.1 111 = .ok (.getfield 31, 3) := by decide +kernel
theorem dX2_settle_114 : decode μX2_settle.2.1 114 = .ok (.iload 5, 2) := by decide +kernel
theorem dX2_settle_116 : decode μX2_settle.2.1 116 = .ok (.iaload, 1) := by decide +kernel
theorem dX2_settle_117 : decode μX2_settle.2.1 117 = .ok (.iload_n 2, 1) := by decide +kernel
theorem dX2_settle_118 : decode μX2_settle.2.1 118 = .ok (.iand, 1) := by decide +kernel
theorem dX2_settle_119 : decode μX2_settle.2.1 119 = .ok (.ifCond .eq 16, 3) := by decide +kernel
theorem dX2_settle_122 : decode μX2_settle.2.1 122 = .ok (.iload_n 3, 1) := by decide +kernel
theorem dX2_settle_123 : decode μX2_settle.2.1 123 = .ok (.aload_n 0, 1) := by decide +kernel
theorem dX2_settle_124 : decode μX2_settle.2.1 124 = .ok (.getfield 31, 3) := by decide +kernel
theorem dX2_settle_127 : decode μX2_settle.2.1 127 = .ok (.iload 5, 2) := by decide +kernel
theorem dX2_settle_129 : decode μX2_settle.2.1 129 = .ok (.iaload, 1) := by decide +kernel
theorem dX2_settle_130 : decode μX2_settle.2.1 130 = .ok (.ior, 1) := by decide +kernel
theorem dX2_settle_131 : decode μX2_settle.2.1 131 = .ok (.istore_n 3, 1) := by decide +kernel
theorem dX2_settle_132 : decode μX2_settle.2.1 132 = .ok (.iinc 4 1, 3) := by decide +kernel
theorem dX2_settle_135 : decode μX2_settle.2.1 135 = .ok (.iinc 5 1, 3) := by decide +kernel
theorem dX2_settle_138 : decode μX2_settle.2.1 138 = .ok (.goto (-37), 3) := by decide +kernel
theorem dX2_settle_141 : decode μX2_settle.2.1 141 = .ok (.aload_n 0, 1) := by decide +kernel
theorem dX2_settle_142 : decode μX2_settle.2.1 142 = .ok (.getfield 34, 3) := by decide +kernel
theorem dX2_settle_145 : decode μX2_settle.2.1 145 = .ok (.iload_n 1, 1) := by decide +kernel
theorem dX2_settle_146 : decode μX2_settle.2.1 146 = .ok (.iload_n 3, 1) := by decide +kernel
theorem dX2_settle_147 : decode μX2_settle.2.1 147 = .ok (.iload_n 2, 1) := by decide +kernel
theorem dX2_settle_148 : decode μX2_settle.2.1 148 = .ok (.iconst (-1), 1) := by decide +kernel
theorem dX2_settle_149 : decode μX2_settle.2.1 149 = .ok (.ixor, 1) := by decide +kernel
theorem dX2_settle_150 : decode μX2_settle.2.1 150 = .ok (.iand, 1) := by decide +kernel
theorem dX2_settle_151 : decode μX2_settle.2.1 151 = .ok (.iastore, 1) := by decide +kernel
theorem dX2_settle_152 : decode μX2_settle.2.1 152 = .ok (.aload_n 0, 1) := by decide +kernel
theorem dX2_settle_153 : decode μX2_settle.2.1 153 = .ok (.getfield 37, 3) := by decide +kernel
theorem dX2_settle_156 : decode μX2_settle.2.1 156 = .ok (.iload_n 1, 1) := by decide +kernel
theorem dX2_settle_157 : decode μX2_settle.2.1 157 = .ok (.iload 4, 2) := by decide +kernel
theorem dX2_settle_159 : decode μX2_settle.2.1 159 = .ok (.iastore, 1) := by decide +kernel
theorem dX2_settle_160 : decode μX2_settle.2.1 160 = .ok (.iinc 1 1, 3) := by decide +kernel
theorem dX2_settle_163 : decode μX2_settle.2.1 163 = .ok (.goto (-80), 3) := by decide +kernel
theorem dX2_settle_166 : decode μX2_settle.2.1 166 = .ok (.return_, 1) := by decide +kernel
set_option maxRecDepth 20000 in
theorem sg_X2_settle_0 {d : Nat} {o : Nat} {M : Mem} {K : (Mem → Prop)} (ho : kd o = (0, 2)) (h : RV (d + 1) μX2_settle 2 [(0, .ref o), (1, .int 1)] [] M K) : CV (d + 1) μX2_settle [.ref o] M K := by
  show Rn (d + 1) μX2_settle 0 [(0, .ref o)] [] M _
  refine rn_iconst (v := 1) dX2_settle_0 rfl ?_
  refine rn_istore_n (lv' := [(0, .ref o), (1, .int 1)]) (hd := dX2_settle_1) (i := 1) (hi := rfl) (hn := by decide) (hf := rfl) (hl := rfl) ?_
  exact h
set_option maxRecDepth 20000 in
theorem sg_X2_settle_2 {d : Nat} {o : Nat} {x1 : Int32} {M : Mem} {K : (Mem → Prop)} (ho : kd o = (0, 2)) (h : (if ri M o 4 ≤ x1 then RV (d + 1) μX2_settle 83 [(0, .ref o), (1, .int 0)] [] M K else (vp_in x1 12 ∧ RV (d + 1) μX2_settle 24 [(0, .ref o), (1, .int x1), (2, .int (ri M (o + 2) (nx x1))), (3, .int x1), (4, .int (x1 - 1))] [] M K))) : RV (d + 1) μX2_settle 2 [(0, .ref o), (1, .int x1)] [] M K := by
  show Rn (d + 1) μX2_settle 2 [(0, .ref o), (1, .int x1)] [] M _
  refine rn_iload_n (i := 1) (x := x1) dX2_settle_2 rfl (by simp) ?_
  refine rn_aload_n (i := 0) (x := o) dX2_settle_3 rfl (by simp) ?_
  refine rn_geti dX2_settle_4 ho gf_X2_24 (by decide) ?_
  refine rn_icmp_ge (tgt := 81) dX2_settle_7 (by decide) (ite_go h (fun hc h => ?_) (fun hc h => ?_))
  · refine rn_iconst (v := 0) dX2_settle_81 rfl ?_
    refine rn_istore_n (lv' := [(0, .ref o), (1, .int 0)]) (hd := dX2_settle_82) (i := 1) (hi := rfl) (hn := by decide) (hf := rfl) (hl := rfl) ?_
    exact h
  · refine rn_aload_n (i := 0) (x := o) dX2_settle_10 rfl (by simp) ?_
    refine rn_getr (t := o + 2) dX2_settle_11 ho gf_X2_31 rfl (froth_refs _ ho).2.1.1 ?_
    refine rn_iload_n (i := 1) (x := x1) dX2_settle_14 rfl (by simp) ?_
    obtain ⟨hi, h⟩ := h
    refine rn_iaload dX2_settle_15 (froth_refs _ ho).2.1.2 hi ?_
    refine rn_istore_n (lv' := [(0, .ref o), (1, .int x1), (2, .int (ri M (o + 2) (nx x1)))]) (hd := dX2_settle_16) (i := 2) (hi := rfl) (hn := by decide) (hf := rfl) (hl := rfl) ?_
    refine rn_iload_n (i := 1) (x := x1) dX2_settle_17 rfl (by simp) ?_
    refine rn_istore_n (lv' := [(0, .ref o), (1, .int x1), (2, .int (ri M (o + 2) (nx x1))), (3, .int x1)]) (hd := dX2_settle_18) (i := 3) (hi := rfl) (hn := by decide) (hf := rfl) (hl := rfl) ?_
    refine rn_iload_n (i := 1) (x := x1) dX2_settle_19 rfl (by simp) ?_
    refine rn_iconst (v := 1) dX2_settle_20 rfl ?_
    refine rn_isub dX2_settle_21 ?_
    refine rn_istore (lv' := [(0, .ref o), (1, .int x1), (2, .int (ri M (o + 2) (nx x1))), (3, .int x1), (4, .int (x1 - 1))]) (hd := dX2_settle_22) (hn := by decide) (hf := rfl) (hl := rfl) ?_
    exact h
set_option maxRecDepth 20000 in
theorem sg_X2_settle_24 {d : Nat} {o : Nat} {x1 : Int32} {x2 : Int32} {x3 : Int32} {x4 : Int32} {M : Mem} {K : (Mem → Prop)} (ho : kd o = (0, 2)) (h : (if x4 < 0 then (vp_in x3 12 ∧ ∀ M1, M1 = wi M (o + 2) (nx x3) x2 → RV (d + 1) μX2_settle 2 [(0, .ref o), (1, .int (x1 + 1))] [] M1 K) else (vp_in x4 12 ∧ (CI d μX2_comesBefore [.int x2, .int (ri M (o + 2) (nx x4))] M (fun r3 M2 => (if r3 = 0 then (vp_in x3 12 ∧ ∀ M4, M4 = wi M2 (o + 2) (nx x3) x2 → RV (d + 1) μX2_settle 2 [(0, .ref o), (1, .int (x1 + 1))] [] M4 K) else (vp_in x4 12 ∧ (vp_in (x4 + 1) 12 ∧ ∀ M5, M5 = wi M2 (o + 2) (nx (x4 + 1)) (ri M2 (o + 2) (nx x4)) → RV (d + 1) μX2_settle 24 [(0, .ref o), (1, .int x1), (2, .int x2), (3, .int x4), (4, .int (x4 + (-1)))] [] M5 K)))))))) : RV (d + 1) μX2_settle 24 [(0, .ref o), (1, .int x1), (2, .int x2), (3, .int x3), (4, .int x4)] [] M K := by
  show Rn (d + 1) μX2_settle 24 [(0, .ref o), (1, .int x1), (2, .int x2), (3, .int x3), (4, .int x4)] [] M _
  refine rn_iload (x := x4) dX2_settle_24 (by simp) ?_
  refine rn_if_lt (tgt := 68) dX2_settle_26 (by decide) (ite_go h (fun hc h => ?_) (fun hc h => ?_))
  · refine rn_aload_n (i := 0) (x := o) dX2_settle_68 rfl (by simp) ?_
    refine rn_getr (t := o + 2) dX2_settle_69 ho gf_X2_31 rfl (froth_refs _ ho).2.1.1 ?_
    refine rn_iload_n (i := 3) (x := x3) dX2_settle_72 rfl (by simp) ?_
    refine rn_iload_n (i := 2) (x := x2) dX2_settle_73 rfl (by simp) ?_
    obtain ⟨hi, h⟩ := h
    have h := h _ rfl
    refine rn_iastore dX2_settle_74 (froth_refs _ ho).2.1.2 hi ?_
    generalize wi M (o + 2) (nx x3) x2 = M1 at h ⊢
    refine rn_iinc (x := x1) (v := x1 + 1) (lv' := [(0, .ref o), (1, .int (x1 + 1)), (2, .int x2), (3, .int x3), (4, .int x4)]) dX2_settle_75 (by simp) rfl (by decide) rfl rfl ?_
    refine rn_goto (tgt := 2) dX2_settle_78 (by decide) ?_
    refine Rn.sub (lv' := [(0, .ref o), (1, .int (x1 + 1))]) (by simp) ?_
    exact h
  · refine rn_iload_n (i := 2) (x := x2) dX2_settle_29 rfl (by simp) ?_
    refine rn_aload_n (i := 0) (x := o) dX2_settle_30 rfl (by simp) ?_
    refine rn_getr (t := o + 2) dX2_settle_31 ho gf_X2_31 rfl (froth_refs _ ho).2.1.1 ?_
    refine rn_iload (x := x4) dX2_settle_34 (by simp) ?_
    obtain ⟨hi, h⟩ := h
    refine rn_iaload dX2_settle_36 (froth_refs _ ho).2.1.2 hi ?_
    refine rn_callSi (as := [.int x2, .int (ri M (o + 2) (nx x4))]) (st := []) dX2_settle_37 mf_X2_comesBefore lk_X2_65 sm_X2_comesBefore rfl (Nat.le_of_ble_eq_true rfl) (Nat.le_of_ble_eq_true rfl) rfl (RI.mono h (fun r3 M2 h => ?_))
    refine rn_if_eq (tgt := 68) dX2_settle_40 (by decide) (ite_go h (fun hc h => ?_) (fun hc h => ?_))
    · refine rn_aload_n (i := 0) (x := o) dX2_settle_68 rfl (by simp) ?_
      refine rn_getr (t := o + 2) dX2_settle_69 ho gf_X2_31 rfl (froth_refs _ ho).2.1.1 ?_
      refine rn_iload_n (i := 3) (x := x3) dX2_settle_72 rfl (by simp) ?_
      refine rn_iload_n (i := 2) (x := x2) dX2_settle_73 rfl (by simp) ?_
      obtain ⟨hi, h⟩ := h
      have h := h _ rfl
      refine rn_iastore dX2_settle_74 (froth_refs _ ho).2.1.2 hi ?_
      generalize wi M2 (o + 2) (nx x3) x2 = M4 at h ⊢
      refine rn_iinc (x := x1) (v := x1 + 1) (lv' := [(0, .ref o), (1, .int (x1 + 1)), (2, .int x2), (3, .int x3), (4, .int x4)]) dX2_settle_75 (by simp) rfl (by decide) rfl rfl ?_
      refine rn_goto (tgt := 2) dX2_settle_78 (by decide) ?_
      refine Rn.sub (lv' := [(0, .ref o), (1, .int (x1 + 1))]) (by simp) ?_
      exact h
    · refine rn_aload_n (i := 0) (x := o) dX2_settle_43 rfl (by simp) ?_
      refine rn_getr (t := o + 2) dX2_settle_44 ho gf_X2_31 rfl (froth_refs _ ho).2.1.1 ?_
      refine rn_iload (x := x4) dX2_settle_47 (by simp) ?_
      refine rn_iconst (v := 1) dX2_settle_49 rfl ?_
      refine rn_iadd dX2_settle_50 ?_
      refine rn_aload_n (i := 0) (x := o) dX2_settle_51 rfl (by simp) ?_
      refine rn_getr (t := o + 2) dX2_settle_52 ho gf_X2_31 rfl (froth_refs _ ho).2.1.1 ?_
      refine rn_iload (x := x4) dX2_settle_55 (by simp) ?_
      obtain ⟨hi, h⟩ := h
      refine rn_iaload dX2_settle_57 (froth_refs _ ho).2.1.2 hi ?_
      obtain ⟨hi, h⟩ := h
      have h := h _ rfl
      refine rn_iastore dX2_settle_58 (froth_refs _ ho).2.1.2 hi ?_
      generalize wi M2 (o + 2) (nx (x4 + 1)) (ri M2 (o + 2) (nx x4)) = M5 at h ⊢
      refine rn_iload (x := x4) dX2_settle_59 (by simp) ?_
      refine rn_istore_n (lv' := [(0, .ref o), (1, .int x1), (2, .int x2), (3, .int x4), (4, .int x4)]) (hd := dX2_settle_61) (i := 3) (hi := rfl) (hn := by decide) (hf := rfl) (hl := rfl) ?_
      refine rn_iinc (x := x4) (v := x4 + (-1)) (lv' := [(0, .ref o), (1, .int x1), (2, .int x2), (3, .int x4), (4, .int (x4 + (-1)))]) dX2_settle_62 (by simp) rfl (by decide) rfl rfl ?_
      refine rn_goto (tgt := 24) dX2_settle_65 (by decide) ?_
      exact h
set_option maxRecDepth 20000 in
theorem sg_X2_settle_83 {d : Nat} {o : Nat} {x1 : Int32} {M : Mem} {K : (Mem → Prop)} (ho : kd o = (0, 2)) (h : (if 8 ≤ x1 then K M else RV (d + 1) μX2_settle 101 [(0, .ref o), (1, .int x1), (2, .int ((1 : Int32) <<< (x1 &&& 31))), (3, .int 0), (4, .int 0), (5, .int 0)] [] M K)) : RV (d + 1) μX2_settle 83 [(0, .ref o), (1, .int x1)] [] M K := by
  show Rn (d + 1) μX2_settle 83 [(0, .ref o), (1, .int x1)] [] M _
  refine rn_iload_n (i := 1) (x := x1) dX2_settle_83 rfl (by simp) ?_
  refine rn_bipush (v := 8) dX2_settle_84 rfl ?_
  refine rn_icmp_ge (tgt := 166) dX2_settle_86 (by decide) (ite_go h (fun hc h => ?_) (fun hc h => ?_))
  · exact rn_ret dX2_settle_166 rfl ⟨rfl, h⟩
  · refine rn_iconst (v := 1) dX2_settle_89 rfl ?_
    refine rn_iload_n (i := 1) (x := x1) dX2_settle_90 rfl (by simp) ?_
    refine rn_ishl dX2_settle_91 ?_
    refine rn_istore_n (lv' := [(0, .ref o), (1, .int x1), (2, .int ((1 : Int32) <<< (x1 &&& 31)))]) (hd := dX2_settle_92) (i := 2) (hi := rfl) (hn := by decide) (hf := rfl) (hl := rfl) ?_
    refine rn_iconst (v := 0) dX2_settle_93 rfl ?_
    refine rn_istore_n (lv' := [(0, .ref o), (1, .int x1), (2, .int ((1 : Int32) <<< (x1 &&& 31))), (3, .int 0)]) (hd := dX2_settle_94) (i := 3) (hi := rfl) (hn := by decide) (hf := rfl) (hl := rfl) ?_
    refine rn_iconst (v := 0) dX2_settle_95 rfl ?_
    refine rn_istore (lv' := [(0, .ref o), (1, .int x1), (2, .int ((1 : Int32) <<< (x1 &&& 31))), (3, .int 0), (4, .int 0)]) (hd := dX2_settle_96) (hn := by decide) (hf := rfl) (hl := rfl) ?_
    refine rn_iconst (v := 0) dX2_settle_98 rfl ?_
    refine rn_istore (lv' := [(0, .ref o), (1, .int x1), (2, .int ((1 : Int32) <<< (x1 &&& 31))), (3, .int 0), (4, .int 0), (5, .int 0)]) (hd := dX2_settle_99) (hn := by decide) (hf := rfl) (hl := rfl) ?_
    exact h
set_option maxRecDepth 20000 in
theorem sg_X2_settle_101 {d : Nat} {o : Nat} {x1 : Int32} {x2 : Int32} {x3 : Int32} {x4 : Int32} {x5 : Int32} {M : Mem} {K : (Mem → Prop)} (ho : kd o = (0, 2)) (h : (if ri M o 4 ≤ x5 then (vp_in x1 8 ∧ ∀ M1, M1 = wi M (o + 3) (nx x1) (x3 &&& (x2 ^^^ ((-1)))) → (vp_in x1 8 ∧ ∀ M2, M2 = wi M1 (o + 4) (nx x1) x4 → RV (d + 1) μX2_settle 83 [(0, .ref o), (1, .int (x1 + 1))] [] M2 K)) else (vp_in x5 12 ∧ (if (ri M (o + 2) (nx x5)) &&& x2 = 0 then RV (d + 1) μX2_settle 101 [(0, .ref o), (1, .int x1), (2, .int x2), (3, .int x3), (4, .int x4), (5, .int (x5 + 1))] [] M K else (vp_in x5 12 ∧ RV (d + 1) μX2_settle 101 [(0, .ref o), (1, .int x1), (2, .int x2), (3, .int (x3 ||| (ri M (o + 2) (nx x5)))), (4, .int (x4 + 1)), (5, .int (x5 + 1))] [] M K))))) : RV (d + 1) μX2_settle 101 [(0, .ref o), (1, .int x1), (2, .int x2), (3, .int x3), (4, .int x4), (5, .int x5)] [] M K := by
  show Rn (d + 1) μX2_settle 101 [(0, .ref o), (1, .int x1), (2, .int x2), (3, .int x3), (4, .int x4), (5, .int x5)] [] M _
  refine rn_iload (x := x5) dX2_settle_101 (by simp) ?_
  refine rn_aload_n (i := 0) (x := o) dX2_settle_103 rfl (by simp) ?_
  refine rn_geti dX2_settle_104 ho gf_X2_24 (by decide) ?_
  refine rn_icmp_ge (tgt := 141) dX2_settle_107 (by decide) (ite_go h (fun hc h => ?_) (fun hc h => ?_))
  · refine rn_aload_n (i := 0) (x := o) dX2_settle_141 rfl (by simp) ?_
    refine rn_getr (t := o + 3) dX2_settle_142 ho gf_X2_34 rfl (froth_refs _ ho).2.2.1.1 ?_
    refine rn_iload_n (i := 1) (x := x1) dX2_settle_145 rfl (by simp) ?_
    refine rn_iload_n (i := 3) (x := x3) dX2_settle_146 rfl (by simp) ?_
    refine rn_iload_n (i := 2) (x := x2) dX2_settle_147 rfl (by simp) ?_
    refine rn_iconst (v := -1) dX2_settle_148 rfl ?_
    refine rn_ixor dX2_settle_149 ?_
    refine rn_iand dX2_settle_150 ?_
    obtain ⟨hi, h⟩ := h
    have h := h _ rfl
    refine rn_iastore dX2_settle_151 (froth_refs _ ho).2.2.1.2 hi ?_
    generalize wi M (o + 3) (nx x1) (x3 &&& (x2 ^^^ ((-1)))) = M1 at h ⊢
    refine rn_aload_n (i := 0) (x := o) dX2_settle_152 rfl (by simp) ?_
    refine rn_getr (t := o + 4) dX2_settle_153 ho gf_X2_37 rfl (froth_refs _ ho).2.2.2.1.1 ?_
    refine rn_iload_n (i := 1) (x := x1) dX2_settle_156 rfl (by simp) ?_
    refine rn_iload (x := x4) dX2_settle_157 (by simp) ?_
    obtain ⟨hi, h⟩ := h
    have h := h _ rfl
    refine rn_iastore dX2_settle_159 (froth_refs _ ho).2.2.2.1.2 hi ?_
    generalize wi M1 (o + 4) (nx x1) x4 = M2 at h ⊢
    refine rn_iinc (x := x1) (v := x1 + 1) (lv' := [(0, .ref o), (1, .int (x1 + 1)), (2, .int x2), (3, .int x3), (4, .int x4), (5, .int x5)]) dX2_settle_160 (by simp) rfl (by decide) rfl rfl ?_
    refine rn_goto (tgt := 83) dX2_settle_163 (by decide) ?_
    refine Rn.sub (lv' := [(0, .ref o), (1, .int (x1 + 1))]) (by simp) ?_
    exact h
  · refine rn_aload_n (i := 0) (x := o) dX2_settle_110 rfl (by simp) ?_
    refine rn_getr (t := o + 2) dX2_settle_111 ho gf_X2_31 rfl (froth_refs _ ho).2.1.1 ?_
    refine rn_iload (x := x5) dX2_settle_114 (by simp) ?_
    obtain ⟨hi, h⟩ := h
    refine rn_iaload dX2_settle_116 (froth_refs _ ho).2.1.2 hi ?_
    refine rn_iload_n (i := 2) (x := x2) dX2_settle_117 rfl (by simp) ?_
    refine rn_iand dX2_settle_118 ?_
    refine rn_if_eq (tgt := 135) dX2_settle_119 (by decide) (ite_go h (fun hc h => ?_) (fun hc h => ?_))
    · refine rn_iinc (x := x5) (v := x5 + 1) (lv' := [(0, .ref o), (1, .int x1), (2, .int x2), (3, .int x3), (4, .int x4), (5, .int (x5 + 1))]) dX2_settle_135 (by simp) rfl (by decide) rfl rfl ?_
      refine rn_goto (tgt := 101) dX2_settle_138 (by decide) ?_
      exact h
    · refine rn_iload_n (i := 3) (x := x3) dX2_settle_122 rfl (by simp) ?_
      refine rn_aload_n (i := 0) (x := o) dX2_settle_123 rfl (by simp) ?_
      refine rn_getr (t := o + 2) dX2_settle_124 ho gf_X2_31 rfl (froth_refs _ ho).2.1.1 ?_
      refine rn_iload (x := x5) dX2_settle_127 (by simp) ?_
      obtain ⟨hi, h⟩ := h
      refine rn_iaload dX2_settle_129 (froth_refs _ ho).2.1.2 hi ?_
      refine rn_ior dX2_settle_130 ?_
      refine rn_istore_n (lv' := [(0, .ref o), (1, .int x1), (2, .int x2), (3, .int (x3 ||| (ri M (o + 2) (nx x5)))), (4, .int x4), (5, .int x5)]) (hd := dX2_settle_131) (i := 3) (hi := rfl) (hn := by decide) (hf := rfl) (hl := rfl) ?_
      refine rn_iinc (x := x4) (v := x4 + 1) (lv' := [(0, .ref o), (1, .int x1), (2, .int x2), (3, .int (x3 ||| (ri M (o + 2) (nx x5)))), (4, .int (x4 + 1)), (5, .int x5)]) dX2_settle_132 (by simp) rfl (by decide) rfl rfl ?_
      refine rn_iinc (x := x5) (v := x5 + 1) (lv' := [(0, .ref o), (1, .int x1), (2, .int x2), (3, .int (x3 ||| (ri M (o + 2) (nx x5)))), (4, .int (x4 + 1)), (5, .int (x5 + 1))]) dX2_settle_135 (by simp) rfl (by decide) rfl rfl ?_
      refine rn_goto (tgt := 101) dX2_settle_138 (by decide) ?_
      exact h
theorem dX2_comesBefore_0 : decode μX2_comesBefore.2.1 0 = .ok (.iload_n 0, 1) := by decide +kernel
theorem dX2_comesBefore_1 : decode μX2_comesBefore.2.1 1 = .ok (.iload_n 1, 1) := by decide +kernel
theorem dX2_comesBefore_2 : decode μX2_comesBefore.2.1 2 = .ok (.ixor, 1) := by decide +kernel
theorem dX2_comesBefore_3 : decode μX2_comesBefore.2.1 3 = .ok (.istore_n 2, 1) := by decide +kernel
theorem dX2_comesBefore_4 : decode μX2_comesBefore.2.1 4 = .ok (.iload_n 0, 1) := by decide +kernel
theorem dX2_comesBefore_5 : decode μX2_comesBefore.2.1 5 = .ok (.iload_n 2, 1) := by decide +kernel
theorem dX2_comesBefore_6 : decode μX2_comesBefore.2.1 6 = .ok (.iand, 1) := by decide +kernel
theorem dX2_comesBefore_7 : decode μX2_comesBefore.2.1 7 = .ok (.iload_n 2, 1) := by decide +kernel
theorem dX2_comesBefore_8 : decode μX2_comesBefore.2.1 8 = .ok (.ineg, 1) := by decide +kernel
theorem dX2_comesBefore_9 : decode μX2_comesBefore.2.1 9 = .ok (.iand, 1) := by decide +kernel
theorem dX2_comesBefore_10 : decode μX2_comesBefore.2.1 10 = .ok (.ifCond .eq 7, 3) := by decide +kernel
theorem dX2_comesBefore_13 : decode μX2_comesBefore.2.1 13 = .ok (.iconst 1, 1) := by decide +kernel
theorem dX2_comesBefore_14 : decode μX2_comesBefore.2.1 14 = .ok (.goto 4, 3) := by decide +kernel
theorem dX2_comesBefore_17 : decode μX2_comesBefore.2.1 17 = .ok (.iconst 0, 1) := by decide +kernel
theorem dX2_comesBefore_18 : decode μX2_comesBefore.2.1 18 = .ok (.ireturn, 1) := by decide +kernel
set_option maxRecDepth 20000 in
theorem sg_X2_comesBefore_0 {d : Nat} {x0 : Int32} {x1 : Int32} {M : Mem} {K : (Int32 → Mem → Prop)}  (h : (if (x0 &&& (x0 ^^^ x1)) &&& (-(x0 ^^^ x1)) = 0 then K 0 M else K 1 M)) : CI d μX2_comesBefore [.int x0, .int x1] M K := by
  show Rn d μX2_comesBefore 0 [(0, .int x0), (1, .int x1)] [] M _
  refine rn_iload_n (i := 0) (x := x0) dX2_comesBefore_0 rfl (by simp) ?_
  refine rn_iload_n (i := 1) (x := x1) dX2_comesBefore_1 rfl (by simp) ?_
  refine rn_ixor dX2_comesBefore_2 ?_
  refine rn_istore_n (lv' := [(0, .int x0), (1, .int x1), (2, .int (x0 ^^^ x1))]) (hd := dX2_comesBefore_3) (i := 2) (hi := rfl) (hn := by decide) (hf := rfl) (hl := rfl) ?_
  refine rn_iload_n (i := 0) (x := x0) dX2_comesBefore_4 rfl (by simp) ?_
  refine rn_iload_n (i := 2) (x := x0 ^^^ x1) dX2_comesBefore_5 rfl (by simp) ?_
  refine rn_iand dX2_comesBefore_6 ?_
  refine rn_iload_n (i := 2) (x := x0 ^^^ x1) dX2_comesBefore_7 rfl (by simp) ?_
  refine rn_ineg dX2_comesBefore_8 ?_
  refine rn_iand dX2_comesBefore_9 ?_
  refine rn_if_eq (tgt := 17) dX2_comesBefore_10 (by decide) (ite_go h (fun hc h => ?_) (fun hc h => ?_))
  · refine rn_iconst (v := 0) dX2_comesBefore_17 rfl ?_
    exact rn_zret dX2_comesBefore_18 rfl (by decide) ⟨_, rfl, h⟩
  · refine rn_iconst (v := 1) dX2_comesBefore_13 rfl ?_
    refine rn_goto (tgt := 18) dX2_comesBefore_14 (by decide) ?_
    exact rn_zret dX2_comesBefore_18 rfl (by decide) ⟨_, rfl, h⟩
theorem dX2_flippedEnds_0 : decode μX2_flippedEnds.2.1 0 = .ok (.aload_n 0, 1) := by decide +kernel
theorem dX2_flippedEnds_1 : decode μX2_flippedEnds.2.1 1 = .ok (.iload_n 1, 1) := by decide +kernel
theorem dX2_flippedEnds_2 : decode μX2_flippedEnds.2.1 2 = .ok (.iload_n 2, 1) := by decide +kernel
theorem dX2_flippedEnds_3 : decode μX2_flippedEnds.2.1 3 = .ok (.invokevirtual 69, 3) := by decide +kernel
theorem dX2_flippedEnds_6 : decode μX2_flippedEnds.2.1 6 = .ok (.ifCond .eq 23, 3) := by decide +kernel
theorem dX2_flippedEnds_9 : decode μX2_flippedEnds.2.1 9 = .ok (.aload_n 0, 1) := by decide +kernel
theorem dX2_flippedEnds_10 : decode μX2_flippedEnds.2.1 10 = .ok (.getfield 37, 3) := by decide +kernel
theorem dX2_flippedEnds_13 : decode μX2_flippedEnds.2.1 13 = .ok (.iload_n 1, 1) := by decide +kernel
theorem dX2_flippedEnds_14 : decode μX2_flippedEnds.2.1 14 = .ok (.iaload, 1) := by decide +kernel
theorem dX2_flippedEnds_15 : decode μX2_flippedEnds.2.1 15 = .ok (.iconst 4, 1) := by decide +kernel
theorem dX2_flippedEnds_16 : decode μX2_flippedEnds.2.1 16 = .ok (.if_icmp .lt 13, 3) := by decide +kernel
theorem dX2_flippedEnds_19 : decode μX2_flippedEnds.2.1 19 = .ok (.aload_n 0, 1) := by decide +kernel
theorem dX2_flippedEnds_20 : decode μX2_flippedEnds.2.1 20 = .ok (.getfield 37, 3) := by decide +kernel
theorem dX2_flippedEnds_23 : decode μX2_flippedEnds.2.1 23 = .ok (.iload_n 2, 1) := by decide +kernel
theorem dX2_flippedEnds_24 : decode μX2_flippedEnds.2.1 24 = .ok (.iaload, 1) := by decide +kernel
theorem dX2_flippedEnds_25 : decode μX2_flippedEnds.2.1 25 = .ok (.iconst 4, 1) := by decide +kernel
theorem dX2_flippedEnds_26 : decode μX2_flippedEnds.2.1 26 = .ok (.if_icmp .ge 5, 3) := by decide +kernel
theorem dX2_flippedEnds_29 : decode μX2_flippedEnds.2.1 29 = .ok (.iconst 0, 1) := by decide +kernel
theorem dX2_flippedEnds_30 : decode μX2_flippedEnds.2.1 30 = .ok (.ireturn, 1) := by decide +kernel
theorem dX2_flippedEnds_31 : decode μX2_flippedEnds.2.1 31 = .ok (.iconst 1, 1) := by decide +kernel
theorem dX2_flippedEnds_32 : decode μX2_flippedEnds.2.1 32 = .ok (.iload_n 1, 1) := by decide +kernel
theorem dX2_flippedEnds_33 : decode μX2_flippedEnds.2.1 33 = .ok (.ishl, 1) := by decide +kernel
theorem dX2_flippedEnds_34 : decode μX2_flippedEnds.2.1 34 = .ok (.iconst 1, 1) := by decide +kernel
theorem dX2_flippedEnds_35 : decode μX2_flippedEnds.2.1 35 = .ok (.iload_n 2, 1) := by decide +kernel
theorem dX2_flippedEnds_36 : decode μX2_flippedEnds.2.1 36 = .ok (.ishl, 1) := by decide +kernel
theorem dX2_flippedEnds_37 : decode μX2_flippedEnds.2.1 37 = .ok (.ior, 1) := by decide +kernel
theorem dX2_flippedEnds_38 : decode μX2_flippedEnds.2.1 38 = .ok (.istore_n 3, 1) := by decide +kernel
theorem dX2_flippedEnds_39 : decode μX2_flippedEnds.2.1 39 = .ok (.iconst 0, 1) := by decide +kernel
theorem dX2_flippedEnds_40 : decode μX2_flippedEnds.2.1 40 = .ok (.istore 4, 2) := by decide +kernel
theorem dX2_flippedEnds_42 : decode μX2_flippedEnds.2.1 42 = .ok (.iconst 0, 1) := by decide +kernel
theorem dX2_flippedEnds_43 : decode μX2_flippedEnds.2.1 43 = .ok (.istore 5, 2) := by decide +kernel
theorem dX2_flippedEnds_45 : decode μX2_flippedEnds.2.1 45 = .ok (.iconst 0, 1) := by decide +kernel
theorem dX2_flippedEnds_46 : decode μX2_flippedEnds.2.1 46 = .ok (.istore 6, 2) := by decide +kernel
theorem dX2_flippedEnds_48 : decode μX2_flippedEnds.2.1 48 = .ok (.iload 6, 2) := by decide +kernel
theorem dX2_flippedEnds_50 : decode μX2_flippedEnds.2.1 50 = .ok (.aload_n 0, 1) := by decide +kernel
theorem dX2_flippedEnds_51 : decode μX2_flippedEnds.2.1 51 = .ok (.getfield 24, 3) := by decide +kernel
theorem dX2_flippedEnds_54 : decode μX2_flippedEnds.2.1 54 = .ok (.if_icmp .ge 41, 3) := by decide +kernel
theorem dX2_flippedEnds_57 : decode μX2_flippedEnds.2.1 57 = .ok (.aload_n 0, 1) := by decide +kernel
theorem dX2_flippedEnds_58 : decode μX2_flippedEnds.2.1 58 = .ok (.getfield 31, 3) := by decide +kernel
theorem dX2_flippedEnds_61 : decode μX2_flippedEnds.2.1 61 = .ok (.iload 6, 2) := by decide +kernel
theorem dX2_flippedEnds_63 : decode μX2_flippedEnds.2.1 63 = .ok (.iaload, 1) := by decide +kernel
theorem dX2_flippedEnds_64 : decode μX2_flippedEnds.2.1 64 = .ok (.iload_n 3, 1) := by decide +kernel
theorem dX2_flippedEnds_65 : decode μX2_flippedEnds.2.1 65 = .ok (.iand, 1) := by decide +kernel
theorem dX2_flippedEnds_66 : decode μX2_flippedEnds.2.1 66 = .ok (.iload_n 3, 1) := by decide +kernel
theorem dX2_flippedEnds_67 : decode μX2_flippedEnds.2.1 67 = .ok (.if_icmp .ne 22, 3) := by decide +kernel
theorem dX2_flippedEnds_70 : decode μX2_flippedEnds.2.1 70 = .ok (.iload 4, 2) := by decide +kernel
theorem dX2_flippedEnds_72 : decode μX2_flippedEnds.2.1 72 = .ok (.aload_n 0, 1) := by decide +kernel
theorem dX2_flippedEnds_73 : decode μX2_flippedEnds.2.1 73 = .ok (.getfield 31, 3) := by decide +kernel
theorem dX2_flippedEnds_76 : decode μX2_flippedEnds.2.1 76 = .ok (.iload 6, 2) := by decide +kernel
theorem dX2_flippedEnds_78 : decode μX2_flippedEnds.2.1 78 = .ok (.iaload, 1) := by decide +kernel
theorem dX2_flippedEnds_79 : decode μX2_flippedEnds.2.1 79 = .ok (.iload_n 3, 1) := by decide +kernel
theorem dX2_flippedEnds_80 : decode μX2_flippedEnds.2.1 80 = .ok (.iconst (-1), 1) := by decide +kernel
theorem dX2_flippedEnds_81 : decode μX2_flippedEnds.2.1 81 = .ok (.ixor, 1) := by decide +kernel
theorem dX2_flippedEnds_82 : decode μX2_flippedEnds.2.1 82 = .ok (.iand, 1) := by decide +kernel
theorem dX2_flippedEnds_83 : decode μX2_flippedEnds.2.1 83 = .ok (.ior, 1) := by decide +kernel
theorem dX2_flippedEnds_84 : decode μX2_flippedEnds.2.1 84 = .ok (.istore 4, 2) := by decide +kernel
theorem dX2_flippedEnds_86 : decode μX2_flippedEnds.2.1 86 = .ok (.iinc 5 1, 3) := by decide +kernel
theorem dX2_flippedEnds_89 : decode μX2_flippedEnds.2.1 89 = .ok (.iinc 6 1, 3) := by decide +kernel
theorem dX2_flippedEnds_92 : decode μX2_flippedEnds.2.1 92 = .ok (.goto (-44), 3) := by decide +kernel
theorem dX2_flippedEnds_95 : decode μX2_flippedEnds.2.1 95 = .ok (.iload 5, 2) := by decide +kernel
theorem dX2_flippedEnds_97 : decode μX2_flippedEnds.2.1 97 = .ok (.iconst 2, 1) := by decide +kernel
theorem dX2_flippedEnds_98 : decode μX2_flippedEnds.2.1 98 = .ok (.if_icmp .ne 12, 3) := by decide +kernel
theorem dX2_flippedEnds_101 : decode μX2_flippedEnds.2.1 101 = .ok (.iload 4, 2) := by decide +kernel
theorem dX2_flippedEnds_103 : decode μX2_flippedEnds.2.1 103 = .ok (.invokestatic 52, 3) := by decide +kernel
theorem dX2_flippedEnds_106 : decode μX2_flippedEnds.2.1 106 = .ok (.iconst 2, 1) := by decide +kernel
theorem dX2_flippedEnds_107 : decode μX2_flippedEnds.2.1 107 = .ok (.if_icmp .eq 5, 3) := by decide +kernel
theorem dX2_flippedEnds_110 : decode μX2_flippedEnds.2.1 110 = .ok (.iconst 0, 1) := by decide +kernel
theorem dX2_flippedEnds_111 : decode μX2_flippedEnds.2.1 111 = .ok (.ireturn, 1) := by decide +kernel
theorem dX2_flippedEnds_112 : decode μX2_flippedEnds.2.1 112 = .ok (.aload_n 0, 1) := by decide +kernel
theorem dX2_flippedEnds_113 : decode μX2_flippedEnds.2.1 113 = .ok (.iload 4, 2) := by decide +kernel
theorem dX2_flippedEnds_115 : decode μX2_flippedEnds.2.1 115 = .ok (.invokestatic 72, 3) := by decide +kernel
theorem dX2_flippedEnds_118 : decode μX2_flippedEnds.2.1 118 = .ok (.iload 4, 2) := by decide +kernel
theorem dX2_flippedEnds_120 : decode μX2_flippedEnds.2.1 120 = .ok (.iload 4, 2) := by decide +kernel
theorem dX2_flippedEnds_122 : decode μX2_flippedEnds.2.1 122 = .ok (.iconst 1, 1) := by decide +kernel
theorem dX2_flippedEnds_123 : decode μX2_flippedEnds.2.1 123 = .ok (.isub, 1) := by decide +kernel
theorem dX2_flippedEnds_124 : decode μX2_flippedEnds.2.1 124 = .ok (.iand, 1) := by decide +kernel
theorem dX2_flippedEnds_125 : decode μX2_flippedEnds.2.1 125 = .ok (.invokestatic 72, 3) := by decide +kernel
theorem dX2_flippedEnds_128 : decode μX2_flippedEnds.2.1 128 = .ok (.invokevirtual 69, 3) := by decide +kernel
theorem dX2_flippedEnds_131 : decode μX2_flippedEnds.2.1 131 = .ok (.ifCond .eq 7, 3) := by decide +kernel
theorem dX2_flippedEnds_134 : decode μX2_flippedEnds.2.1 134 = .ok (.iconst 0, 1) := by decide +kernel
theorem dX2_flippedEnds_135 : decode μX2_flippedEnds.2.1 135 = .ok (.goto 5, 3) := by decide +kernel
theorem dX2_flippedEnds_138 : decode μX2_flippedEnds.2.1 138 = .ok (.iload 4, 2) := by decide +kernel
theorem dX2_flippedEnds_140 : decode μX2_flippedEnds.2.1 140 = .ok (.ireturn, 1) := by decide +kernel
set_option maxRecDepth 20000 in
theorem sg_X2_flippedEnds_0 {d : Nat} {o : Nat} {x1 : Int32} {x2 : Int32} {M : Mem} {K : (Int32 → Mem → Prop)} (ho : kd o = (0, 2)) (h : (CI d μX2_meets [.ref o, .int x1, .int x2] M (fun r2 M1 => (if r2 = 0 then K 0 M1 else (vp_in x1 8 ∧ (if ri M1 (o + 4) (nx x1) < 4 then K 0 M1 else (vp_in x2 8 ∧ (if 4 ≤ ri M1 (o + 4) (nx x2) then RI (d + 1) μX2_flippedEnds 48 [(0, .ref o), (1, .int x1), (2, .int x2), (3, .int (((1 : Int32) <<< (x1 &&& 31)) ||| ((1 : Int32) <<< (x2 &&& 31)))), (4, .int 0), (5, .int 0), (6, .int 0)] [] M1 K else K 0 M1)))))))) : CI (d + 1) μX2_flippedEnds [.ref o, .int x1, .int x2] M K := by
  show Rn (d + 1) μX2_flippedEnds 0 [(0, .ref o), (1, .int x1), (2, .int x2)] [] M _
  refine rn_aload_n (i := 0) (x := o) dX2_flippedEnds_0 rfl (by simp) ?_
  refine rn_iload_n (i := 1) (x := x1) dX2_flippedEnds_1 rfl (by simp) ?_
  refine rn_iload_n (i := 2) (x := x2) dX2_flippedEnds_2 rfl (by simp) ?_
  refine rn_callVi (as := [.int x1, .int x2]) (st := []) dX2_flippedEnds_3 mf_X2_meets lk_X2_69 im_X2_meets ho rfl rfl rfl (Nat.le_of_ble_eq_true rfl) (Nat.le_of_ble_eq_true rfl) rfl (RI.mono h (fun r2 M1 h => ?_))
  refine rn_if_eq (tgt := 29) dX2_flippedEnds_6 (by decide) (ite_go h (fun hc h => ?_) (fun hc h => ?_))
  · refine rn_iconst (v := 0) dX2_flippedEnds_29 rfl ?_
    exact rn_iret dX2_flippedEnds_30 rfl ⟨_, rfl, h⟩
  · refine rn_aload_n (i := 0) (x := o) dX2_flippedEnds_9 rfl (by simp) ?_
    refine rn_getr (t := o + 4) dX2_flippedEnds_10 ho gf_X2_37 rfl (froth_refs _ ho).2.2.2.1.1 ?_
    refine rn_iload_n (i := 1) (x := x1) dX2_flippedEnds_13 rfl (by simp) ?_
    obtain ⟨hi, h⟩ := h
    refine rn_iaload dX2_flippedEnds_14 (froth_refs _ ho).2.2.2.1.2 hi ?_
    refine rn_iconst (v := 4) dX2_flippedEnds_15 rfl ?_
    refine rn_icmp_lt (tgt := 29) dX2_flippedEnds_16 (by decide) (ite_go h (fun hc h => ?_) (fun hc h => ?_))
    · refine rn_iconst (v := 0) dX2_flippedEnds_29 rfl ?_
      exact rn_iret dX2_flippedEnds_30 rfl ⟨_, rfl, h⟩
    · refine rn_aload_n (i := 0) (x := o) dX2_flippedEnds_19 rfl (by simp) ?_
      refine rn_getr (t := o + 4) dX2_flippedEnds_20 ho gf_X2_37 rfl (froth_refs _ ho).2.2.2.1.1 ?_
      refine rn_iload_n (i := 2) (x := x2) dX2_flippedEnds_23 rfl (by simp) ?_
      obtain ⟨hi, h⟩ := h
      refine rn_iaload dX2_flippedEnds_24 (froth_refs _ ho).2.2.2.1.2 hi ?_
      refine rn_iconst (v := 4) dX2_flippedEnds_25 rfl ?_
      refine rn_icmp_ge (tgt := 31) dX2_flippedEnds_26 (by decide) (ite_go h (fun hc h => ?_) (fun hc h => ?_))
      · refine rn_iconst (v := 1) dX2_flippedEnds_31 rfl ?_
        refine rn_iload_n (i := 1) (x := x1) dX2_flippedEnds_32 rfl (by simp) ?_
        refine rn_ishl dX2_flippedEnds_33 ?_
        refine rn_iconst (v := 1) dX2_flippedEnds_34 rfl ?_
        refine rn_iload_n (i := 2) (x := x2) dX2_flippedEnds_35 rfl (by simp) ?_
        refine rn_ishl dX2_flippedEnds_36 ?_
        refine rn_ior dX2_flippedEnds_37 ?_
        refine rn_istore_n (lv' := [(0, .ref o), (1, .int x1), (2, .int x2), (3, .int (((1 : Int32) <<< (x1 &&& 31)) ||| ((1 : Int32) <<< (x2 &&& 31))))]) (hd := dX2_flippedEnds_38) (i := 3) (hi := rfl) (hn := by decide) (hf := rfl) (hl := rfl) ?_
        refine rn_iconst (v := 0) dX2_flippedEnds_39 rfl ?_
        refine rn_istore (lv' := [(0, .ref o), (1, .int x1), (2, .int x2), (3, .int (((1 : Int32) <<< (x1 &&& 31)) ||| ((1 : Int32) <<< (x2 &&& 31)))), (4, .int 0)]) (hd := dX2_flippedEnds_40) (hn := by decide) (hf := rfl) (hl := rfl) ?_
        refine rn_iconst (v := 0) dX2_flippedEnds_42 rfl ?_
        refine rn_istore (lv' := [(0, .ref o), (1, .int x1), (2, .int x2), (3, .int (((1 : Int32) <<< (x1 &&& 31)) ||| ((1 : Int32) <<< (x2 &&& 31)))), (4, .int 0), (5, .int 0)]) (hd := dX2_flippedEnds_43) (hn := by decide) (hf := rfl) (hl := rfl) ?_
        refine rn_iconst (v := 0) dX2_flippedEnds_45 rfl ?_
        refine rn_istore (lv' := [(0, .ref o), (1, .int x1), (2, .int x2), (3, .int (((1 : Int32) <<< (x1 &&& 31)) ||| ((1 : Int32) <<< (x2 &&& 31)))), (4, .int 0), (5, .int 0), (6, .int 0)]) (hd := dX2_flippedEnds_46) (hn := by decide) (hf := rfl) (hl := rfl) ?_
        exact h
      · refine rn_iconst (v := 0) dX2_flippedEnds_29 rfl ?_
        exact rn_iret dX2_flippedEnds_30 rfl ⟨_, rfl, h⟩
set_option maxRecDepth 20000 in
theorem sg_X2_flippedEnds_48 {d : Nat} {o : Nat} {x1 : Int32} {x2 : Int32} {x3 : Int32} {x4 : Int32} {x5 : Int32} {x6 : Int32} {M : Mem} {K : (Int32 → Mem → Prop)} (ho : kd o = (0, 2)) (h : (if ri M o 4 ≤ x6 then (if x5 = 2 then (CI d μJ6_bitCount_0f7a4 [.int x4] M (fun r2 M1 => (if r2 = 2 then (CI d μX8_lowest [.int x4] M1 (fun r4 M3 => (CI d μX8_lowest [.int (x4 &&& (x4 - 1))] M3 (fun r6 M5 => (CI d μX2_meets [.ref o, .int r4, .int r6] M5 (fun r8 M7 => (if r8 = 0 then K x4 M7 else K 0 M7))))))) else K 0 M1))) else K 0 M) else (vp_in x6 12 ∧ (if (ri M (o + 2) (nx x6)) &&& x3 = x3 then (vp_in x6 12 ∧ RI (d + 1) μX2_flippedEnds 48 [(0, .ref o), (1, .int x1), (2, .int x2), (3, .int x3), (4, .int (x4 ||| ((ri M (o + 2) (nx x6)) &&& (x3 ^^^ ((-1)))))), (5, .int (x5 + 1)), (6, .int (x6 + 1))] [] M K) else RI (d + 1) μX2_flippedEnds 48 [(0, .ref o), (1, .int x1), (2, .int x2), (3, .int x3), (4, .int x4), (5, .int x5), (6, .int (x6 + 1))] [] M K)))) : RI (d + 1) μX2_flippedEnds 48 [(0, .ref o), (1, .int x1), (2, .int x2), (3, .int x3), (4, .int x4), (5, .int x5), (6, .int x6)] [] M K := by
  show Rn (d + 1) μX2_flippedEnds 48 [(0, .ref o), (1, .int x1), (2, .int x2), (3, .int x3), (4, .int x4), (5, .int x5), (6, .int x6)] [] M _
  refine rn_iload (x := x6) dX2_flippedEnds_48 (by simp) ?_
  refine rn_aload_n (i := 0) (x := o) dX2_flippedEnds_50 rfl (by simp) ?_
  refine rn_geti dX2_flippedEnds_51 ho gf_X2_24 (by decide) ?_
  refine rn_icmp_ge (tgt := 95) dX2_flippedEnds_54 (by decide) (ite_go h (fun hc h => ?_) (fun hc h => ?_))
  · refine rn_iload (x := x5) dX2_flippedEnds_95 (by simp) ?_
    refine rn_iconst (v := 2) dX2_flippedEnds_97 rfl ?_
    refine rn_icmp_ne (tgt := 110) dX2_flippedEnds_98 (by decide) (ite_go h (fun hc h => ?_) (fun hc h => ?_))
    · refine rn_iload (x := x4) dX2_flippedEnds_101 (by simp) ?_
      refine rn_callSi (as := [.int x4]) (st := []) dX2_flippedEnds_103 mf_J6_bitCount_0f7a4 lk_X2_52 sm_J6_bitCount_0f7a4 rfl (Nat.le_of_ble_eq_true rfl) (Nat.le_of_ble_eq_true rfl) rfl (RI.mono h (fun r2 M1 h => ?_))
      refine rn_iconst (v := 2) dX2_flippedEnds_106 rfl ?_
      refine rn_icmp_eq (tgt := 112) dX2_flippedEnds_107 (by decide) (ite_go h (fun hc h => ?_) (fun hc h => ?_))
      · refine rn_aload_n (i := 0) (x := o) dX2_flippedEnds_112 rfl (by simp) ?_
        refine rn_iload (x := x4) dX2_flippedEnds_113 (by simp) ?_
        refine rn_callSNi (as := [.int x4]) (st := [.ref o]) dX2_flippedEnds_115 mf_X8_lowest nk_X2_72 sm_X8_lowest rfl (Nat.le_of_ble_eq_true rfl) (Nat.le_of_ble_eq_true rfl) rfl (RI.mono h (fun r4 M3 h => ?_))
        refine rn_iload (x := x4) dX2_flippedEnds_118 (by simp) ?_
        refine rn_iload (x := x4) dX2_flippedEnds_120 (by simp) ?_
        refine rn_iconst (v := 1) dX2_flippedEnds_122 rfl ?_
        refine rn_isub dX2_flippedEnds_123 ?_
        refine rn_iand dX2_flippedEnds_124 ?_
        refine rn_callSNi (as := [.int (x4 &&& (x4 - 1))]) (st := [.int r4, .ref o]) dX2_flippedEnds_125 mf_X8_lowest nk_X2_72 sm_X8_lowest rfl (Nat.le_of_ble_eq_true rfl) (Nat.le_of_ble_eq_true rfl) rfl (RI.mono h (fun r6 M5 h => ?_))
        refine rn_callVi (as := [.int r4, .int r6]) (st := []) dX2_flippedEnds_128 mf_X2_meets lk_X2_69 im_X2_meets ho rfl rfl rfl (Nat.le_of_ble_eq_true rfl) (Nat.le_of_ble_eq_true rfl) rfl (RI.mono h (fun r8 M7 h => ?_))
        refine rn_if_eq (tgt := 138) dX2_flippedEnds_131 (by decide) (ite_go h (fun hc h => ?_) (fun hc h => ?_))
        · refine rn_iload (x := x4) dX2_flippedEnds_138 (by simp) ?_
          exact rn_iret dX2_flippedEnds_140 rfl ⟨_, rfl, h⟩
        · refine rn_iconst (v := 0) dX2_flippedEnds_134 rfl ?_
          refine rn_goto (tgt := 140) dX2_flippedEnds_135 (by decide) ?_
          exact rn_iret dX2_flippedEnds_140 rfl ⟨_, rfl, h⟩
      · refine rn_iconst (v := 0) dX2_flippedEnds_110 rfl ?_
        exact rn_iret dX2_flippedEnds_111 rfl ⟨_, rfl, h⟩
    · refine rn_iconst (v := 0) dX2_flippedEnds_110 rfl ?_
      exact rn_iret dX2_flippedEnds_111 rfl ⟨_, rfl, h⟩
  · refine rn_aload_n (i := 0) (x := o) dX2_flippedEnds_57 rfl (by simp) ?_
    refine rn_getr (t := o + 2) dX2_flippedEnds_58 ho gf_X2_31 rfl (froth_refs _ ho).2.1.1 ?_
    refine rn_iload (x := x6) dX2_flippedEnds_61 (by simp) ?_
    obtain ⟨hi, h⟩ := h
    refine rn_iaload dX2_flippedEnds_63 (froth_refs _ ho).2.1.2 hi ?_
    refine rn_iload_n (i := 3) (x := x3) dX2_flippedEnds_64 rfl (by simp) ?_
    refine rn_iand dX2_flippedEnds_65 ?_
    refine rn_iload_n (i := 3) (x := x3) dX2_flippedEnds_66 rfl (by simp) ?_
    refine rn_icmp_ne (tgt := 89) dX2_flippedEnds_67 (by decide) (ite_go h (fun hc h => ?_) (fun hc h => ?_))
    · refine rn_iload (x := x4) dX2_flippedEnds_70 (by simp) ?_
      refine rn_aload_n (i := 0) (x := o) dX2_flippedEnds_72 rfl (by simp) ?_
      refine rn_getr (t := o + 2) dX2_flippedEnds_73 ho gf_X2_31 rfl (froth_refs _ ho).2.1.1 ?_
      refine rn_iload (x := x6) dX2_flippedEnds_76 (by simp) ?_
      obtain ⟨hi, h⟩ := h
      refine rn_iaload dX2_flippedEnds_78 (froth_refs _ ho).2.1.2 hi ?_
      refine rn_iload_n (i := 3) (x := x3) dX2_flippedEnds_79 rfl (by simp) ?_
      refine rn_iconst (v := -1) dX2_flippedEnds_80 rfl ?_
      refine rn_ixor dX2_flippedEnds_81 ?_
      refine rn_iand dX2_flippedEnds_82 ?_
      refine rn_ior dX2_flippedEnds_83 ?_
      refine rn_istore (lv' := [(0, .ref o), (1, .int x1), (2, .int x2), (3, .int x3), (4, .int (x4 ||| ((ri M (o + 2) (nx x6)) &&& (x3 ^^^ ((-1)))))), (5, .int x5), (6, .int x6)]) (hd := dX2_flippedEnds_84) (hn := by decide) (hf := rfl) (hl := rfl) ?_
      refine rn_iinc (x := x5) (v := x5 + 1) (lv' := [(0, .ref o), (1, .int x1), (2, .int x2), (3, .int x3), (4, .int (x4 ||| ((ri M (o + 2) (nx x6)) &&& (x3 ^^^ ((-1)))))), (5, .int (x5 + 1)), (6, .int x6)]) dX2_flippedEnds_86 (by simp) rfl (by decide) rfl rfl ?_
      refine rn_iinc (x := x6) (v := x6 + 1) (lv' := [(0, .ref o), (1, .int x1), (2, .int x2), (3, .int x3), (4, .int (x4 ||| ((ri M (o + 2) (nx x6)) &&& (x3 ^^^ ((-1)))))), (5, .int (x5 + 1)), (6, .int (x6 + 1))]) dX2_flippedEnds_89 (by simp) rfl (by decide) rfl rfl ?_
      refine rn_goto (tgt := 48) dX2_flippedEnds_92 (by decide) ?_
      exact h
    · refine rn_iinc (x := x6) (v := x6 + 1) (lv' := [(0, .ref o), (1, .int x1), (2, .int x2), (3, .int x3), (4, .int x4), (5, .int x5), (6, .int (x6 + 1))]) dX2_flippedEnds_89 (by simp) rfl (by decide) rfl rfl ?_
      refine rn_goto (tgt := 48) dX2_flippedEnds_92 (by decide) ?_
      exact h
theorem dX2_turnWall_0 : decode μX2_turnWall.2.1 0 = .ok (.aload_n 0, 1) := by decide +kernel
theorem dX2_turnWall_1 : decode μX2_turnWall.2.1 1 = .ok (.iload_n 1, 1) := by decide +kernel
theorem dX2_turnWall_2 : decode μX2_turnWall.2.1 2 = .ok (.iload_n 2, 1) := by decide +kernel
theorem dX2_turnWall_3 : decode μX2_turnWall.2.1 3 = .ok (.invokevirtual 75, 3) := by decide +kernel
theorem dX2_turnWall_6 : decode μX2_turnWall.2.1 6 = .ok (.istore_n 3, 1) := by decide +kernel
theorem dX2_turnWall_7 : decode μX2_turnWall.2.1 7 = .ok (.iload_n 3, 1) := by decide +kernel
theorem dX2_turnWall_8 : decode μX2_turnWall.2.1 8 = .ok (.ifCond .ne 5, 3) := by decide +kernel
theorem dX2_turnWall_11 : decode μX2_turnWall.2.1 11 = .ok (.iconst 0, 1) := by decide +kernel
theorem dX2_turnWall_12 : decode μX2_turnWall.2.1 12 = .ok (.ireturn, 1) := by decide +kernel
theorem dX2_turnWall_13 : decode μX2_turnWall.2.1 13 = .ok (.aload_n 0, 1) := by decide +kernel
theorem dX2_turnWall_14 : decode μX2_turnWall.2.1 14 = .ok (.iconst 1, 1) := by decide +kernel
theorem dX2_turnWall_15 : decode μX2_turnWall.2.1 15 = .ok (.iload_n 1, 1) := by decide +kernel
theorem dX2_turnWall_16 : decode μX2_turnWall.2.1 16 = .ok (.ishl, 1) := by decide +kernel
theorem dX2_turnWall_17 : decode μX2_turnWall.2.1 17 = .ok (.iconst 1, 1) := by decide +kernel
theorem dX2_turnWall_18 : decode μX2_turnWall.2.1 18 = .ok (.iload_n 2, 1) := by decide +kernel
theorem dX2_turnWall_19 : decode μX2_turnWall.2.1 19 = .ok (.ishl, 1) := by decide +kernel
theorem dX2_turnWall_20 : decode μX2_turnWall.2.1 20 = .ok (.ior, 1) := by decide +kernel
theorem dX2_turnWall_21 : decode μX2_turnWall.2.1 21 = .ok (.invokevirtual 79, 3) := by decide +kernel
theorem dX2_turnWall_24 : decode μX2_turnWall.2.1 24 = .ok (.aload_n 0, 1) := by decide +kernel
theorem dX2_turnWall_25 : decode μX2_turnWall.2.1 25 = .ok (.iload_n 3, 1) := by decide +kernel
theorem dX2_turnWall_26 : decode μX2_turnWall.2.1 26 = .ok (.iconst 1, 1) := by decide +kernel
theorem dX2_turnWall_27 : decode μX2_turnWall.2.1 27 = .ok (.iload_n 1, 1) := by decide +kernel
theorem dX2_turnWall_28 : decode μX2_turnWall.2.1 28 = .ok (.ishl, 1) := by decide +kernel
theorem dX2_turnWall_29 : decode μX2_turnWall.2.1 29 = .ok (.ior, 1) := by decide +kernel
theorem dX2_turnWall_30 : decode μX2_turnWall.2.1 30 = .ok (.invokevirtual 58, 3) := by decide +kernel
theorem dX2_turnWall_33 : decode μX2_turnWall.2.1 33 = .ok (.aload_n 0, 1) := by decide +kernel
theorem dX2_turnWall_34 : decode μX2_turnWall.2.1 34 = .ok (.iload_n 3, 1) := by decide +kernel
theorem dX2_turnWall_35 : decode μX2_turnWall.2.1 35 = .ok (.iconst 1, 1) := by decide +kernel
theorem dX2_turnWall_36 : decode μX2_turnWall.2.1 36 = .ok (.iload_n 2, 1) := by decide +kernel
theorem dX2_turnWall_37 : decode μX2_turnWall.2.1 37 = .ok (.ishl, 1) := by decide +kernel
theorem dX2_turnWall_38 : decode μX2_turnWall.2.1 38 = .ok (.ior, 1) := by decide +kernel
theorem dX2_turnWall_39 : decode μX2_turnWall.2.1 39 = .ok (.invokevirtual 58, 3) := by decide +kernel
theorem dX2_turnWall_42 : decode μX2_turnWall.2.1 42 = .ok (.aload_n 0, 1) := by decide +kernel
theorem dX2_turnWall_43 : decode μX2_turnWall.2.1 43 = .ok (.invokevirtual 43, 3) := by decide +kernel
theorem dX2_turnWall_46 : decode μX2_turnWall.2.1 46 = .ok (.iload_n 3, 1) := by decide +kernel
theorem dX2_turnWall_47 : decode μX2_turnWall.2.1 47 = .ok (.ireturn, 1) := by decide +kernel
set_option maxRecDepth 20000 in
theorem sg_X2_turnWall_0 {d : Nat} {o : Nat} {x1 : Int32} {x2 : Int32} {M : Mem} {K : (Int32 → Mem → Prop)} (ho : kd o = (0, 2)) (h : (CI d μX2_flippedEnds [.ref o, .int x1, .int x2] M (fun r2 M1 => (if r2 = 0 then K 0 M1 else (CV d μX2_dropCornersOf [.ref o, .int (((1 : Int32) <<< (x1 &&& 31)) ||| ((1 : Int32) <<< (x2 &&& 31)))] M1 (fun M3 => (CV d μX2_addCorner [.ref o, .int (r2 ||| ((1 : Int32) <<< (x1 &&& 31)))] M3 (fun M4 => (CV d μX2_addCorner [.ref o, .int (r2 ||| ((1 : Int32) <<< (x2 &&& 31)))] M4 (fun M5 => (CV d μX2_settle [.ref o] M5 (fun M6 => K r2 M6)))))))))))) : CI (d + 1) μX2_turnWall [.ref o, .int x1, .int x2] M K := by
  show Rn (d + 1) μX2_turnWall 0 [(0, .ref o), (1, .int x1), (2, .int x2)] [] M _
  refine rn_aload_n (i := 0) (x := o) dX2_turnWall_0 rfl (by simp) ?_
  refine rn_iload_n (i := 1) (x := x1) dX2_turnWall_1 rfl (by simp) ?_
  refine rn_iload_n (i := 2) (x := x2) dX2_turnWall_2 rfl (by simp) ?_
  refine rn_callVi (as := [.int x1, .int x2]) (st := []) dX2_turnWall_3 mf_X2_flippedEnds lk_X2_75 im_X2_flippedEnds ho rfl rfl rfl (Nat.le_of_ble_eq_true rfl) (Nat.le_of_ble_eq_true rfl) rfl (RI.mono h (fun r2 M1 h => ?_))
  refine rn_istore_n (lv' := [(0, .ref o), (1, .int x1), (2, .int x2), (3, .int r2)]) (hd := dX2_turnWall_6) (i := 3) (hi := rfl) (hn := by decide) (hf := rfl) (hl := rfl) ?_
  refine rn_iload_n (i := 3) (x := r2) dX2_turnWall_7 rfl (by simp) ?_
  refine rn_if_ne (tgt := 13) dX2_turnWall_8 (by decide) (ite_go h (fun hc h => ?_) (fun hc h => ?_))
  · refine rn_iconst (v := 0) dX2_turnWall_11 rfl ?_
    exact rn_iret dX2_turnWall_12 rfl ⟨_, rfl, h⟩
  · refine rn_aload_n (i := 0) (x := o) dX2_turnWall_13 rfl (by simp) ?_
    refine rn_iconst (v := 1) dX2_turnWall_14 rfl ?_
    refine rn_iload_n (i := 1) (x := x1) dX2_turnWall_15 rfl (by simp) ?_
    refine rn_ishl dX2_turnWall_16 ?_
    refine rn_iconst (v := 1) dX2_turnWall_17 rfl ?_
    refine rn_iload_n (i := 2) (x := x2) dX2_turnWall_18 rfl (by simp) ?_
    refine rn_ishl dX2_turnWall_19 ?_
    refine rn_ior dX2_turnWall_20 ?_
    refine rn_callVv (as := [.int (((1 : Int32) <<< (x1 &&& 31)) ||| ((1 : Int32) <<< (x2 &&& 31)))]) (st := []) dX2_turnWall_21 mf_X2_dropCornersOf lk_X2_79 im_X2_dropCornersOf ho rfl rfl rfl (Nat.le_of_ble_eq_true rfl) (Nat.le_of_ble_eq_true rfl) rfl (RV.mono h (fun M3 h => ?_))
    refine rn_aload_n (i := 0) (x := o) dX2_turnWall_24 rfl (by simp) ?_
    refine rn_iload_n (i := 3) (x := r2) dX2_turnWall_25 rfl (by simp) ?_
    refine rn_iconst (v := 1) dX2_turnWall_26 rfl ?_
    refine rn_iload_n (i := 1) (x := x1) dX2_turnWall_27 rfl (by simp) ?_
    refine rn_ishl dX2_turnWall_28 ?_
    refine rn_ior dX2_turnWall_29 ?_
    refine rn_callVv (as := [.int (r2 ||| ((1 : Int32) <<< (x1 &&& 31)))]) (st := []) dX2_turnWall_30 mf_X2_addCorner lk_X2_58 im_X2_addCorner ho rfl rfl rfl (Nat.le_of_ble_eq_true rfl) (Nat.le_of_ble_eq_true rfl) rfl (RV.mono h (fun M4 h => ?_))
    refine rn_aload_n (i := 0) (x := o) dX2_turnWall_33 rfl (by simp) ?_
    refine rn_iload_n (i := 3) (x := r2) dX2_turnWall_34 rfl (by simp) ?_
    refine rn_iconst (v := 1) dX2_turnWall_35 rfl ?_
    refine rn_iload_n (i := 2) (x := x2) dX2_turnWall_36 rfl (by simp) ?_
    refine rn_ishl dX2_turnWall_37 ?_
    refine rn_ior dX2_turnWall_38 ?_
    refine rn_callVv (as := [.int (r2 ||| ((1 : Int32) <<< (x2 &&& 31)))]) (st := []) dX2_turnWall_39 mf_X2_addCorner lk_X2_58 im_X2_addCorner ho rfl rfl rfl (Nat.le_of_ble_eq_true rfl) (Nat.le_of_ble_eq_true rfl) rfl (RV.mono h (fun M5 h => ?_))
    refine rn_aload_n (i := 0) (x := o) dX2_turnWall_42 rfl (by simp) ?_
    refine rn_callVv (as := []) (st := []) dX2_turnWall_43 mf_X2_settle lk_X2_43 im_X2_settle ho rfl rfl rfl (Nat.le_of_ble_eq_true rfl) (Nat.le_of_ble_eq_true rfl) rfl (RV.mono h (fun M6 h => ?_))
    refine rn_iload_n (i := 3) (x := r2) dX2_turnWall_46 rfl (by simp) ?_
    exact rn_iret dX2_turnWall_47 rfl ⟨_, rfl, h⟩
