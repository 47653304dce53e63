theorem dX6_readUnit_0 : decode μX6_readUnit.2.1 0 = .ok (.aload_n 0, 1) := by decide +kernel
theorem dX6_readUnit_1 : decode μX6_readUnit.2.1 1 = .ok (.getfield 24, 3) := by decide +kernel
theorem dX6_readUnit_4 : decode μX6_readUnit.2.1 4 = .ok (.getfield 188, 3) := by decide +kernel
theorem dX6_readUnit_7 : decode μX6_readUnit.2.1 7 = .ok (.getfield 200, 3) := by decide +kernel
theorem dX6_readUnit_10 : decode μX6_readUnit.2.1 10 = .ok (.bipush 30, 2) := by decide +kernel
theorem dX6_readUnit_12 : decode μX6_readUnit.2.1 12 = .ok (.if_icmp .lt 9, 3) := by decide +kernel
theorem dX6_readUnit_15 : decode μX6_readUnit.2.1 15 = .ok (.aload_n 0, 1) := by decide +kernel
theorem dX6_readUnit_16 : decode μX6_readUnit.2.1 16 = .ok (.iconst 2, 1) := by decide +kernel
theorem dX6_readUnit_17 : decode μX6_readUnit.2.1 17 = .ok (.invokevirtual 79, 3) := by decide +kernel
theorem dX6_readUnit_20 : decode μX6_readUnit.2.1 20 = .ok (.return_, 1) := by decide +kernel
theorem dX6_readUnit_21 : decode μX6_readUnit.2.1 21 = .ok (.aload_n 0, 1) := by decide +kernel
theorem dX6_readUnit_22 : decode μX6_readUnit.2.1 22 = .ok (.getfield 24, 3) := by decide +kernel
theorem dX6_readUnit_25 : decode μX6_readUnit.2.1 25 = .ok (.getfield 188, 3) := by decide +kernel
theorem dX6_readUnit_28 : decode μX6_readUnit.2.1 28 = .ok (.dup, 1) := by decide +kernel
theorem dX6_readUnit_29 : decode μX6_readUnit.2.1 29 = .ok (.getfield 200, 3) := by decide +kernel
theorem dX6_readUnit_32 : decode μX6_readUnit.2.1 32 = .ok (.iconst 1, 1) := by decide +kernel
theorem dX6_readUnit_33 : decode μX6_readUnit.2.1 33 = .ok (.iadd, 1) := by decide +kernel
theorem dX6_readUnit_34 : decode μX6_readUnit.2.1 34 = .ok (.putfield 200, 3) := by decide +kernel
theorem dX6_readUnit_37 : decode μX6_readUnit.2.1 37 = .ok (.aload_n 0, 1) := by decide +kernel
theorem dX6_readUnit_38 : decode μX6_readUnit.2.1 38 = .ok (.bipush 40, 2) := by decide +kernel
theorem dX6_readUnit_40 : decode μX6_readUnit.2.1 40 = .ok (.invokevirtual 114, 3) := by decide +kernel
theorem dX6_readUnit_43 : decode μX6_readUnit.2.1 43 = .ok (.ifCond .eq 41, 3) := by decide +kernel
theorem dX6_readUnit_46 : decode μX6_readUnit.2.1 46 = .ok (.aload_n 0, 1) := by decide +kernel
theorem dX6_readUnit_47 : decode μX6_readUnit.2.1 47 = .ok (.iload_n 1, 1) := by decide +kernel
theorem dX6_readUnit_48 : decode μX6_readUnit.2.1 48 = .ok (.invokevirtual 185, 3) := by decide +kernel
theorem dX6_readUnit_51 : decode μX6_readUnit.2.1 51 = .ok (.ifCond .ne 4, 3) := by decide +kernel
theorem dX6_readUnit_54 : decode μX6_readUnit.2.1 54 = .ok (.return_, 1) := by decide +kernel
theorem dX6_readUnit_55 : decode μX6_readUnit.2.1 55 = .ok (.aload_n 0, 1) := by decide +kernel
theorem dX6_readUnit_56 : decode μX6_readUnit.2.1 56 = .ok (.invokevirtual 57, 3) := by decide +kernel
theorem dX6_readUnit_59 : decode μX6_readUnit.2.1 59 = .ok (.aload_n 0, 1) := by decide +kernel
theorem dX6_readUnit_60 : decode μX6_readUnit.2.1 60 = .ok (.iconst 0, 1) := by decide +kernel
theorem dX6_readUnit_61 : decode μX6_readUnit.2.1 61 = .ok (.iload_n 1, 1) := by decide +kernel
theorem dX6_readUnit_62 : decode μX6_readUnit.2.1 62 = .ok (.iconst 1, 1) := by decide +kernel
theorem dX6_readUnit_63 : decode μX6_readUnit.2.1 63 = .ok (.iadd, 1) := by decide +kernel
theorem dX6_readUnit_64 : decode μX6_readUnit.2.1 64 = .ok (.invokevirtual 178, 3) := by decide +kernel
theorem dX6_readUnit_67 : decode μX6_readUnit.2.1 67 = .ok (.aload_n 0, 1) := by decide +kernel
theorem dX6_readUnit_68 : decode μX6_readUnit.2.1 68 = .ok (.bipush 41, 2) := by decide +kernel
theorem dX6_readUnit_70 : decode μX6_readUnit.2.1 70 = .ok (.invokevirtual 114, 3) := by decide +kernel
theorem dX6_readUnit_73 : decode μX6_readUnit.2.1 73 = .ok (.ifCond .ne 53, 3) := by decide +kernel
theorem dX6_readUnit_76 : decode μX6_readUnit.2.1 76 = .ok (.aload_n 0, 1) := by decide +kernel
theorem dX6_readUnit_77 : decode μX6_readUnit.2.1 77 = .ok (.iconst 2, 1) := by decide +kernel
theorem dX6_readUnit_78 : decode μX6_readUnit.2.1 78 = .ok (.invokevirtual 79, 3) := by decide +kernel
theorem dX6_readUnit_81 : decode μX6_readUnit.2.1 81 = .ok (.goto 45, 3) := by decide +kernel
theorem dX6_readUnit_84 : decode μX6_readUnit.2.1 84 = .ok (.aload_n 0, 1) := by decide +kernel
theorem dX6_readUnit_85 : decode μX6_readUnit.2.1 85 = .ok (.getfield 35, 3) := by decide +kernel
theorem dX6_readUnit_88 : decode μX6_readUnit.2.1 88 = .ok (.iconst 2, 1) := by decide +kernel
theorem dX6_readUnit_89 : decode μX6_readUnit.2.1 89 = .ok (.if_icmp .ne 10, 3) := by decide +kernel
theorem dX6_readUnit_92 : decode μX6_readUnit.2.1 92 = .ok (.aload_n 0, 1) := by decide +kernel
theorem dX6_readUnit_93 : decode μX6_readUnit.2.1 93 = .ok (.getfield 41, 3) := by decide +kernel
theorem dX6_readUnit_96 : decode μX6_readUnit.2.1 96 = .ok (.goto 7, 3) := by decide +kernel
theorem dX6_readUnit_99 : decode μX6_readUnit.2.1 99 = .ok (.aload_n 0, 1) := by decide +kernel
theorem dX6_readUnit_100 : decode μX6_readUnit.2.1 100 = .ok (.invokevirtual 203, 3) := by decide +kernel
theorem dX6_readUnit_103 : decode μX6_readUnit.2.1 103 = .ok (.istore_n 2, 1) := by decide +kernel
theorem dX6_readUnit_104 : decode μX6_readUnit.2.1 104 = .ok (.iload_n 2, 1) := by decide +kernel
theorem dX6_readUnit_105 : decode μX6_readUnit.2.1 105 = .ok (.bipush (-6), 2) := by decide +kernel
theorem dX6_readUnit_107 : decode μX6_readUnit.2.1 107 = .ok (.if_icmp .ne 8, 3) := by decide +kernel
theorem dX6_readUnit_110 : decode μX6_readUnit.2.1 110 = .ok (.aload_n 0, 1) := by decide +kernel
theorem dX6_readUnit_111 : decode μX6_readUnit.2.1 111 = .ok (.iconst 2, 1) := by decide +kernel
theorem dX6_readUnit_112 : decode μX6_readUnit.2.1 112 = .ok (.invokevirtual 79, 3) := by decide +kernel
theorem dX6_readUnit_115 : decode μX6_readUnit.2.1 115 = .ok (.aload_n 0, 1) := by decide +kernel
theorem dX6_readUnit_116 : decode μX6_readUnit.2.1 116 = .ok (.getfield 24, 3) := by decide +kernel
theorem dX6_readUnit_119 : decode μX6_readUnit.2.1 119 = .ok (.getfield 188, 3) := by decide +kernel
theorem dX6_readUnit_122 : decode μX6_readUnit.2.1 122 = .ok (.iload_n 2, 1) := by decide +kernel
theorem dX6_readUnit_123 : decode μX6_readUnit.2.1 123 = .ok (.invokevirtual 194, 3) := by decide +kernel
theorem dX6_readUnit_126 : decode μX6_readUnit.2.1 126 = .ok (.aload_n 0, 1) := by decide +kernel
theorem dX6_readUnit_127 : decode μX6_readUnit.2.1 127 = .ok (.invokevirtual 57, 3) := by decide +kernel
theorem dX6_readUnit_130 : decode μX6_readUnit.2.1 130 = .ok (.return_, 1) := by decide +kernel
set_option maxRecDepth 20000 in
theorem sg_X6_readUnit_0 {d : Nat} {x1 : Int32} {M : Mem} {K : (Mem → Prop)}  (h : (∃ t1, nx (ri M 1 3) = t1 ∧ kd t1 = (0, 7) ∧ (if ri M (t1 + 7) 4 < 30 then (∃ t2, nx (ri M 1 3) = t2 ∧ kd t2 = (0, 7) ∧ (∀ M3, M3 = wi M (t2 + 7) 4 ((ri M (t2 + 7) 4) + 1) → (CI d μX6_isSign [.ref 1, .int 40] M3 (fun r5 M4 => (if r5 = 0 then (if ri M4 1 6 = 2 then (if ri M4 1 8 = (-6) then (CV d μX6_blame [.ref 1, .int 2] M4 (fun M6 => RV (d + 1) μX6_readUnit 115 [(0, .ref 1), (1, .int x1), (2, .int (ri M4 1 8))] [] M6 K)) else RV (d + 1) μX6_readUnit 115 [(0, .ref 1), (1, .int x1), (2, .int (ri M4 1 8))] [] M4 K) else (CI d μX6_givenHere [.ref 1] M4 (fun r8 M7 => (if r8 = (-6) then (CV d μX6_blame [.ref 1, .int 2] M7 (fun M9 => RV (d + 1) μX6_readUnit 115 [(0, .ref 1), (1, .int x1), (2, .int r8)] [] M9 K)) else RV (d + 1) μX6_readUnit 115 [(0, .ref 1), (1, .int x1), (2, .int r8)] [] M7 K)))) else (CI d μX6_mayNest [.ref 1, .int x1] M4 (fun r11 M10 => (if r11 = 0 then K M10 else (CV d μX6_advance [.ref 1] M10 (fun M12 => (CV d μX6_readPart [.ref 1, .int 0, .int (x1 + 1)] M12 (fun M13 => (CI d μX6_isSign [.ref 1, .int 41] M13 (fun r15 M14 => (if r15 = 0 then (CV d μX6_blame [.ref 1, .int 2] M14 (fun M16 => (CV d μX6_advance [.ref 1] M16 (fun M17 => K M17)))) else (CV d μX6_advance [.ref 1] M14 (fun M18 => K M18))))))))))))))))) else (CV d μX6_blame [.ref 1, .int 2] M (fun M19 => K M19))))) : CV (d + 1) μX6_readUnit [.ref 1, .int x1] M K := by
  show Rn (d + 1) μX6_readUnit 0 [(0, .ref 1), (1, .int x1)] [] M _
  refine rn_aload_n (i := 0) (x := 1) dX6_readUnit_0 rfl (by simp) ?_
  obtain ⟨t1, ht1e, ht1, h⟩ := h
  refine rn_getd dX6_readUnit_1 rfl gf_X6_24 rfl ht1e ?_
  refine rn_getr (t := t1 + 7) dX6_readUnit_4 ht1 gf_X6_188 rfl (telling_refs _ ht1).2.1.1 ?_
  refine rn_geti dX6_readUnit_7 (telling_refs _ ht1).2.1.2 gf_X6_200 (by decide) ?_
  refine rn_bipush (v := 30) dX6_readUnit_10 rfl ?_
  refine rn_icmp_lt (tgt := 21) dX6_readUnit_12 (by decide) (ite_go h (fun hc h => ?_) (fun hc h => ?_))
  · refine rn_aload_n (i := 0) (x := 1) dX6_readUnit_21 rfl (by simp) ?_
    obtain ⟨t2, ht2e, ht2, h⟩ := h
    refine rn_getd dX6_readUnit_22 rfl gf_X6_24 rfl ht2e ?_
    refine rn_getr (t := t2 + 7) dX6_readUnit_25 ht2 gf_X6_188 rfl (telling_refs _ ht2).2.1.1 ?_
    refine rn_dup dX6_readUnit_28 rfl ?_
    refine rn_geti dX6_readUnit_29 (telling_refs _ ht2).2.1.2 gf_X6_200 (by decide) ?_
    refine rn_iconst (v := 1) dX6_readUnit_32 rfl ?_
    refine rn_iadd dX6_readUnit_33 ?_
    have h := h _ rfl
    refine rn_puti dX6_readUnit_34 (telling_refs _ ht2).2.1.2 pf_X6_200 (by decide) rfl rfl ?_
    generalize wi M (t2 + 7) 4 ((ri M (t2 + 7) 4) + 1) = M3 at h ⊢
    refine rn_aload_n (i := 0) (x := 1) dX6_readUnit_37 rfl (by simp) ?_
    refine rn_bipush (v := 40) dX6_readUnit_38 rfl ?_
    refine rn_callVi (as := [.int 40]) (st := []) dX6_readUnit_40 mf_X6_isSign lk_X6_114 im_X6_isSign rfl rfl rfl rfl (Nat.le_of_ble_eq_true rfl) (Nat.le_of_ble_eq_true rfl) rfl (RI.mono h (fun r5 M4 h => ?_))
    refine rn_if_eq (tgt := 84) dX6_readUnit_43 (by decide) (ite_go h (fun hc h => ?_) (fun hc h => ?_))
    · refine rn_aload_n (i := 0) (x := 1) dX6_readUnit_84 rfl (by simp) ?_
      refine rn_geti dX6_readUnit_85 rfl gf_X6_35 (by decide) ?_
      refine rn_iconst (v := 2) dX6_readUnit_88 rfl ?_
      refine rn_icmp_ne (tgt := 99) dX6_readUnit_89 (by decide) (ite_go h (fun hc h => ?_) (fun hc h => ?_))
      · refine rn_aload_n (i := 0) (x := 1) dX6_readUnit_92 rfl (by simp) ?_
        refine rn_geti dX6_readUnit_93 rfl gf_X6_41 (by decide) ?_
        refine rn_goto (tgt := 103) dX6_readUnit_96 (by decide) ?_
        refine rn_istore_n (lv' := [(0, .ref 1), (1, .int x1), (2, .int (ri M4 1 8))]) (hd := dX6_readUnit_103) (i := 2) (hi := rfl) (hn := by decide) (hf := rfl) (hl := rfl) ?_
        refine rn_iload_n (i := 2) (x := ri M4 1 8) dX6_readUnit_104 rfl (by simp) ?_
        refine rn_bipush (v := -6) dX6_readUnit_105 rfl ?_
        refine rn_icmp_ne (tgt := 115) dX6_readUnit_107 (by decide) (ite_go h (fun hc h => ?_) (fun hc h => ?_))
        · refine rn_aload_n (i := 0) (x := 1) dX6_readUnit_110 rfl (by simp) ?_
          refine rn_iconst (v := 2) dX6_readUnit_111 rfl ?_
          refine rn_callVv (as := [.int 2]) (st := []) dX6_readUnit_112 mf_X6_blame lk_X6_79 im_X6_blame rfl rfl rfl rfl (Nat.le_of_ble_eq_true rfl) (Nat.le_of_ble_eq_true rfl) rfl (RV.mono h (fun M6 h => ?_))
          exact h
        · exact h
      · refine rn_aload_n (i := 0) (x := 1) dX6_readUnit_99 rfl (by simp) ?_
        refine rn_callVi (as := []) (st := []) dX6_readUnit_100 mf_X6_givenHere lk_X6_203 im_X6_givenHere rfl rfl rfl rfl (Nat.le_of_ble_eq_true rfl) (Nat.le_of_ble_eq_true rfl) rfl (RI.mono h (fun r8 M7 h => ?_))
        refine rn_istore_n (lv' := [(0, .ref 1), (1, .int x1), (2, .int r8)]) (hd := dX6_readUnit_103) (i := 2) (hi := rfl) (hn := by decide) (hf := rfl) (hl := rfl) ?_
        refine rn_iload_n (i := 2) (x := r8) dX6_readUnit_104 rfl (by simp) ?_
        refine rn_bipush (v := -6) dX6_readUnit_105 rfl ?_
        refine rn_icmp_ne (tgt := 115) dX6_readUnit_107 (by decide) (ite_go h (fun hc h => ?_) (fun hc h => ?_))
        · refine rn_aload_n (i := 0) (x := 1) dX6_readUnit_110 rfl (by simp) ?_
          refine rn_iconst (v := 2) dX6_readUnit_111 rfl ?_
          refine rn_callVv (as := [.int 2]) (st := []) dX6_readUnit_112 mf_X6_blame lk_X6_79 im_X6_blame rfl rfl rfl rfl (Nat.le_of_ble_eq_true rfl) (Nat.le_of_ble_eq_true rfl) rfl (RV.mono h (fun M9 h => ?_))
          exact h
        · exact h
    · refine rn_aload_n (i := 0) (x := 1) dX6_readUnit_46 rfl (by simp) ?_
      refine rn_iload_n (i := 1) (x := x1) dX6_readUnit_47 rfl (by simp) ?_
      refine rn_callVi (as := [.int x1]) (st := []) dX6_readUnit_48 mf_X6_mayNest lk_X6_185 im_X6_mayNest rfl rfl rfl rfl (Nat.le_of_ble_eq_true rfl) (Nat.le_of_ble_eq_true rfl) rfl (RI.mono h (fun r11 M10 h => ?_))
      refine rn_if_ne (tgt := 55) dX6_readUnit_51 (by decide) (ite_go h (fun hc h => ?_) (fun hc h => ?_))
      · exact rn_ret dX6_readUnit_54 rfl ⟨rfl, h⟩
      · refine rn_aload_n (i := 0) (x := 1) dX6_readUnit_55 rfl (by simp) ?_
        refine rn_callVv (as := []) (st := []) dX6_readUnit_56 mf_X6_advance lk_X6_57 im_X6_advance rfl rfl rfl rfl (Nat.le_of_ble_eq_true rfl) (Nat.le_of_ble_eq_true rfl) rfl (RV.mono h (fun M12 h => ?_))
        refine rn_aload_n (i := 0) (x := 1) dX6_readUnit_59 rfl (by simp) ?_
        refine rn_iconst (v := 0) dX6_readUnit_60 rfl ?_
        refine rn_iload_n (i := 1) (x := x1) dX6_readUnit_61 rfl (by simp) ?_
        refine rn_iconst (v := 1) dX6_readUnit_62 rfl ?_
        refine rn_iadd dX6_readUnit_63 ?_
        refine rn_callVv (as := [.int 0, .int (x1 + 1)]) (st := []) dX6_readUnit_64 mf_X6_readPart lk_X6_178 im_X6_readPart rfl rfl rfl rfl (Nat.le_of_ble_eq_true rfl) (Nat.le_of_ble_eq_true rfl) rfl (RV.mono h (fun M13 h => ?_))
        refine rn_aload_n (i := 0) (x := 1) dX6_readUnit_67 rfl (by simp) ?_
        refine rn_bipush (v := 41) dX6_readUnit_68 rfl ?_
        refine rn_callVi (as := [.int 41]) (st := []) dX6_readUnit_70 mf_X6_isSign lk_X6_114 im_X6_isSign rfl rfl rfl rfl (Nat.le_of_ble_eq_true rfl) (Nat.le_of_ble_eq_true rfl) rfl (RI.mono h (fun r15 M14 h => ?_))
        refine rn_if_ne (tgt := 126) dX6_readUnit_73 (by decide) (ite_go h (fun hc h => ?_) (fun hc h => ?_))
        · refine rn_aload_n (i := 0) (x := 1) dX6_readUnit_76 rfl (by simp) ?_
          refine rn_iconst (v := 2) dX6_readUnit_77 rfl ?_
          refine rn_callVv (as := [.int 2]) (st := []) dX6_readUnit_78 mf_X6_blame lk_X6_79 im_X6_blame rfl rfl rfl rfl (Nat.le_of_ble_eq_true rfl) (Nat.le_of_ble_eq_true rfl) rfl (RV.mono h (fun M16 h => ?_))
          refine rn_goto (tgt := 126) dX6_readUnit_81 (by decide) ?_
          refine rn_aload_n (i := 0) (x := 1) dX6_readUnit_126 rfl (by simp) ?_
          refine rn_callVv (as := []) (st := []) dX6_readUnit_127 mf_X6_advance lk_X6_57 im_X6_advance rfl rfl rfl rfl (Nat.le_of_ble_eq_true rfl) (Nat.le_of_ble_eq_true rfl) rfl (RV.mono h (fun M17 h => ?_))
          exact rn_ret dX6_readUnit_130 rfl ⟨rfl, h⟩
        · refine rn_aload_n (i := 0) (x := 1) dX6_readUnit_126 rfl (by simp) ?_
          refine rn_callVv (as := []) (st := []) dX6_readUnit_127 mf_X6_advance lk_X6_57 im_X6_advance rfl rfl rfl rfl (Nat.le_of_ble_eq_true rfl) (Nat.le_of_ble_eq_true rfl) rfl (RV.mono h (fun M18 h => ?_))
          exact rn_ret dX6_readUnit_130 rfl ⟨rfl, h⟩
  · refine rn_aload_n (i := 0) (x := 1) dX6_readUnit_15 rfl (by simp) ?_
    refine rn_iconst (v := 2) dX6_readUnit_16 rfl ?_
    refine rn_callVv (as := [.int 2]) (st := []) dX6_readUnit_17 mf_X6_blame lk_X6_79 im_X6_blame rfl rfl rfl rfl (Nat.le_of_ble_eq_true rfl) (Nat.le_of_ble_eq_true rfl) rfl (RV.mono h (fun M19 h => ?_))
    exact rn_ret dX6_readUnit_20 rfl ⟨rfl, h⟩
set_option maxRecDepth 20000 in
theorem sg_X6_readUnit_115 {d : Nat} {x1 : Int32} {x2 : Int32} {M : Mem} {K : (Mem → Prop)}  (h : (∃ t1, nx (ri M 1 3) = t1 ∧ kd t1 = (0, 7) ∧ (CV d μX1_put [.ref (t1 + 7), .int x2] M (fun M2 => (CV d μX6_advance [.ref 1] M2 (fun M3 => K M3)))))) : RV (d + 1) μX6_readUnit 115 [(0, .ref 1), (1, .int x1), (2, .int x2)] [] M K := by
  show Rn (d + 1) μX6_readUnit 115 [(0, .ref 1), (1, .int x1), (2, .int x2)] [] M _
  refine rn_aload_n (i := 0) (x := 1) dX6_readUnit_115 rfl (by simp) ?_
  obtain ⟨t1, ht1e, ht1, h⟩ := h
  refine rn_getd dX6_readUnit_116 rfl gf_X6_24 rfl ht1e ?_
  refine rn_getr (t := t1 + 7) dX6_readUnit_119 ht1 gf_X6_188 rfl (telling_refs _ ht1).2.1.1 ?_
  refine rn_iload_n (i := 2) (x := x2) dX6_readUnit_122 rfl (by simp) ?_
  refine rn_callVv (as := [.int x2]) (st := []) dX6_readUnit_123 mf_X1_put lk_X6_194 im_X1_put (telling_refs _ ht1).2.1.2 rfl rfl rfl (Nat.le_of_ble_eq_true rfl) (Nat.le_of_ble_eq_true rfl) rfl (RV.mono h (fun M2 h => ?_))
  refine rn_aload_n (i := 0) (x := 1) dX6_readUnit_126 rfl (by simp) ?_
  refine rn_callVv (as := []) (st := []) dX6_readUnit_127 mf_X6_advance lk_X6_57 im_X6_advance rfl rfl rfl rfl (Nat.le_of_ble_eq_true rfl) (Nat.le_of_ble_eq_true rfl) rfl (RV.mono h (fun M3 h => ?_))
  exact rn_ret dX6_readUnit_130 rfl ⟨rfl, h⟩
theorem dX6_mayNest_0 : decode μX6_mayNest.2.1 0 = .ok (.iload_n 1, 1) := by decide +kernel
theorem dX6_mayNest_1 : decode μX6_mayNest.2.1 1 = .ok (.bipush 7, 2) := by decide +kernel
theorem dX6_mayNest_3 : decode μX6_mayNest.2.1 3 = .ok (.if_icmp .lt 10, 3) := by decide +kernel
theorem dX6_mayNest_6 : decode μX6_mayNest.2.1 6 = .ok (.aload_n 0, 1) := by decide +kernel
theorem dX6_mayNest_7 : decode μX6_mayNest.2.1 7 = .ok (.iconst 2, 1) := by decide +kernel
theorem dX6_mayNest_8 : decode μX6_mayNest.2.1 8 = .ok (.invokevirtual 79, 3) := by decide +kernel
theorem dX6_mayNest_11 : decode μX6_mayNest.2.1 11 = .ok (.iconst 0, 1) := by decide +kernel
theorem dX6_mayNest_12 : decode μX6_mayNest.2.1 12 = .ok (.ireturn, 1) := by decide +kernel
theorem dX6_mayNest_13 : decode μX6_mayNest.2.1 13 = .ok (.iconst 1, 1) := by decide +kernel
theorem dX6_mayNest_14 : decode μX6_mayNest.2.1 14 = .ok (.ireturn, 1) := by decide +kernel
set_option maxRecDepth 20000 in
theorem sg_X6_mayNest_0 {d : Nat} {x1 : Int32} {M : Mem} {K : (Int32 → Mem → Prop)}  (h : (if x1 < 7 then K 1 M else (CV d μX6_blame [.ref 1, .int 2] M (fun M1 => K 0 M1)))) : CI (d + 1) μX6_mayNest [.ref 1, .int x1] M K := by
  show Rn (d + 1) μX6_mayNest 0 [(0, .ref 1), (1, .int x1)] [] M _
  refine rn_iload_n (i := 1) (x := x1) dX6_mayNest_0 rfl (by simp) ?_
  refine rn_bipush (v := 7) dX6_mayNest_1 rfl ?_
  refine rn_icmp_lt (tgt := 13) dX6_mayNest_3 (by decide) (ite_go h (fun hc h => ?_) (fun hc h => ?_))
  · refine rn_iconst (v := 1) dX6_mayNest_13 rfl ?_
    exact rn_zret dX6_mayNest_14 rfl (by decide) ⟨_, rfl, h⟩
  · refine rn_aload_n (i := 0) (x := 1) dX6_mayNest_6 rfl (by simp) ?_
    refine rn_iconst (v := 2) dX6_mayNest_7 rfl ?_
    refine rn_callVv (as := [.int 2]) (st := []) dX6_mayNest_8 mf_X6_blame lk_X6_79 im_X6_blame rfl rfl rfl rfl (Nat.le_of_ble_eq_true rfl) (Nat.le_of_ble_eq_true rfl) rfl (RV.mono h (fun M1 h => ?_))
    refine rn_iconst (v := 0) dX6_mayNest_11 rfl ?_
    exact rn_zret dX6_mayNest_12 rfl (by decide) ⟨_, rfl, h⟩
theorem dX6_givenHere_0 : decode μX6_givenHere.2.1 0 = .ok (.aload_n 0, 1) := by decide +kernel
theorem dX6_givenHere_1 : decode μX6_givenHere.2.1 1 = .ok (.getfield 35, 3) := by decide +kernel
theorem dX6_givenHere_4 : decode μX6_givenHere.2.1 4 = .ok (.iconst 1, 1) := by decide +kernel
theorem dX6_givenHere_5 : decode μX6_givenHere.2.1 5 = .ok (.if_icmp .ne 10, 3) := by decide +kernel
theorem dX6_givenHere_8 : decode μX6_givenHere.2.1 8 = .ok (.aload_n 0, 1) := by decide +kernel
theorem dX6_givenHere_9 : decode μX6_givenHere.2.1 9 = .ok (.getfield 47, 3) := by decide +kernel
theorem dX6_givenHere_12 : decode μX6_givenHere.2.1 12 = .ok (.goto 4, 3) := by decide +kernel
theorem dX6_givenHere_15 : decode μX6_givenHere.2.1 15 = .ok (.iconst (-1), 1) := by decide +kernel
theorem dX6_givenHere_16 : decode μX6_givenHere.2.1 16 = .ok (.tableswitch 66 5 13 #[54, 66, 66, 66, 66, 52, 57, 60, 63], 52) := by decide +kernel
theorem dX6_givenHere_68 : decode μX6_givenHere.2.1 68 = .ok (.iconst (-1), 1) := by decide +kernel
theorem dX6_givenHere_69 : decode μX6_givenHere.2.1 69 = .ok (.ireturn, 1) := by decide +kernel
theorem dX6_givenHere_70 : decode μX6_givenHere.2.1 70 = .ok (.bipush (-2), 2) := by decide +kernel
theorem dX6_givenHere_72 : decode μX6_givenHere.2.1 72 = .ok (.ireturn, 1) := by decide +kernel
theorem dX6_givenHere_73 : decode μX6_givenHere.2.1 73 = .ok (.bipush (-3), 2) := by decide +kernel
theorem dX6_givenHere_75 : decode μX6_givenHere.2.1 75 = .ok (.ireturn, 1) := by decide +kernel
theorem dX6_givenHere_76 : decode μX6_givenHere.2.1 76 = .ok (.bipush (-4), 2) := by decide +kernel
theorem dX6_givenHere_78 : decode μX6_givenHere.2.1 78 = .ok (.ireturn, 1) := by decide +kernel
theorem dX6_givenHere_79 : decode μX6_givenHere.2.1 79 = .ok (.bipush (-5), 2) := by decide +kernel
theorem dX6_givenHere_81 : decode μX6_givenHere.2.1 81 = .ok (.ireturn, 1) := by decide +kernel
theorem dX6_givenHere_82 : decode μX6_givenHere.2.1 82 = .ok (.bipush (-6), 2) := by decide +kernel
theorem dX6_givenHere_84 : decode μX6_givenHere.2.1 84 = .ok (.ireturn, 1) := by decide +kernel
set_option maxRecDepth 20000 in
theorem sg_X6_givenHere_0 {d : Nat}  {M : Mem} {K : (Int32 → Mem → Prop)}  (h : (if ri M 1 6 = 1 then RI d μX6_givenHere 16 [(0, .ref 1)] [.int (ri M 1 10)] M K else RI d μX6_givenHere 16 [(0, .ref 1)] [.int ((-1))] M K)) : CI d μX6_givenHere [.ref 1] M K := by
  show Rn d μX6_givenHere 0 [(0, .ref 1)] [] M _
  refine rn_aload_n (i := 0) (x := 1) dX6_givenHere_0 rfl (by simp) ?_
  refine rn_geti dX6_givenHere_1 rfl gf_X6_35 (by decide) ?_
  refine rn_iconst (v := 1) dX6_givenHere_4 rfl ?_
  refine rn_icmp_ne (tgt := 15) dX6_givenHere_5 (by decide) (ite_go h (fun hc h => ?_) (fun hc h => ?_))
  · refine rn_aload_n (i := 0) (x := 1) dX6_givenHere_8 rfl (by simp) ?_
    refine rn_geti dX6_givenHere_9 rfl gf_X6_47 (by decide) ?_
    refine rn_goto (tgt := 16) dX6_givenHere_12 (by decide) ?_
    exact h
  · refine rn_iconst (v := -1) dX6_givenHere_15 rfl ?_
    exact h
set_option maxRecDepth 20000 in
theorem sg_X6_givenHere_16 {d : Nat} {y0 : Int32} {M : Mem} {K : (Int32 → Mem → Prop)}  (h : ((y0 = 5 → K ((-2)) M) ∧ (y0 = 6 → K ((-6)) M) ∧ (y0 = 7 → K ((-6)) M) ∧ (y0 = 8 → K ((-6)) M) ∧ (y0 = 9 → K ((-6)) M) ∧ (y0 = 10 → K ((-1)) M) ∧ (y0 = 11 → K ((-3)) M) ∧ (y0 = 12 → K ((-4)) M) ∧ (y0 = 13 → K ((-5)) M) ∧ ((y0).toInt < 5 ∨ 13 < (y0).toInt → K ((-6)) M))) : RI d μX6_givenHere 16 [(0, .ref 1)] [.int y0] M K := by
  show Rn d μX6_givenHere 16 [(0, .ref 1)] [.int y0] M _
  by_cases hlo : (y0).toInt < 5
  · have h := h.2.2.2.2.2.2.2.2.2 (Or.inl hlo)
    refine rn_tswitch (tgt := 82) dX6_givenHere_16 (Or.inl ⟨Or.inl hlo, by decide⟩) ?_
    refine rn_bipush (v := -6) dX6_givenHere_82 rfl ?_
    exact rn_iret dX6_givenHere_84 rfl ⟨_, rfl, h⟩
  by_cases hhi : 13 < (y0).toInt
  · have h := h.2.2.2.2.2.2.2.2.2 (Or.inr hhi)
    refine rn_tswitch (tgt := 82) dX6_givenHere_16 (Or.inl ⟨Or.inr hhi, by decide⟩) ?_
    refine rn_bipush (v := -6) dX6_givenHere_82 rfl ?_
    exact rn_iret dX6_givenHere_84 rfl ⟨_, rfl, h⟩
  have hv : (y0).toInt = 5 ∨ (y0).toInt = 6 ∨ (y0).toInt = 7 ∨ (y0).toInt = 8 ∨ (y0).toInt = 9 ∨ (y0).toInt = 10 ∨ (y0).toInt = 11 ∨ (y0).toInt = 12 ∨ (y0).toInt = 13 := by omega
  rcases hv with hv | hv | hv | hv | hv | hv | hv | hv | hv
  · have h := h.1 (Int32.toInt_inj.mp hv)
    refine rn_tswitch (tgt := 70) dX6_givenHere_16 (Or.inr ⟨hlo, hhi, _, by rw [hv]; rfl, by decide⟩) ?_
    refine rn_bipush (v := -2) dX6_givenHere_70 rfl ?_
    exact rn_iret dX6_givenHere_72 rfl ⟨_, rfl, h⟩
  · have h := h.2.1 (Int32.toInt_inj.mp hv)
    refine rn_tswitch (tgt := 82) dX6_givenHere_16 (Or.inr ⟨hlo, hhi, _, by rw [hv]; rfl, by decide⟩) ?_
    refine rn_bipush (v := -6) dX6_givenHere_82 rfl ?_
    exact rn_iret dX6_givenHere_84 rfl ⟨_, rfl, h⟩
  · have h := h.2.2.1 (Int32.toInt_inj.mp hv)
    refine rn_tswitch (tgt := 82) dX6_givenHere_16 (Or.inr ⟨hlo, hhi, _, by rw [hv]; rfl, by decide⟩) ?_
    refine rn_bipush (v := -6) dX6_givenHere_82 rfl ?_
    exact rn_iret dX6_givenHere_84 rfl ⟨_, rfl, h⟩
  · have h := h.2.2.2.1 (Int32.toInt_inj.mp hv)
    refine rn_tswitch (tgt := 82) dX6_givenHere_16 (Or.inr ⟨hlo, hhi, _, by rw [hv]; rfl, by decide⟩) ?_
    refine rn_bipush (v := -6) dX6_givenHere_82 rfl ?_
    exact rn_iret dX6_givenHere_84 rfl ⟨_, rfl, h⟩
  · have h := h.2.2.2.2.1 (Int32.toInt_inj.mp hv)
    refine rn_tswitch (tgt := 82) dX6_givenHere_16 (Or.inr ⟨hlo, hhi, _, by rw [hv]; rfl, by decide⟩) ?_
    refine rn_bipush (v := -6) dX6_givenHere_82 rfl ?_
    exact rn_iret dX6_givenHere_84 rfl ⟨_, rfl, h⟩
  · have h := h.2.2.2.2.2.1 (Int32.toInt_inj.mp hv)
    refine rn_tswitch (tgt := 68) dX6_givenHere_16 (Or.inr ⟨hlo, hhi, _, by rw [hv]; rfl, by decide⟩) ?_
    refine rn_iconst (v := -1) dX6_givenHere_68 rfl ?_
    exact rn_iret dX6_givenHere_69 rfl ⟨_, rfl, h⟩
  · have h := h.2.2.2.2.2.2.1 (Int32.toInt_inj.mp hv)
    refine rn_tswitch (tgt := 73) dX6_givenHere_16 (Or.inr ⟨hlo, hhi, _, by rw [hv]; rfl, by decide⟩) ?_
    refine rn_bipush (v := -3) dX6_givenHere_73 rfl ?_
    exact rn_iret dX6_givenHere_75 rfl ⟨_, rfl, h⟩
  · have h := h.2.2.2.2.2.2.2.1 (Int32.toInt_inj.mp hv)
    refine rn_tswitch (tgt := 76) dX6_givenHere_16 (Or.inr ⟨hlo, hhi, _, by rw [hv]; rfl, by decide⟩) ?_
    refine rn_bipush (v := -4) dX6_givenHere_76 rfl ?_
    exact rn_iret dX6_givenHere_78 rfl ⟨_, rfl, h⟩
  · have h := h.2.2.2.2.2.2.2.2.1 (Int32.toInt_inj.mp hv)
    refine rn_tswitch (tgt := 79) dX6_givenHere_16 (Or.inr ⟨hlo, hhi, _, by rw [hv]; rfl, by decide⟩) ?_
    refine rn_bipush (v := -5) dX6_givenHere_79 rfl ?_
    exact rn_iret dX6_givenHere_81 rfl ⟨_, rfl, h⟩
theorem dX6_opHere_0 : decode μX6_opHere.2.1 0 = .ok (.aload_n 0, 1) := by decide +kernel
theorem dX6_opHere_1 : decode μX6_opHere.2.1 1 = .ok (.getfield 35, 3) := by decide +kernel
theorem dX6_opHere_4 : decode μX6_opHere.2.1 4 = .ok (.iconst 1, 1) := by decide +kernel
theorem dX6_opHere_5 : decode μX6_opHere.2.1 5 = .ok (.if_icmp .ne 40, 3) := by decide +kernel
theorem dX6_opHere_8 : decode μX6_opHere.2.1 8 = .ok (.iload_n 1, 1) := by decide +kernel
theorem dX6_opHere_9 : decode μX6_opHere.2.1 9 = .ok (.ifCond .ne 15, 3) := by decide +kernel
theorem dX6_opHere_12 : decode μX6_opHere.2.1 12 = .ok (.aload_n 0, 1) := by decide +kernel
theorem dX6_opHere_13 : decode μX6_opHere.2.1 13 = .ok (.getfield 47, 3) := by decide +kernel
theorem dX6_opHere_16 : decode μX6_opHere.2.1 16 = .ok (.bipush 7, 2) := by decide +kernel
theorem dX6_opHere_18 : decode μX6_opHere.2.1 18 = .ok (.if_icmp .ne 6, 3) := by decide +kernel
theorem dX6_opHere_21 : decode μX6_opHere.2.1 21 = .ok (.bipush (-7), 2) := by decide +kernel
theorem dX6_opHere_23 : decode μX6_opHere.2.1 23 = .ok (.ireturn, 1) := by decide +kernel
theorem dX6_opHere_24 : decode μX6_opHere.2.1 24 = .ok (.iload_n 1, 1) := by decide +kernel
theorem dX6_opHere_25 : decode μX6_opHere.2.1 25 = .ok (.iconst 1, 1) := by decide +kernel
theorem dX6_opHere_26 : decode μX6_opHere.2.1 26 = .ok (.if_icmp .ne 17, 3) := by decide +kernel
theorem dX6_opHere_29 : decode μX6_opHere.2.1 29 = .ok (.aload_n 0, 1) := by decide +kernel
theorem dX6_opHere_30 : decode μX6_opHere.2.1 30 = .ok (.getfield 47, 3) := by decide +kernel
theorem dX6_opHere_33 : decode μX6_opHere.2.1 33 = .ok (.bipush 8, 2) := by decide +kernel
theorem dX6_opHere_35 : decode μX6_opHere.2.1 35 = .ok (.if_icmp .ne 8, 3) := by decide +kernel
theorem dX6_opHere_38 : decode μX6_opHere.2.1 38 = .ok (.bipush (-8), 2) := by decide +kernel
theorem dX6_opHere_40 : decode μX6_opHere.2.1 40 = .ok (.goto 4, 3) := by decide +kernel
theorem dX6_opHere_43 : decode μX6_opHere.2.1 43 = .ok (.iconst 0, 1) := by decide +kernel
theorem dX6_opHere_44 : decode μX6_opHere.2.1 44 = .ok (.ireturn, 1) := by decide +kernel
theorem dX6_opHere_45 : decode μX6_opHere.2.1 45 = .ok (.aload_n 0, 1) := by decide +kernel
theorem dX6_opHere_46 : decode μX6_opHere.2.1 46 = .ok (.getfield 35, 3) := by decide +kernel
theorem dX6_opHere_49 : decode μX6_opHere.2.1 49 = .ok (.iconst 3, 1) := by decide +kernel
theorem dX6_opHere_50 : decode μX6_opHere.2.1 50 = .ok (.if_icmp .ne 10, 3) := by decide +kernel
theorem dX6_opHere_53 : decode μX6_opHere.2.1 53 = .ok (.aload_n 0, 1) := by decide +kernel
theorem dX6_opHere_54 : decode μX6_opHere.2.1 54 = .ok (.getfield 44, 3) := by decide +kernel
theorem dX6_opHere_57 : decode μX6_opHere.2.1 57 = .ok (.goto 4, 3) := by decide +kernel
theorem dX6_opHere_60 : decode μX6_opHere.2.1 60 = .ok (.iconst 0, 1) := by decide +kernel
theorem dX6_opHere_61 : decode μX6_opHere.2.1 61 = .ok (.tableswitch 215 37 62 #[203, 215, 215, 215, 215, 179, 155, 215, 167, 215, 191, 215, 215, 215, 215, 215, 215, 215, 215, 215, 215, 215, 215, 119, 143, 131], 119) := by decide +kernel
theorem dX6_opHere_180 : decode μX6_opHere.2.1 180 = .ok (.iload_n 1, 1) := by decide +kernel
theorem dX6_opHere_181 : decode μX6_opHere.2.1 181 = .ok (.iconst 2, 1) := by decide +kernel
theorem dX6_opHere_182 : decode μX6_opHere.2.1 182 = .ok (.if_icmp .ne 8, 3) := by decide +kernel
theorem dX6_opHere_185 : decode μX6_opHere.2.1 185 = .ok (.bipush (-9), 2) := by decide +kernel
theorem dX6_opHere_187 : decode μX6_opHere.2.1 187 = .ok (.goto 4, 3) := by decide +kernel
theorem dX6_opHere_190 : decode μX6_opHere.2.1 190 = .ok (.iconst 0, 1) := by decide +kernel
theorem dX6_opHere_191 : decode μX6_opHere.2.1 191 = .ok (.ireturn, 1) := by decide +kernel
theorem dX6_opHere_192 : decode μX6_opHere.2.1 192 = .ok (.iload_n 1, 1) := by decide +kernel
theorem dX6_opHere_193 : decode μX6_opHere.2.1 193 = .ok (.iconst 2, 1) := by decide +kernel
theorem dX6_opHere_194 : decode μX6_opHere.2.1 194 = .ok (.if_icmp .ne 8, 3) := by decide +kernel
theorem dX6_opHere_197 : decode μX6_opHere.2.1 197 = .ok (.bipush (-10), 2) := by decide +kernel
theorem dX6_opHere_199 : decode μX6_opHere.2.1 199 = .ok (.goto 4, 3) := by decide +kernel
theorem dX6_opHere_202 : decode μX6_opHere.2.1 202 = .ok (.iconst 0, 1) := by decide +kernel
theorem dX6_opHere_203 : decode μX6_opHere.2.1 203 = .ok (.ireturn, 1) := by decide +kernel
theorem dX6_opHere_204 : decode μX6_opHere.2.1 204 = .ok (.iload_n 1, 1) := by decide +kernel
theorem dX6_opHere_205 : decode μX6_opHere.2.1 205 = .ok (.iconst 2, 1) := by decide +kernel
theorem dX6_opHere_206 : decode μX6_opHere.2.1 206 = .ok (.if_icmp .ne 8, 3) := by decide +kernel
theorem dX6_opHere_209 : decode μX6_opHere.2.1 209 = .ok (.bipush (-11), 2) := by decide +kernel
theorem dX6_opHere_211 : decode μX6_opHere.2.1 211 = .ok (.goto 4, 3) := by decide +kernel
theorem dX6_opHere_214 : decode μX6_opHere.2.1 214 = .ok (.iconst 0, 1) := by decide +kernel
theorem dX6_opHere_215 : decode μX6_opHere.2.1 215 = .ok (.ireturn, 1) := by decide +kernel
theorem dX6_opHere_216 : decode μX6_opHere.2.1 216 = .ok (.iload_n 1, 1) := by decide +kernel
theorem dX6_opHere_217 : decode μX6_opHere.2.1 217 = .ok (.iconst 3, 1) := by decide +kernel
theorem dX6_opHere_218 : decode μX6_opHere.2.1 218 = .ok (.if_icmp .ne 8, 3) := by decide +kernel
theorem dX6_opHere_221 : decode μX6_opHere.2.1 221 = .ok (.bipush (-12), 2) := by decide +kernel
theorem dX6_opHere_223 : decode μX6_opHere.2.1 223 = .ok (.goto 4, 3) := by decide +kernel
theorem dX6_opHere_226 : decode μX6_opHere.2.1 226 = .ok (.iconst 0, 1) := by decide +kernel
theorem dX6_opHere_227 : decode μX6_opHere.2.1 227 = .ok (.ireturn, 1) := by decide +kernel
theorem dX6_opHere_228 : decode μX6_opHere.2.1 228 = .ok (.iload_n 1, 1) := by decide +kernel
theorem dX6_opHere_229 : decode μX6_opHere.2.1 229 = .ok (.iconst 3, 1) := by decide +kernel
theorem dX6_opHere_230 : decode μX6_opHere.2.1 230 = .ok (.if_icmp .ne 8, 3) := by decide +kernel
theorem dX6_opHere_233 : decode μX6_opHere.2.1 233 = .ok (.bipush (-13), 2) := by decide +kernel
theorem dX6_opHere_235 : decode μX6_opHere.2.1 235 = .ok (.goto 4, 3) := by decide +kernel
theorem dX6_opHere_238 : decode μX6_opHere.2.1 238 = .ok (.iconst 0, 1) := by decide +kernel
theorem dX6_opHere_239 : decode μX6_opHere.2.1 239 = .ok (.ireturn, 1) := by decide +kernel
theorem dX6_opHere_240 : decode μX6_opHere.2.1 240 = .ok (.iload_n 1, 1) := by decide +kernel
theorem dX6_opHere_241 : decode μX6_opHere.2.1 241 = .ok (.iconst 4, 1) := by decide +kernel
theorem dX6_opHere_242 : decode μX6_opHere.2.1 242 = .ok (.if_icmp .ne 8, 3) := by decide +kernel
theorem dX6_opHere_245 : decode μX6_opHere.2.1 245 = .ok (.bipush (-14), 2) := by decide +kernel
theorem dX6_opHere_247 : decode μX6_opHere.2.1 247 = .ok (.goto 4, 3) := by decide +kernel
theorem dX6_opHere_250 : decode μX6_opHere.2.1 250 = .ok (.iconst 0, 1) := by decide +kernel
theorem dX6_opHere_251 : decode μX6_opHere.2.1 251 = .ok (.ireturn, 1) := by decide +kernel
theorem dX6_opHere_252 : decode μX6_opHere.2.1 252 = .ok (.iload_n 1, 1) := by decide +kernel
theorem dX6_opHere_253 : decode μX6_opHere.2.1 253 = .ok (.iconst 4, 1) := by decide +kernel
theorem dX6_opHere_254 : decode μX6_opHere.2.1 254 = .ok (.if_icmp .ne 8, 3) := by decide +kernel
theorem dX6_opHere_257 : decode μX6_opHere.2.1 257 = .ok (.bipush (-15), 2) := by decide +kernel
theorem dX6_opHere_259 : decode μX6_opHere.2.1 259 = .ok (.goto 4, 3) := by decide +kernel
theorem dX6_opHere_262 : decode μX6_opHere.2.1 262 = .ok (.iconst 0, 1) := by decide +kernel
theorem dX6_opHere_263 : decode μX6_opHere.2.1 263 = .ok (.ireturn, 1) := by decide +kernel
theorem dX6_opHere_264 : decode μX6_opHere.2.1 264 = .ok (.iload_n 1, 1) := by decide +kernel
theorem dX6_opHere_265 : decode μX6_opHere.2.1 265 = .ok (.iconst 4, 1) := by decide +kernel
theorem dX6_opHere_266 : decode μX6_opHere.2.1 266 = .ok (.if_icmp .ne 8, 3) := by decide +kernel
theorem dX6_opHere_269 : decode μX6_opHere.2.1 269 = .ok (.bipush (-16), 2) := by decide +kernel
theorem dX6_opHere_271 : decode μX6_opHere.2.1 271 = .ok (.goto 4, 3) := by decide +kernel
theorem dX6_opHere_274 : decode μX6_opHere.2.1 274 = .ok (.iconst 0, 1) := by decide +kernel
theorem dX6_opHere_275 : decode μX6_opHere.2.1 275 = .ok (.ireturn, 1) := by decide +kernel
theorem dX6_opHere_276 : decode μX6_opHere.2.1 276 = .ok (.iconst 0, 1) := by decide +kernel
theorem dX6_opHere_277 : decode μX6_opHere.2.1 277 = .ok (.ireturn, 1) := by decide +kernel
set_option maxRecDepth 20000 in
theorem sg_X6_opHere_0 {d : Nat} {x1 : Int32} {M : Mem} {K : (Int32 → Mem → Prop)}  (h : (if ri M 1 6 = 1 then (if x1 = 0 then (if ri M 1 10 = 7 then K ((-7)) M else (if x1 = 1 then (if ri M 1 10 = 8 then K ((-8)) M else K 0 M) else K 0 M)) else (if x1 = 1 then (if ri M 1 10 = 8 then K ((-8)) M else K 0 M) else K 0 M)) else (if ri M 1 6 = 3 then RI d μX6_opHere 61 [(0, .ref 1), (1, .int x1)] [.int (ri M 1 9)] M K else RI d μX6_opHere 61 [(0, .ref 1), (1, .int x1)] [.int 0] M K))) : CI d μX6_opHere [.ref 1, .int x1] M K := by
  show Rn d μX6_opHere 0 [(0, .ref 1), (1, .int x1)] [] M _
  refine rn_aload_n (i := 0) (x := 1) dX6_opHere_0 rfl (by simp) ?_
  refine rn_geti dX6_opHere_1 rfl gf_X6_35 (by decide) ?_
  refine rn_iconst (v := 1) dX6_opHere_4 rfl ?_
  refine rn_icmp_ne (tgt := 45) dX6_opHere_5 (by decide) (ite_go h (fun hc h => ?_) (fun hc h => ?_))
  · refine rn_iload_n (i := 1) (x := x1) dX6_opHere_8 rfl (by simp) ?_
    refine rn_if_ne (tgt := 24) dX6_opHere_9 (by decide) (ite_go h (fun hc h => ?_) (fun hc h => ?_))
    · refine rn_aload_n (i := 0) (x := 1) dX6_opHere_12 rfl (by simp) ?_
      refine rn_geti dX6_opHere_13 rfl gf_X6_47 (by decide) ?_
      refine rn_bipush (v := 7) dX6_opHere_16 rfl ?_
      refine rn_icmp_ne (tgt := 24) dX6_opHere_18 (by decide) (ite_go h (fun hc h => ?_) (fun hc h => ?_))
      · refine rn_bipush (v := -7) dX6_opHere_21 rfl ?_
        exact rn_iret dX6_opHere_23 rfl ⟨_, rfl, h⟩
      · refine rn_iload_n (i := 1) (x := x1) dX6_opHere_24 rfl (by simp) ?_
        refine rn_iconst (v := 1) dX6_opHere_25 rfl ?_
        refine rn_icmp_ne (tgt := 43) dX6_opHere_26 (by decide) (ite_go h (fun hc h => ?_) (fun hc h => ?_))
        · refine rn_aload_n (i := 0) (x := 1) dX6_opHere_29 rfl (by simp) ?_
          refine rn_geti dX6_opHere_30 rfl gf_X6_47 (by decide) ?_
          refine rn_bipush (v := 8) dX6_opHere_33 rfl ?_
          refine rn_icmp_ne (tgt := 43) dX6_opHere_35 (by decide) (ite_go h (fun hc h => ?_) (fun hc h => ?_))
          · refine rn_bipush (v := -8) dX6_opHere_38 rfl ?_
            refine rn_goto (tgt := 44) dX6_opHere_40 (by decide) ?_
            exact rn_iret dX6_opHere_44 rfl ⟨_, rfl, h⟩
          · refine rn_iconst (v := 0) dX6_opHere_43 rfl ?_
            exact rn_iret dX6_opHere_44 rfl ⟨_, rfl, h⟩
        · refine rn_iconst (v := 0) dX6_opHere_43 rfl ?_
          exact rn_iret dX6_opHere_44 rfl ⟨_, rfl, h⟩
    · refine rn_iload_n (i := 1) (x := x1) dX6_opHere_24 rfl (by simp) ?_
      refine rn_iconst (v := 1) dX6_opHere_25 rfl ?_
      refine rn_icmp_ne (tgt := 43) dX6_opHere_26 (by decide) (ite_go h (fun hc h => ?_) (fun hc h => ?_))
      · refine rn_aload_n (i := 0) (x := 1) dX6_opHere_29 rfl (by simp) ?_
        refine rn_geti dX6_opHere_30 rfl gf_X6_47 (by decide) ?_
        refine rn_bipush (v := 8) dX6_opHere_33 rfl ?_
        refine rn_icmp_ne (tgt := 43) dX6_opHere_35 (by decide) (ite_go h (fun hc h => ?_) (fun hc h => ?_))
        · refine rn_bipush (v := -8) dX6_opHere_38 rfl ?_
          refine rn_goto (tgt := 44) dX6_opHere_40 (by decide) ?_
          exact rn_iret dX6_opHere_44 rfl ⟨_, rfl, h⟩
        · refine rn_iconst (v := 0) dX6_opHere_43 rfl ?_
          exact rn_iret dX6_opHere_44 rfl ⟨_, rfl, h⟩
      · refine rn_iconst (v := 0) dX6_opHere_43 rfl ?_
        exact rn_iret dX6_opHere_44 rfl ⟨_, rfl, h⟩
  · refine rn_aload_n (i := 0) (x := 1) dX6_opHere_45 rfl (by simp) ?_
    refine rn_geti dX6_opHere_46 rfl gf_X6_35 (by decide) ?_
    refine rn_iconst (v := 3) dX6_opHere_49 rfl ?_
    refine rn_icmp_ne (tgt := 60) dX6_opHere_50 (by decide) (ite_go h (fun hc h => ?_) (fun hc h => ?_))
    · refine rn_aload_n (i := 0) (x := 1) dX6_opHere_53 rfl (by simp) ?_
      refine rn_geti dX6_opHere_54 rfl gf_X6_44 (by decide) ?_
      refine rn_goto (tgt := 61) dX6_opHere_57 (by decide) ?_
      exact h
    · refine rn_iconst (v := 0) dX6_opHere_60 rfl ?_
      exact h
set_option maxRecDepth 20000 in
theorem sg_X6_opHere_61 {d : Nat} {x1 : Int32} {y0 : Int32} {M : Mem} {K : (Int32 → Mem → Prop)}  (h : ((y0 = 37 → (if x1 = 4 then K ((-16)) M else K 0 M)) ∧ (y0 = 38 → K 0 M) ∧ (y0 = 39 → K 0 M) ∧ (y0 = 40 → K 0 M) ∧ (y0 = 41 → K 0 M) ∧ (y0 = 42 → (if x1 = 4 then K ((-14)) M else K 0 M)) ∧ (y0 = 43 → (if x1 = 3 then K ((-12)) M else K 0 M)) ∧ (y0 = 44 → K 0 M) ∧ (y0 = 45 → (if x1 = 3 then K ((-13)) M else K 0 M)) ∧ (y0 = 46 → K 0 M) ∧ (y0 = 47 → (if x1 = 4 then K ((-15)) M else K 0 M)) ∧ (y0 = 48 → K 0 M) ∧ (y0 = 49 → K 0 M) ∧ (y0 = 50 → K 0 M) ∧ (y0 = 51 → K 0 M) ∧ (y0 = 52 → K 0 M) ∧ (y0 = 53 → K 0 M) ∧ (y0 = 54 → K 0 M) ∧ (y0 = 55 → K 0 M) ∧ (y0 = 56 → K 0 M) ∧ (y0 = 57 → K 0 M) ∧ (y0 = 58 → K 0 M) ∧ (y0 = 59 → K 0 M) ∧ (y0 = 60 → (if x1 = 2 then K ((-9)) M else K 0 M)) ∧ (y0 = 61 → (if x1 = 2 then K ((-11)) M else K 0 M)) ∧ (y0 = 62 → (if x1 = 2 then K ((-10)) M else K 0 M)) ∧ ((y0).toInt < 37 ∨ 62 < (y0).toInt → K 0 M))) : RI d μX6_opHere 61 [(0, .ref 1), (1, .int x1)] [.int y0] M K := by
  show Rn d μX6_opHere 61 [(0, .ref 1), (1, .int x1)] [.int y0] M _
  by_cases hlo : (y0).toInt < 37
  · have h := h.2.2.2.2.2.2.2.2.2.2.2.2.2.2.2.2.2.2.2.2.2.2.2.2.2.2 (Or.inl hlo)
    refine rn_tswitch (tgt := 276) dX6_opHere_61 (Or.inl ⟨Or.inl hlo, by decide⟩) ?_
    refine rn_iconst (v := 0) dX6_opHere_276 rfl ?_
    exact rn_iret dX6_opHere_277 rfl ⟨_, rfl, h⟩
  by_cases hhi : 62 < (y0).toInt
  · have h := h.2.2.2.2.2.2.2.2.2.2.2.2.2.2.2.2.2.2.2.2.2.2.2.2.2.2 (Or.inr hhi)
    refine rn_tswitch (tgt := 276) dX6_opHere_61 (Or.inl ⟨Or.inr hhi, by decide⟩) ?_
    refine rn_iconst (v := 0) dX6_opHere_276 rfl ?_
    exact rn_iret dX6_opHere_277 rfl ⟨_, rfl, h⟩
  have hv : (y0).toInt = 37 ∨ (y0).toInt = 38 ∨ (y0).toInt = 39 ∨ (y0).toInt = 40 ∨ (y0).toInt = 41 ∨ (y0).toInt = 42 ∨ (y0).toInt = 43 ∨ (y0).toInt = 44 ∨ (y0).toInt = 45 ∨ (y0).toInt = 46 ∨ (y0).toInt = 47 ∨ (y0).toInt = 48 ∨ (y0).toInt = 49 ∨ (y0).toInt = 50 ∨ (y0).toInt = 51 ∨ (y0).toInt = 52 ∨ (y0).toInt = 53 ∨ (y0).toInt = 54 ∨ (y0).toInt = 55 ∨ (y0).toInt = 56 ∨ (y0).toInt = 57 ∨ (y0).toInt = 58 ∨ (y0).toInt = 59 ∨ (y0).toInt = 60 ∨ (y0).toInt = 61 ∨ (y0).toInt = 62 := by omega
  rcases hv with hv | hv | hv | hv | hv | hv | hv | hv | hv | hv | hv | hv | hv | hv | hv | hv | hv | hv | hv | hv | hv | hv | hv | hv | hv | hv
  · have h := h.1 (Int32.toInt_inj.mp hv)
    refine rn_tswitch (tgt := 264) dX6_opHere_61 (Or.inr ⟨hlo, hhi, _, by rw [hv]; rfl, by decide⟩) ?_
    refine rn_iload_n (i := 1) (x := x1) dX6_opHere_264 rfl (by simp) ?_
    refine rn_iconst (v := 4) dX6_opHere_265 rfl ?_
    refine rn_icmp_ne (tgt := 274) dX6_opHere_266 (by decide) (ite_go h (fun hc h => ?_) (fun hc h => ?_))
    · refine rn_bipush (v := -16) dX6_opHere_269 rfl ?_
      refine rn_goto (tgt := 275) dX6_opHere_271 (by decide) ?_
      exact rn_iret dX6_opHere_275 rfl ⟨_, rfl, h⟩
    · refine rn_iconst (v := 0) dX6_opHere_274 rfl ?_
      exact rn_iret dX6_opHere_275 rfl ⟨_, rfl, h⟩
  · have h := h.2.1 (Int32.toInt_inj.mp hv)
    refine rn_tswitch (tgt := 276) dX6_opHere_61 (Or.inr ⟨hlo, hhi, _, by rw [hv]; rfl, by decide⟩) ?_
    refine rn_iconst (v := 0) dX6_opHere_276 rfl ?_
    exact rn_iret dX6_opHere_277 rfl ⟨_, rfl, h⟩
  · have h := h.2.2.1 (Int32.toInt_inj.mp hv)
    refine rn_tswitch (tgt := 276) dX6_opHere_61 (Or.inr ⟨hlo, hhi, _, by rw [hv]; rfl, by decide⟩) ?_
    refine rn_iconst (v := 0) dX6_opHere_276 rfl ?_
    exact rn_iret dX6_opHere_277 rfl ⟨_, rfl, h⟩
  · have h := h.2.2.2.1 (Int32.toInt_inj.mp hv)
    refine rn_tswitch (tgt := 276) dX6_opHere_61 (Or.inr ⟨hlo, hhi, _, by rw [hv]; rfl, by decide⟩) ?_
    refine rn_iconst (v := 0) dX6_opHere_276 rfl ?_
    exact rn_iret dX6_opHere_277 rfl ⟨_, rfl, h⟩
  · have h := h.2.2.2.2.1 (Int32.toInt_inj.mp hv)
    refine rn_tswitch (tgt := 276) dX6_opHere_61 (Or.inr ⟨hlo, hhi, _, by rw [hv]; rfl, by decide⟩) ?_
    refine rn_iconst (v := 0) dX6_opHere_276 rfl ?_
    exact rn_iret dX6_opHere_277 rfl ⟨_, rfl, h⟩
  · have h := h.2.2.2.2.2.1 (Int32.toInt_inj.mp hv)
    refine rn_tswitch (tgt := 240) dX6_opHere_61 (Or.inr ⟨hlo, hhi, _, by rw [hv]; rfl, by decide⟩) ?_
    refine rn_iload_n (i := 1) (x := x1) dX6_opHere_240 rfl (by simp) ?_
    refine rn_iconst (v := 4) dX6_opHere_241 rfl ?_
    refine rn_icmp_ne (tgt := 250) dX6_opHere_242 (by decide) (ite_go h (fun hc h => ?_) (fun hc h => ?_))
    · refine rn_bipush (v := -14) dX6_opHere_245 rfl ?_
      refine rn_goto (tgt := 251) dX6_opHere_247 (by decide) ?_
      exact rn_iret dX6_opHere_251 rfl ⟨_, rfl, h⟩
    · refine rn_iconst (v := 0) dX6_opHere_250 rfl ?_
      exact rn_iret dX6_opHere_251 rfl ⟨_, rfl, h⟩
  · have h := h.2.2.2.2.2.2.1 (Int32.toInt_inj.mp hv)
    refine rn_tswitch (tgt := 216) dX6_opHere_61 (Or.inr ⟨hlo, hhi, _, by rw [hv]; rfl, by decide⟩) ?_
    refine rn_iload_n (i := 1) (x := x1) dX6_opHere_216 rfl (by simp) ?_
    refine rn_iconst (v := 3) dX6_opHere_217 rfl ?_
    refine rn_icmp_ne (tgt := 226) dX6_opHere_218 (by decide) (ite_go h (fun hc h => ?_) (fun hc h => ?_))
    · refine rn_bipush (v := -12) dX6_opHere_221 rfl ?_
      refine rn_goto (tgt := 227) dX6_opHere_223 (by decide) ?_
      exact rn_iret dX6_opHere_227 rfl ⟨_, rfl, h⟩
    · refine rn_iconst (v := 0) dX6_opHere_226 rfl ?_
      exact rn_iret dX6_opHere_227 rfl ⟨_, rfl, h⟩
  · have h := h.2.2.2.2.2.2.2.1 (Int32.toInt_inj.mp hv)
    refine rn_tswitch (tgt := 276) dX6_opHere_61 (Or.inr ⟨hlo, hhi, _, by rw [hv]; rfl, by decide⟩) ?_
    refine rn_iconst (v := 0) dX6_opHere_276 rfl ?_
    exact rn_iret dX6_opHere_277 rfl ⟨_, rfl, h⟩
  · have h := h.2.2.2.2.2.2.2.2.1 (Int32.toInt_inj.mp hv)
    refine rn_tswitch (tgt := 228) dX6_opHere_61 (Or.inr ⟨hlo, hhi, _, by rw [hv]; rfl, by decide⟩) ?_
    refine rn_iload_n (i := 1) (x := x1) dX6_opHere_228 rfl (by simp) ?_
    refine rn_iconst (v := 3) dX6_opHere_229 rfl ?_
    refine rn_icmp_ne (tgt := 238) dX6_opHere_230 (by decide) (ite_go h (fun hc h => ?_) (fun hc h => ?_))
    · refine rn_bipush (v := -13) dX6_opHere_233 rfl ?_
      refine rn_goto (tgt := 239) dX6_opHere_235 (by decide) ?_
      exact rn_iret dX6_opHere_239 rfl ⟨_, rfl, h⟩
    · refine rn_iconst (v := 0) dX6_opHere_238 rfl ?_
      exact rn_iret dX6_opHere_239 rfl ⟨_, rfl, h⟩
  · have h := h.2.2.2.2.2.2.2.2.2.1 (Int32.toInt_inj.mp hv)
    refine rn_tswitch (tgt := 276) dX6_opHere_61 (Or.inr ⟨hlo, hhi, _, by rw [hv]; rfl, by decide⟩) ?_
    refine rn_iconst (v := 0) dX6_opHere_276 rfl ?_
    exact rn_iret dX6_opHere_277 rfl ⟨_, rfl, h⟩
  · have h := h.2.2.2.2.2.2.2.2.2.2.1 (Int32.toInt_inj.mp hv)
    refine rn_tswitch (tgt := 252) dX6_opHere_61 (Or.inr ⟨hlo, hhi, _, by rw [hv]; rfl, by decide⟩) ?_
    refine rn_iload_n (i := 1) (x := x1) dX6_opHere_252 rfl (by simp) ?_
    refine rn_iconst (v := 4) dX6_opHere_253 rfl ?_
    refine rn_icmp_ne (tgt := 262) dX6_opHere_254 (by decide) (ite_go h (fun hc h => ?_) (fun hc h => ?_))
    · refine rn_bipush (v := -15) dX6_opHere_257 rfl ?_
      refine rn_goto (tgt := 263) dX6_opHere_259 (by decide) ?_
      exact rn_iret dX6_opHere_263 rfl ⟨_, rfl, h⟩
    · refine rn_iconst (v := 0) dX6_opHere_262 rfl ?_
      exact rn_iret dX6_opHere_263 rfl ⟨_, rfl, h⟩
  · have h := h.2.2.2.2.2.2.2.2.2.2.2.1 (Int32.toInt_inj.mp hv)
    refine rn_tswitch (tgt := 276) dX6_opHere_61 (Or.inr ⟨hlo, hhi, _, by rw [hv]; rfl, by decide⟩) ?_
    refine rn_iconst (v := 0) dX6_opHere_276 rfl ?_
    exact rn_iret dX6_opHere_277 rfl ⟨_, rfl, h⟩
  · have h := h.2.2.2.2.2.2.2.2.2.2.2.2.1 (Int32.toInt_inj.mp hv)
    refine rn_tswitch (tgt := 276) dX6_opHere_61 (Or.inr ⟨hlo, hhi, _, by rw [hv]; rfl, by decide⟩) ?_
    refine rn_iconst (v := 0) dX6_opHere_276 rfl ?_
    exact rn_iret dX6_opHere_277 rfl ⟨_, rfl, h⟩
  · have h := h.2.2.2.2.2.2.2.2.2.2.2.2.2.1 (Int32.toInt_inj.mp hv)
    refine rn_tswitch (tgt := 276) dX6_opHere_61 (Or.inr ⟨hlo, hhi, _, by rw [hv]; rfl, by decide⟩) ?_
    refine rn_iconst (v := 0) dX6_opHere_276 rfl ?_
    exact rn_iret dX6_opHere_277 rfl ⟨_, rfl, h⟩
  · have h := h.2.2.2.2.2.2.2.2.2.2.2.2.2.2.1 (Int32.toInt_inj.mp hv)
    refine rn_tswitch (tgt := 276) dX6_opHere_61 (Or.inr ⟨hlo, hhi, _, by rw [hv]; rfl, by decide⟩) ?_
    refine rn_iconst (v := 0) dX6_opHere_276 rfl ?_
    exact rn_iret dX6_opHere_277 rfl ⟨_, rfl, h⟩
  · have h := h.2.2.2.2.2.2.2.2.2.2.2.2.2.2.2.1 (Int32.toInt_inj.mp hv)
    refine rn_tswitch (tgt := 276) dX6_opHere_61 (Or.inr ⟨hlo, hhi, _, by rw [hv]; rfl, by decide⟩) ?_
    refine rn_iconst (v := 0) dX6_opHere_276 rfl ?_
    exact rn_iret dX6_opHere_277 rfl ⟨_, rfl, h⟩
  · have h := h.2.2.2.2.2.2.2.2.2.2.2.2.2.2.2.2.1 (Int32.toInt_inj.mp hv)
    refine rn_tswitch (tgt := 276) dX6_opHere_61 (Or.inr ⟨hlo, hhi, _, by rw [hv]; rfl, by decide⟩) ?_
    refine rn_iconst (v := 0) dX6_opHere_276 rfl ?_
    exact rn_iret dX6_opHere_277 rfl ⟨_, rfl, h⟩
  · have h := h.2.2.2.2.2.2.2.2.2.2.2.2.2.2.2.2.2.1 (Int32.toInt_inj.mp hv)
    refine rn_tswitch (tgt := 276) dX6_opHere_61 (Or.inr ⟨hlo, hhi, _, by rw [hv]; rfl, by decide⟩) ?_
    refine rn_iconst (v := 0) dX6_opHere_276 rfl ?_
    exact rn_iret dX6_opHere_277 rfl ⟨_, rfl, h⟩
  · have h := h.2.2.2.2.2.2.2.2.2.2.2.2.2.2.2.2.2.2.1 (Int32.toInt_inj.mp hv)
    refine rn_tswitch (tgt := 276) dX6_opHere_61 (Or.inr ⟨hlo, hhi, _, by rw [hv]; rfl, by decide⟩) ?_
    refine rn_iconst (v := 0) dX6_opHere_276 rfl ?_
    exact rn_iret dX6_opHere_277 rfl ⟨_, rfl, h⟩
  · have h := h.2.2.2.2.2.2.2.2.2.2.2.2.2.2.2.2.2.2.2.1 (Int32.toInt_inj.mp hv)
    refine rn_tswitch (tgt := 276) dX6_opHere_61 (Or.inr ⟨hlo, hhi, _, by rw [hv]; rfl, by decide⟩) ?_
    refine rn_iconst (v := 0) dX6_opHere_276 rfl ?_
    exact rn_iret dX6_opHere_277 rfl ⟨_, rfl, h⟩
  · have h := h.2.2.2.2.2.2.2.2.2.2.2.2.2.2.2.2.2.2.2.2.1 (Int32.toInt_inj.mp hv)
    refine rn_tswitch (tgt := 276) dX6_opHere_61 (Or.inr ⟨hlo, hhi, _, by rw [hv]; rfl, by decide⟩) ?_
    refine rn_iconst (v := 0) dX6_opHere_276 rfl ?_
    exact rn_iret dX6_opHere_277 rfl ⟨_, rfl, h⟩
  · have h := h.2.2.2.2.2.2.2.2.2.2.2.2.2.2.2.2.2.2.2.2.2.1 (Int32.toInt_inj.mp hv)
    refine rn_tswitch (tgt := 276) dX6_opHere_61 (Or.inr ⟨hlo, hhi, _, by rw [hv]; rfl, by decide⟩) ?_
    refine rn_iconst (v := 0) dX6_opHere_276 rfl ?_
    exact rn_iret dX6_opHere_277 rfl ⟨_, rfl, h⟩
  · have h := h.2.2.2.2.2.2.2.2.2.2.2.2.2.2.2.2.2.2.2.2.2.2.1 (Int32.toInt_inj.mp hv)
    refine rn_tswitch (tgt := 276) dX6_opHere_61 (Or.inr ⟨hlo, hhi, _, by rw [hv]; rfl, by decide⟩) ?_
    refine rn_iconst (v := 0) dX6_opHere_276 rfl ?_
    exact rn_iret dX6_opHere_277 rfl ⟨_, rfl, h⟩
  · have h := h.2.2.2.2.2.2.2.2.2.2.2.2.2.2.2.2.2.2.2.2.2.2.2.1 (Int32.toInt_inj.mp hv)
    refine rn_tswitch (tgt := 180) dX6_opHere_61 (Or.inr ⟨hlo, hhi, _, by rw [hv]; rfl, by decide⟩) ?_
    refine rn_iload_n (i := 1) (x := x1) dX6_opHere_180 rfl (by simp) ?_
    refine rn_iconst (v := 2) dX6_opHere_181 rfl ?_
    refine rn_icmp_ne (tgt := 190) dX6_opHere_182 (by decide) (ite_go h (fun hc h => ?_) (fun hc h => ?_))
    · refine rn_bipush (v := -9) dX6_opHere_185 rfl ?_
      refine rn_goto (tgt := 191) dX6_opHere_187 (by decide) ?_
      exact rn_iret dX6_opHere_191 rfl ⟨_, rfl, h⟩
    · refine rn_iconst (v := 0) dX6_opHere_190 rfl ?_
      exact rn_iret dX6_opHere_191 rfl ⟨_, rfl, h⟩
  · have h := h.2.2.2.2.2.2.2.2.2.2.2.2.2.2.2.2.2.2.2.2.2.2.2.2.1 (Int32.toInt_inj.mp hv)
    refine rn_tswitch (tgt := 204) dX6_opHere_61 (Or.inr ⟨hlo, hhi, _, by rw [hv]; rfl, by decide⟩) ?_
    refine rn_iload_n (i := 1) (x := x1) dX6_opHere_204 rfl (by simp) ?_
    refine rn_iconst (v := 2) dX6_opHere_205 rfl ?_
    refine rn_icmp_ne (tgt := 214) dX6_opHere_206 (by decide) (ite_go h (fun hc h => ?_) (fun hc h => ?_))
    · refine rn_bipush (v := -11) dX6_opHere_209 rfl ?_
      refine rn_goto (tgt := 215) dX6_opHere_211 (by decide) ?_
      exact rn_iret dX6_opHere_215 rfl ⟨_, rfl, h⟩
    · refine rn_iconst (v := 0) dX6_opHere_214 rfl ?_
      exact rn_iret dX6_opHere_215 rfl ⟨_, rfl, h⟩
  · have h := h.2.2.2.2.2.2.2.2.2.2.2.2.2.2.2.2.2.2.2.2.2.2.2.2.2.1 (Int32.toInt_inj.mp hv)
    refine rn_tswitch (tgt := 192) dX6_opHere_61 (Or.inr ⟨hlo, hhi, _, by rw [hv]; rfl, by decide⟩) ?_
    refine rn_iload_n (i := 1) (x := x1) dX6_opHere_192 rfl (by simp) ?_
    refine rn_iconst (v := 2) dX6_opHere_193 rfl ?_
    refine rn_icmp_ne (tgt := 202) dX6_opHere_194 (by decide) (ite_go h (fun hc h => ?_) (fun hc h => ?_))
    · refine rn_bipush (v := -10) dX6_opHere_197 rfl ?_
      refine rn_goto (tgt := 203) dX6_opHere_199 (by decide) ?_
      exact rn_iret dX6_opHere_203 rfl ⟨_, rfl, h⟩
    · refine rn_iconst (v := 0) dX6_opHere_202 rfl ?_
      exact rn_iret dX6_opHere_203 rfl ⟨_, rfl, h⟩
