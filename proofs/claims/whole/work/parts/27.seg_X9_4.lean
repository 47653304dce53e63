theorem dX9_isThereNow_0 : decode μX9_isThereNow.2.1 0 = .ok (.aload_n 0, 1) := by decide +kernel
theorem dX9_isThereNow_1 : decode μX9_isThereNow.2.1 1 = .ok (.invokevirtual 424, 3) := by decide +kernel
theorem dX9_isThereNow_4 : decode μX9_isThereNow.2.1 4 = .ok (.aload_n 0, 1) := by decide +kernel
theorem dX9_isThereNow_5 : decode μX9_isThereNow.2.1 5 = .ok (.iload_n 1, 1) := by decide +kernel
theorem dX9_isThereNow_6 : decode μX9_isThereNow.2.1 6 = .ok (.invokevirtual 427, 3) := by decide +kernel
theorem dX9_isThereNow_9 : decode μX9_isThereNow.2.1 9 = .ok (.ifCond .eq 15, 3) := by decide +kernel
theorem dX9_isThereNow_12 : decode μX9_isThereNow.2.1 12 = .ok (.aload_n 0, 1) := by decide +kernel
theorem dX9_isThereNow_13 : decode μX9_isThereNow.2.1 13 = .ok (.iload_n 1, 1) := by decide +kernel
theorem dX9_isThereNow_14 : decode μX9_isThereNow.2.1 14 = .ok (.invokevirtual 335, 3) := by decide +kernel
theorem dX9_isThereNow_17 : decode μX9_isThereNow.2.1 17 = .ok (.ifCond .eq 7, 3) := by decide +kernel
theorem dX9_isThereNow_20 : decode μX9_isThereNow.2.1 20 = .ok (.iconst 1, 1) := by decide +kernel
theorem dX9_isThereNow_21 : decode μX9_isThereNow.2.1 21 = .ok (.goto 4, 3) := by decide +kernel
theorem dX9_isThereNow_24 : decode μX9_isThereNow.2.1 24 = .ok (.iconst 0, 1) := by decide +kernel
theorem dX9_isThereNow_25 : decode μX9_isThereNow.2.1 25 = .ok (.ireturn, 1) := by decide +kernel
set_option maxRecDepth 20000 in
theorem sg_X9_isThereNow_0 {d : Nat} {x1 : Int32} {M : Mem} {K : (Int32 → Mem → Prop)}  (h : (CV d μX9_fill [.ref 58] M (fun M1 => (CI d μX9_isLord [.ref 58, .int x1] M1 (fun r3 M2 => (if r3 = 0 then K 0 M2 else (CI d μX9_isThere [.ref 58, .int x1] M2 (fun r5 M4 => (if r5 = 0 then K 0 M4 else K 1 M4))))))))) : CI (d + 1) μX9_isThereNow [.ref 58, .int x1] M K := by
  show Rn (d + 1) μX9_isThereNow 0 [(0, .ref 58), (1, .int x1)] [] M _
  refine rn_aload_n (i := 0) (x := 58) dX9_isThereNow_0 rfl (by simp) ?_
  refine rn_callVv (as := []) (st := []) dX9_isThereNow_1 mf_X9_fill lk_X9_424 im_X9_fill rfl rfl rfl rfl (Nat.le_of_ble_eq_true rfl) (Nat.le_of_ble_eq_true rfl) rfl (RV.mono h (fun M1 h => ?_))
  refine rn_aload_n (i := 0) (x := 58) dX9_isThereNow_4 rfl (by simp) ?_
  refine rn_iload_n (i := 1) (x := x1) dX9_isThereNow_5 rfl (by simp) ?_
  refine rn_callVi (as := [.int x1]) (st := []) dX9_isThereNow_6 mf_X9_isLord lk_X9_427 im_X9_isLord rfl rfl rfl rfl (Nat.le_of_ble_eq_true rfl) (Nat.le_of_ble_eq_true rfl) rfl (RI.mono h (fun r3 M2 h => ?_))
  refine rn_if_eq (tgt := 24) dX9_isThereNow_9 (by decide) (ite_go h (fun hc h => ?_) (fun hc h => ?_))
  · refine rn_iconst (v := 0) dX9_isThereNow_24 rfl ?_
    exact rn_zret dX9_isThereNow_25 rfl (by decide) ⟨_, rfl, h⟩
  · refine rn_aload_n (i := 0) (x := 58) dX9_isThereNow_12 rfl (by simp) ?_
    refine rn_iload_n (i := 1) (x := x1) dX9_isThereNow_13 rfl (by simp) ?_
    refine rn_callVi (as := [.int x1]) (st := []) dX9_isThereNow_14 mf_X9_isThere lk_X9_335 im_X9_isThere rfl rfl rfl rfl (Nat.le_of_ble_eq_true rfl) (Nat.le_of_ble_eq_true rfl) rfl (RI.mono h (fun r5 M4 h => ?_))
    refine rn_if_eq (tgt := 24) dX9_isThereNow_17 (by decide) (ite_go h (fun hc h => ?_) (fun hc h => ?_))
    · refine rn_iconst (v := 0) dX9_isThereNow_24 rfl ?_
      exact rn_zret dX9_isThereNow_25 rfl (by decide) ⟨_, rfl, h⟩
    · refine rn_iconst (v := 1) dX9_isThereNow_20 rfl ?_
      refine rn_goto (tgt := 25) dX9_isThereNow_21 (by decide) ?_
      exact rn_zret dX9_isThereNow_25 rfl (by decide) ⟨_, rfl, h⟩
theorem dX9_lord_0 : decode μX9_lord.2.1 0 = .ok (.aload_n 0, 1) := by decide +kernel
theorem dX9_lord_1 : decode μX9_lord.2.1 1 = .ok (.iload_n 1, 1) := by decide +kernel
theorem dX9_lord_2 : decode μX9_lord.2.1 2 = .ok (.invokevirtual 427, 3) := by decide +kernel
theorem dX9_lord_5 : decode μX9_lord.2.1 5 = .ok (.ifCond .ne 6, 3) := by decide +kernel
theorem dX9_lord_8 : decode μX9_lord.2.1 8 = .ok (.bipush (-100), 2) := by decide +kernel
theorem dX9_lord_10 : decode μX9_lord.2.1 10 = .ok (.ireturn, 1) := by decide +kernel
theorem dX9_lord_11 : decode μX9_lord.2.1 11 = .ok (.aload_n 0, 1) := by decide +kernel
theorem dX9_lord_12 : decode μX9_lord.2.1 12 = .ok (.invokevirtual 424, 3) := by decide +kernel
theorem dX9_lord_15 : decode μX9_lord.2.1 15 = .ok (.iload_n 2, 1) := by decide +kernel
theorem dX9_lord_16 : decode μX9_lord.2.1 16 = .ok (.tableswitch 85 0 4 #[36, 45, 55, 61, 67], 36) := by decide +kernel
theorem dX9_lord_52 : decode μX9_lord.2.1 52 = .ok (.aload_n 0, 1) := by decide +kernel
theorem dX9_lord_53 : decode μX9_lord.2.1 53 = .ok (.iload_n 1, 1) := by decide +kernel
theorem dX9_lord_54 : decode μX9_lord.2.1 54 = .ok (.invokevirtual 335, 3) := by decide +kernel
theorem dX9_lord_57 : decode μX9_lord.2.1 57 = .ok (.invokestatic 261, 3) := by decide +kernel
theorem dX9_lord_60 : decode μX9_lord.2.1 60 = .ok (.ireturn, 1) := by decide +kernel
theorem dX9_lord_61 : decode μX9_lord.2.1 61 = .ok (.aload_n 0, 1) := by decide +kernel
theorem dX9_lord_62 : decode μX9_lord.2.1 62 = .ok (.getfield 45, 3) := by decide +kernel
theorem dX9_lord_65 : decode μX9_lord.2.1 65 = .ok (.bipush 14, 2) := by decide +kernel
theorem dX9_lord_67 : decode μX9_lord.2.1 67 = .ok (.iload_n 1, 1) := by decide +kernel
theorem dX9_lord_68 : decode μX9_lord.2.1 68 = .ok (.iadd, 1) := by decide +kernel
theorem dX9_lord_69 : decode μX9_lord.2.1 69 = .ok (.iaload, 1) := by decide +kernel
theorem dX9_lord_70 : decode μX9_lord.2.1 70 = .ok (.ireturn, 1) := by decide +kernel
theorem dX9_lord_71 : decode μX9_lord.2.1 71 = .ok (.aload_n 0, 1) := by decide +kernel
theorem dX9_lord_72 : decode μX9_lord.2.1 72 = .ok (.iload_n 1, 1) := by decide +kernel
theorem dX9_lord_73 : decode μX9_lord.2.1 73 = .ok (.invokevirtual 265, 3) := by decide +kernel
theorem dX9_lord_76 : decode μX9_lord.2.1 76 = .ok (.ireturn, 1) := by decide +kernel
theorem dX9_lord_77 : decode μX9_lord.2.1 77 = .ok (.aload_n 0, 1) := by decide +kernel
theorem dX9_lord_78 : decode μX9_lord.2.1 78 = .ok (.iload_n 1, 1) := by decide +kernel
theorem dX9_lord_79 : decode μX9_lord.2.1 79 = .ok (.invokevirtual 268, 3) := by decide +kernel
theorem dX9_lord_82 : decode μX9_lord.2.1 82 = .ok (.ireturn, 1) := by decide +kernel
theorem dX9_lord_83 : decode μX9_lord.2.1 83 = .ok (.aload_n 0, 1) := by decide +kernel
theorem dX9_lord_84 : decode μX9_lord.2.1 84 = .ok (.iload_n 1, 1) := by decide +kernel
theorem dX9_lord_85 : decode μX9_lord.2.1 85 = .ok (.invokevirtual 335, 3) := by decide +kernel
theorem dX9_lord_88 : decode μX9_lord.2.1 88 = .ok (.ifCond .eq 11, 3) := by decide +kernel
theorem dX9_lord_91 : decode μX9_lord.2.1 91 = .ok (.aload_n 0, 1) := by decide +kernel
theorem dX9_lord_92 : decode μX9_lord.2.1 92 = .ok (.iload_n 1, 1) := by decide +kernel
theorem dX9_lord_93 : decode μX9_lord.2.1 93 = .ok (.invokevirtual 338, 3) := by decide +kernel
theorem dX9_lord_96 : decode μX9_lord.2.1 96 = .ok (.goto 4, 3) := by decide +kernel
theorem dX9_lord_99 : decode μX9_lord.2.1 99 = .ok (.iconst 0, 1) := by decide +kernel
theorem dX9_lord_100 : decode μX9_lord.2.1 100 = .ok (.ireturn, 1) := by decide +kernel
theorem dX9_lord_101 : decode μX9_lord.2.1 101 = .ok (.bipush (-100), 2) := by decide +kernel
theorem dX9_lord_103 : decode μX9_lord.2.1 103 = .ok (.ireturn, 1) := by decide +kernel
set_option maxRecDepth 20000 in
theorem sg_X9_lord_0 {d : Nat} {x1 : Int32} {x2 : Int32} {M : Mem} {K : (Int32 → Mem → Prop)}  (h : (CI d μX9_isLord [.ref 58, .int x1] M (fun r2 M1 => (if r2 = 0 then K ((-100)) M1 else (CV d μX9_fill [.ref 58] M1 (fun M3 => ((x2 = 0 → (CI d μX9_isThere [.ref 58, .int x1] M3 (fun r5 M4 => (CI d μX9_truth [.int r5] M4 (fun r7 M6 => K r7 M6))))) ∧ (x2 = 1 → (vp_in (14 + x1) 24 ∧ K (ri M3 69 (nx (14 + x1))) M3)) ∧ (x2 = 2 → (CI d μX9_sidesOf [.ref 58, .int x1] M3 (fun r9 M8 => K r9 M8))) ∧ (x2 = 3 → (CI d μX9_bordersOf [.ref 58, .int x1] M3 (fun r11 M10 => K r11 M10))) ∧ (x2 = 4 → (CI d μX9_isThere [.ref 58, .int x1] M3 (fun r13 M12 => (if r13 = 0 then K 0 M12 else (CI d μX9_growth [.ref 58, .int x1] M12 (fun r15 M14 => K r15 M14)))))) ∧ ((x2).toInt < 0 ∨ 4 < (x2).toInt → K ((-100)) M3)))))))) : CI (d + 1) μX9_lord [.ref 58, .int x1, .int x2] M K := by
  show Rn (d + 1) μX9_lord 0 [(0, .ref 58), (1, .int x1), (2, .int x2)] [] M _
  refine rn_aload_n (i := 0) (x := 58) dX9_lord_0 rfl (by simp) ?_
  refine rn_iload_n (i := 1) (x := x1) dX9_lord_1 rfl (by simp) ?_
  refine rn_callVi (as := [.int x1]) (st := []) dX9_lord_2 mf_X9_isLord lk_X9_427 im_X9_isLord rfl rfl rfl rfl (Nat.le_of_ble_eq_true rfl) (Nat.le_of_ble_eq_true rfl) rfl (RI.mono h (fun r2 M1 h => ?_))
  refine rn_if_ne (tgt := 11) dX9_lord_5 (by decide) (ite_go h (fun hc h => ?_) (fun hc h => ?_))
  · refine rn_bipush (v := -100) dX9_lord_8 rfl ?_
    exact rn_iret dX9_lord_10 rfl ⟨_, rfl, h⟩
  · refine rn_aload_n (i := 0) (x := 58) dX9_lord_11 rfl (by simp) ?_
    refine rn_callVv (as := []) (st := []) dX9_lord_12 mf_X9_fill lk_X9_424 im_X9_fill rfl rfl rfl rfl (Nat.le_of_ble_eq_true rfl) (Nat.le_of_ble_eq_true rfl) rfl (RV.mono h (fun M3 h => ?_))
    refine rn_iload_n (i := 2) (x := x2) dX9_lord_15 rfl (by simp) ?_
    by_cases hlo : (x2).toInt < 0
    · have h := h.2.2.2.2.2 (Or.inl hlo)
      refine rn_tswitch (tgt := 101) dX9_lord_16 (Or.inl ⟨Or.inl hlo, by decide⟩) ?_
      refine rn_bipush (v := -100) dX9_lord_101 rfl ?_
      exact rn_iret dX9_lord_103 rfl ⟨_, rfl, h⟩
    by_cases hhi : 4 < (x2).toInt
    · have h := h.2.2.2.2.2 (Or.inr hhi)
      refine rn_tswitch (tgt := 101) dX9_lord_16 (Or.inl ⟨Or.inr hhi, by decide⟩) ?_
      refine rn_bipush (v := -100) dX9_lord_101 rfl ?_
      exact rn_iret dX9_lord_103 rfl ⟨_, rfl, h⟩
    have hv : (x2).toInt = 0 ∨ (x2).toInt = 1 ∨ (x2).toInt = 2 ∨ (x2).toInt = 3 ∨ (x2).toInt = 4 := by omega
    rcases hv with hv | hv | hv | hv | hv
    · have h := h.1 (Int32.toInt_inj.mp hv)
      refine rn_tswitch (tgt := 52) dX9_lord_16 (Or.inr ⟨hlo, hhi, _, by rw [hv]; rfl, by decide⟩) ?_
      refine rn_aload_n (i := 0) (x := 58) dX9_lord_52 rfl (by simp) ?_
      refine rn_iload_n (i := 1) (x := x1) dX9_lord_53 rfl (by simp) ?_
      refine rn_callVi (as := [.int x1]) (st := []) dX9_lord_54 mf_X9_isThere lk_X9_335 im_X9_isThere rfl rfl rfl rfl (Nat.le_of_ble_eq_true rfl) (Nat.le_of_ble_eq_true rfl) rfl (RI.mono h (fun r5 M4 h => ?_))
      refine rn_callSi (as := [.int r5]) (st := []) dX9_lord_57 mf_X9_truth lk_X9_261 sm_X9_truth rfl (Nat.le_of_ble_eq_true rfl) (Nat.le_of_ble_eq_true rfl) rfl (RI.mono h (fun r7 M6 h => ?_))
      exact rn_iret dX9_lord_60 rfl ⟨_, rfl, h⟩
    · have h := h.2.1 (Int32.toInt_inj.mp hv)
      refine rn_tswitch (tgt := 61) dX9_lord_16 (Or.inr ⟨hlo, hhi, _, by rw [hv]; rfl, by decide⟩) ?_
      refine rn_aload_n (i := 0) (x := 58) dX9_lord_61 rfl (by simp) ?_
      refine rn_getr (t := 69) dX9_lord_62 rfl gf_X9_45 rfl rfl ?_
      refine rn_bipush (v := 14) dX9_lord_65 rfl ?_
      refine rn_iload_n (i := 1) (x := x1) dX9_lord_67 rfl (by simp) ?_
      refine rn_iadd dX9_lord_68 ?_
      obtain ⟨hi, h⟩ := h
      refine rn_iaload dX9_lord_69 rfl hi ?_
      exact rn_iret dX9_lord_70 rfl ⟨_, rfl, h⟩
    · have h := h.2.2.1 (Int32.toInt_inj.mp hv)
      refine rn_tswitch (tgt := 71) dX9_lord_16 (Or.inr ⟨hlo, hhi, _, by rw [hv]; rfl, by decide⟩) ?_
      refine rn_aload_n (i := 0) (x := 58) dX9_lord_71 rfl (by simp) ?_
      refine rn_iload_n (i := 1) (x := x1) dX9_lord_72 rfl (by simp) ?_
      refine rn_callVi (as := [.int x1]) (st := []) dX9_lord_73 mf_X9_sidesOf lk_X9_265 im_X9_sidesOf rfl rfl rfl rfl (Nat.le_of_ble_eq_true rfl) (Nat.le_of_ble_eq_true rfl) rfl (RI.mono h (fun r9 M8 h => ?_))
      exact rn_iret dX9_lord_76 rfl ⟨_, rfl, h⟩
    · have h := h.2.2.2.1 (Int32.toInt_inj.mp hv)
      refine rn_tswitch (tgt := 77) dX9_lord_16 (Or.inr ⟨hlo, hhi, _, by rw [hv]; rfl, by decide⟩) ?_
      refine rn_aload_n (i := 0) (x := 58) dX9_lord_77 rfl (by simp) ?_
      refine rn_iload_n (i := 1) (x := x1) dX9_lord_78 rfl (by simp) ?_
      refine rn_callVi (as := [.int x1]) (st := []) dX9_lord_79 mf_X9_bordersOf lk_X9_268 im_X9_bordersOf rfl rfl rfl rfl (Nat.le_of_ble_eq_true rfl) (Nat.le_of_ble_eq_true rfl) rfl (RI.mono h (fun r11 M10 h => ?_))
      exact rn_iret dX9_lord_82 rfl ⟨_, rfl, h⟩
    · have h := h.2.2.2.2.1 (Int32.toInt_inj.mp hv)
      refine rn_tswitch (tgt := 83) dX9_lord_16 (Or.inr ⟨hlo, hhi, _, by rw [hv]; rfl, by decide⟩) ?_
      refine rn_aload_n (i := 0) (x := 58) dX9_lord_83 rfl (by simp) ?_
      refine rn_iload_n (i := 1) (x := x1) dX9_lord_84 rfl (by simp) ?_
      refine rn_callVi (as := [.int x1]) (st := []) dX9_lord_85 mf_X9_isThere lk_X9_335 im_X9_isThere rfl rfl rfl rfl (Nat.le_of_ble_eq_true rfl) (Nat.le_of_ble_eq_true rfl) rfl (RI.mono h (fun r13 M12 h => ?_))
      refine rn_if_eq (tgt := 99) dX9_lord_88 (by decide) (ite_go h (fun hc h => ?_) (fun hc h => ?_))
      · refine rn_iconst (v := 0) dX9_lord_99 rfl ?_
        exact rn_iret dX9_lord_100 rfl ⟨_, rfl, h⟩
      · refine rn_aload_n (i := 0) (x := 58) dX9_lord_91 rfl (by simp) ?_
        refine rn_iload_n (i := 1) (x := x1) dX9_lord_92 rfl (by simp) ?_
        refine rn_callVi (as := [.int x1]) (st := []) dX9_lord_93 mf_X9_growth lk_X9_338 im_X9_growth rfl rfl rfl rfl (Nat.le_of_ble_eq_true rfl) (Nat.le_of_ble_eq_true rfl) rfl (RI.mono h (fun r15 M14 h => ?_))
        refine rn_goto (tgt := 100) dX9_lord_96 (by decide) ?_
        exact rn_iret dX9_lord_100 rfl ⟨_, rfl, h⟩
theorem dX9_corner_0 : decode μX9_corner.2.1 0 = .ok (.iload_n 1, 1) := by decide +kernel
theorem dX9_corner_1 : decode μX9_corner.2.1 1 = .ok (.iconst 0, 1) := by decide +kernel
theorem dX9_corner_2 : decode μX9_corner.2.1 2 = .ok (.aload_n 0, 1) := by decide +kernel
theorem dX9_corner_3 : decode μX9_corner.2.1 3 = .ok (.getfield 42, 3) := by decide +kernel
theorem dX9_corner_6 : decode μX9_corner.2.1 6 = .ok (.bipush 12, 2) := by decide +kernel
theorem dX9_corner_8 : decode μX9_corner.2.1 8 = .ok (.iaload, 1) := by decide +kernel
theorem dX9_corner_9 : decode μX9_corner.2.1 9 = .ok (.iconst 1, 1) := by decide +kernel
theorem dX9_corner_10 : decode μX9_corner.2.1 10 = .ok (.isub, 1) := by decide +kernel
theorem dX9_corner_11 : decode μX9_corner.2.1 11 = .ok (.invokestatic 420, 3) := by decide +kernel
theorem dX9_corner_14 : decode μX9_corner.2.1 14 = .ok (.ifCond .eq 25, 3) := by decide +kernel
theorem dX9_corner_17 : decode μX9_corner.2.1 17 = .ok (.iload_n 2, 1) := by decide +kernel
theorem dX9_corner_18 : decode μX9_corner.2.1 18 = .ok (.iconst 0, 1) := by decide +kernel
theorem dX9_corner_19 : decode μX9_corner.2.1 19 = .ok (.iconst 2, 1) := by decide +kernel
theorem dX9_corner_20 : decode μX9_corner.2.1 20 = .ok (.invokestatic 420, 3) := by decide +kernel
theorem dX9_corner_23 : decode μX9_corner.2.1 23 = .ok (.ifCond .eq 16, 3) := by decide +kernel
theorem dX9_corner_26 : decode μX9_corner.2.1 26 = .ok (.aload_n 0, 1) := by decide +kernel
theorem dX9_corner_27 : decode μX9_corner.2.1 27 = .ok (.getfield 42, 3) := by decide +kernel
theorem dX9_corner_30 : decode μX9_corner.2.1 30 = .ok (.iload_n 1, 1) := by decide +kernel
theorem dX9_corner_31 : decode μX9_corner.2.1 31 = .ok (.iaload, 1) := by decide +kernel
theorem dX9_corner_32 : decode μX9_corner.2.1 32 = .ok (.iload_n 2, 1) := by decide +kernel
theorem dX9_corner_33 : decode μX9_corner.2.1 33 = .ok (.invokestatic 320, 3) := by decide +kernel
theorem dX9_corner_36 : decode μX9_corner.2.1 36 = .ok (.goto 4, 3) := by decide +kernel
theorem dX9_corner_39 : decode μX9_corner.2.1 39 = .ok (.iconst (-1), 1) := by decide +kernel
theorem dX9_corner_40 : decode μX9_corner.2.1 40 = .ok (.ireturn, 1) := by decide +kernel
set_option maxRecDepth 20000 in
theorem sg_X9_corner_0 {d : Nat} {x1 : Int32} {x2 : Int32} {M : Mem} {K : (Int32 → Mem → Prop)}  (h : (CI d μX9_isIn [.int x1, .int 0, .int ((ri M 68 (nx 12)) - 1)] M (fun r2 M1 => (if r2 = 0 then K ((-1)) M1 else (CI d μX9_isIn [.int x2, .int 0, .int 2] M1 (fun r4 M3 => (if r4 = 0 then K ((-1)) M3 else (vp_in x1 24 ∧ (CI d μX9_lordOf [.int (ri M3 68 (nx x1)), .int x2] M3 (fun r6 M5 => K r6 M5)))))))))) : CI (d + 1) μX9_corner [.ref 58, .int x1, .int x2] M K := by
  show Rn (d + 1) μX9_corner 0 [(0, .ref 58), (1, .int x1), (2, .int x2)] [] M _
  refine rn_iload_n (i := 1) (x := x1) dX9_corner_0 rfl (by simp) ?_
  refine rn_iconst (v := 0) dX9_corner_1 rfl ?_
  refine rn_aload_n (i := 0) (x := 58) dX9_corner_2 rfl (by simp) ?_
  refine rn_getr (t := 68) dX9_corner_3 rfl gf_X9_42 rfl rfl ?_
  refine rn_bipush (v := 12) dX9_corner_6 rfl ?_
  refine rn_iaload dX9_corner_8 rfl (by unfold vp_in; decide) ?_
  refine rn_iconst (v := 1) dX9_corner_9 rfl ?_
  refine rn_isub dX9_corner_10 ?_
  refine rn_callSi (as := [.int x1, .int 0, .int ((ri M 68 (nx 12)) - 1)]) (st := []) dX9_corner_11 mf_X9_isIn lk_X9_420 sm_X9_isIn rfl (Nat.le_of_ble_eq_true rfl) (Nat.le_of_ble_eq_true rfl) rfl (RI.mono h (fun r2 M1 h => ?_))
  refine rn_if_eq (tgt := 39) dX9_corner_14 (by decide) (ite_go h (fun hc h => ?_) (fun hc h => ?_))
  · refine rn_iconst (v := -1) dX9_corner_39 rfl ?_
    exact rn_iret dX9_corner_40 rfl ⟨_, rfl, h⟩
  · refine rn_iload_n (i := 2) (x := x2) dX9_corner_17 rfl (by simp) ?_
    refine rn_iconst (v := 0) dX9_corner_18 rfl ?_
    refine rn_iconst (v := 2) dX9_corner_19 rfl ?_
    refine rn_callSi (as := [.int x2, .int 0, .int 2]) (st := []) dX9_corner_20 mf_X9_isIn lk_X9_420 sm_X9_isIn rfl (Nat.le_of_ble_eq_true rfl) (Nat.le_of_ble_eq_true rfl) rfl (RI.mono h (fun r4 M3 h => ?_))
    refine rn_if_eq (tgt := 39) dX9_corner_23 (by decide) (ite_go h (fun hc h => ?_) (fun hc h => ?_))
    · refine rn_iconst (v := -1) dX9_corner_39 rfl ?_
      exact rn_iret dX9_corner_40 rfl ⟨_, rfl, h⟩
    · refine rn_aload_n (i := 0) (x := 58) dX9_corner_26 rfl (by simp) ?_
      refine rn_getr (t := 68) dX9_corner_27 rfl gf_X9_42 rfl rfl ?_
      refine rn_iload_n (i := 1) (x := x1) dX9_corner_30 rfl (by simp) ?_
      obtain ⟨hi, h⟩ := h
      refine rn_iaload dX9_corner_31 rfl hi ?_
      refine rn_iload_n (i := 2) (x := x2) dX9_corner_32 rfl (by simp) ?_
      refine rn_callSi (as := [.int (ri M3 68 (nx x1)), .int x2]) (st := []) dX9_corner_33 mf_X9_lordOf lk_X9_320 sm_X9_lordOf rfl (Nat.le_of_ble_eq_true rfl) (Nat.le_of_ble_eq_true rfl) rfl (RI.mono h (fun r6 M5 h => ?_))
      refine rn_goto (tgt := 40) dX9_corner_36 (by decide) ?_
      exact rn_iret dX9_corner_40 rfl ⟨_, rfl, h⟩
theorem dX9_wall_0 : decode μX9_wall.2.1 0 = .ok (.iload_n 1, 1) := by decide +kernel
theorem dX9_wall_1 : decode μX9_wall.2.1 1 = .ok (.iload_n 2, 1) := by decide +kernel
theorem dX9_wall_2 : decode μX9_wall.2.1 2 = .ok (.if_icmp .eq 19, 3) := by decide +kernel
theorem dX9_wall_5 : decode μX9_wall.2.1 5 = .ok (.aload_n 0, 1) := by decide +kernel
theorem dX9_wall_6 : decode μX9_wall.2.1 6 = .ok (.iload_n 1, 1) := by decide +kernel
theorem dX9_wall_7 : decode μX9_wall.2.1 7 = .ok (.invokevirtual 430, 3) := by decide +kernel
theorem dX9_wall_10 : decode μX9_wall.2.1 10 = .ok (.ifCond .eq 11, 3) := by decide +kernel
theorem dX9_wall_13 : decode μX9_wall.2.1 13 = .ok (.aload_n 0, 1) := by decide +kernel
theorem dX9_wall_14 : decode μX9_wall.2.1 14 = .ok (.iload_n 2, 1) := by decide +kernel
theorem dX9_wall_15 : decode μX9_wall.2.1 15 = .ok (.invokevirtual 430, 3) := by decide +kernel
theorem dX9_wall_18 : decode μX9_wall.2.1 18 = .ok (.ifCond .ne 5, 3) := by decide +kernel
theorem dX9_wall_21 : decode μX9_wall.2.1 21 = .ok (.iconst (-1), 1) := by decide +kernel
theorem dX9_wall_22 : decode μX9_wall.2.1 22 = .ok (.ireturn, 1) := by decide +kernel
theorem dX9_wall_23 : decode μX9_wall.2.1 23 = .ok (.aload_n 0, 1) := by decide +kernel
theorem dX9_wall_24 : decode μX9_wall.2.1 24 = .ok (.iload_n 1, 1) := by decide +kernel
theorem dX9_wall_25 : decode μX9_wall.2.1 25 = .ok (.iload_n 2, 1) := by decide +kernel
theorem dX9_wall_26 : decode μX9_wall.2.1 26 = .ok (.invokevirtual 307, 3) := by decide +kernel
theorem dX9_wall_29 : decode μX9_wall.2.1 29 = .ok (.ifCond .eq 31, 3) := by decide +kernel
theorem dX9_wall_32 : decode μX9_wall.2.1 32 = .ok (.iconst 1, 1) := by decide +kernel
theorem dX9_wall_33 : decode μX9_wall.2.1 33 = .ok (.iconst 2, 1) := by decide +kernel
theorem dX9_wall_34 : decode μX9_wall.2.1 34 = .ok (.aload_n 0, 1) := by decide +kernel
theorem dX9_wall_35 : decode μX9_wall.2.1 35 = .ok (.iload_n 1, 1) := by decide +kernel
theorem dX9_wall_36 : decode μX9_wall.2.1 36 = .ok (.iload_n 2, 1) := by decide +kernel
theorem dX9_wall_37 : decode μX9_wall.2.1 37 = .ok (.invokevirtual 329, 3) := by decide +kernel
theorem dX9_wall_40 : decode μX9_wall.2.1 40 = .ok (.invokestatic 261, 3) := by decide +kernel
theorem dX9_wall_43 : decode μX9_wall.2.1 43 = .ok (.imul, 1) := by decide +kernel
theorem dX9_wall_44 : decode μX9_wall.2.1 44 = .ok (.iadd, 1) := by decide +kernel
theorem dX9_wall_45 : decode μX9_wall.2.1 45 = .ok (.iconst 4, 1) := by decide +kernel
theorem dX9_wall_46 : decode μX9_wall.2.1 46 = .ok (.aload_n 0, 1) := by decide +kernel
theorem dX9_wall_47 : decode μX9_wall.2.1 47 = .ok (.iload_n 1, 1) := by decide +kernel
theorem dX9_wall_48 : decode μX9_wall.2.1 48 = .ok (.iload_n 2, 1) := by decide +kernel
theorem dX9_wall_49 : decode μX9_wall.2.1 49 = .ok (.invokevirtual 433, 3) := by decide +kernel
theorem dX9_wall_52 : decode μX9_wall.2.1 52 = .ok (.invokestatic 261, 3) := by decide +kernel
theorem dX9_wall_55 : decode μX9_wall.2.1 55 = .ok (.imul, 1) := by decide +kernel
theorem dX9_wall_56 : decode μX9_wall.2.1 56 = .ok (.iadd, 1) := by decide +kernel
theorem dX9_wall_57 : decode μX9_wall.2.1 57 = .ok (.goto 4, 3) := by decide +kernel
theorem dX9_wall_60 : decode μX9_wall.2.1 60 = .ok (.iconst 0, 1) := by decide +kernel
theorem dX9_wall_61 : decode μX9_wall.2.1 61 = .ok (.ireturn, 1) := by decide +kernel
set_option maxRecDepth 20000 in
theorem sg_X9_wall_0 {d : Nat} {x1 : Int32} {x2 : Int32} {M : Mem} {K : (Int32 → Mem → Prop)}  (h : (if x1 = x2 then K ((-1)) M else (CI d μX9_isThereNow [.ref 58, .int x1] M (fun r2 M1 => (if r2 = 0 then K ((-1)) M1 else (CI d μX9_isThereNow [.ref 58, .int x2] M1 (fun r4 M3 => (if r4 = 0 then K ((-1)) M3 else (CI d μX9_doBorder [.ref 58, .int x1, .int x2] M3 (fun r6 M5 => (if r6 = 0 then K 0 M5 else (CI d μX9_canFlip [.ref 58, .int x1, .int x2] M5 (fun r8 M7 => (CI d μX9_truth [.int r8] M7 (fun r10 M9 => (CI d μX9_canPop [.ref 58, .int x1, .int x2] M9 (fun r12 M11 => (CI d μX9_truth [.int r12] M11 (fun r14 M13 => K ((1 + (2 * r10)) + (4 * r14)) M13))))))))))))))))))) : CI (d + 1) μX9_wall [.ref 58, .int x1, .int x2] M K := by
  show Rn (d + 1) μX9_wall 0 [(0, .ref 58), (1, .int x1), (2, .int x2)] [] M _
  refine rn_iload_n (i := 1) (x := x1) dX9_wall_0 rfl (by simp) ?_
  refine rn_iload_n (i := 2) (x := x2) dX9_wall_1 rfl (by simp) ?_
  refine rn_icmp_eq (tgt := 21) dX9_wall_2 (by decide) (ite_go h (fun hc h => ?_) (fun hc h => ?_))
  · refine rn_iconst (v := -1) dX9_wall_21 rfl ?_
    exact rn_iret dX9_wall_22 rfl ⟨_, rfl, h⟩
  · refine rn_aload_n (i := 0) (x := 58) dX9_wall_5 rfl (by simp) ?_
    refine rn_iload_n (i := 1) (x := x1) dX9_wall_6 rfl (by simp) ?_
    refine rn_callVi (as := [.int x1]) (st := []) dX9_wall_7 mf_X9_isThereNow lk_X9_430 im_X9_isThereNow rfl rfl rfl rfl (Nat.le_of_ble_eq_true rfl) (Nat.le_of_ble_eq_true rfl) rfl (RI.mono h (fun r2 M1 h => ?_))
    refine rn_if_eq (tgt := 21) dX9_wall_10 (by decide) (ite_go h (fun hc h => ?_) (fun hc h => ?_))
    · refine rn_iconst (v := -1) dX9_wall_21 rfl ?_
      exact rn_iret dX9_wall_22 rfl ⟨_, rfl, h⟩
    · refine rn_aload_n (i := 0) (x := 58) dX9_wall_13 rfl (by simp) ?_
      refine rn_iload_n (i := 2) (x := x2) dX9_wall_14 rfl (by simp) ?_
      refine rn_callVi (as := [.int x2]) (st := []) dX9_wall_15 mf_X9_isThereNow lk_X9_430 im_X9_isThereNow rfl rfl rfl rfl (Nat.le_of_ble_eq_true rfl) (Nat.le_of_ble_eq_true rfl) rfl (RI.mono h (fun r4 M3 h => ?_))
      refine rn_if_ne (tgt := 23) dX9_wall_18 (by decide) (ite_go h (fun hc h => ?_) (fun hc h => ?_))
      · refine rn_iconst (v := -1) dX9_wall_21 rfl ?_
        exact rn_iret dX9_wall_22 rfl ⟨_, rfl, h⟩
      · refine rn_aload_n (i := 0) (x := 58) dX9_wall_23 rfl (by simp) ?_
        refine rn_iload_n (i := 1) (x := x1) dX9_wall_24 rfl (by simp) ?_
        refine rn_iload_n (i := 2) (x := x2) dX9_wall_25 rfl (by simp) ?_
        refine rn_callVi (as := [.int x1, .int x2]) (st := []) dX9_wall_26 mf_X9_doBorder lk_X9_307 im_X9_doBorder rfl rfl rfl rfl (Nat.le_of_ble_eq_true rfl) (Nat.le_of_ble_eq_true rfl) rfl (RI.mono h (fun r6 M5 h => ?_))
        refine rn_if_eq (tgt := 60) dX9_wall_29 (by decide) (ite_go h (fun hc h => ?_) (fun hc h => ?_))
        · refine rn_iconst (v := 0) dX9_wall_60 rfl ?_
          exact rn_iret dX9_wall_61 rfl ⟨_, rfl, h⟩
        · refine rn_iconst (v := 1) dX9_wall_32 rfl ?_
          refine rn_iconst (v := 2) dX9_wall_33 rfl ?_
          refine rn_aload_n (i := 0) (x := 58) dX9_wall_34 rfl (by simp) ?_
          refine rn_iload_n (i := 1) (x := x1) dX9_wall_35 rfl (by simp) ?_
          refine rn_iload_n (i := 2) (x := x2) dX9_wall_36 rfl (by simp) ?_
          refine rn_callVi (as := [.int x1, .int x2]) (st := [.int 2, .int 1]) dX9_wall_37 mf_X9_canFlip lk_X9_329 im_X9_canFlip rfl rfl rfl rfl (Nat.le_of_ble_eq_true rfl) (Nat.le_of_ble_eq_true rfl) rfl (RI.mono h (fun r8 M7 h => ?_))
          refine rn_callSi (as := [.int r8]) (st := [.int 2, .int 1]) dX9_wall_40 mf_X9_truth lk_X9_261 sm_X9_truth rfl (Nat.le_of_ble_eq_true rfl) (Nat.le_of_ble_eq_true rfl) rfl (RI.mono h (fun r10 M9 h => ?_))
          refine rn_imul dX9_wall_43 ?_
          refine rn_iadd dX9_wall_44 ?_
          refine rn_iconst (v := 4) dX9_wall_45 rfl ?_
          refine rn_aload_n (i := 0) (x := 58) dX9_wall_46 rfl (by simp) ?_
          refine rn_iload_n (i := 1) (x := x1) dX9_wall_47 rfl (by simp) ?_
          refine rn_iload_n (i := 2) (x := x2) dX9_wall_48 rfl (by simp) ?_
          refine rn_callVi (as := [.int x1, .int x2]) (st := [.int 4, .int (1 + (2 * r10))]) dX9_wall_49 mf_X9_canPop lk_X9_433 im_X9_canPop rfl rfl rfl rfl (Nat.le_of_ble_eq_true rfl) (Nat.le_of_ble_eq_true rfl) rfl (RI.mono h (fun r12 M11 h => ?_))
          refine rn_callSi (as := [.int r12]) (st := [.int 4, .int (1 + (2 * r10))]) dX9_wall_52 mf_X9_truth lk_X9_261 sm_X9_truth rfl (Nat.le_of_ble_eq_true rfl) (Nat.le_of_ble_eq_true rfl) rfl (RI.mono h (fun r14 M13 h => ?_))
          refine rn_imul dX9_wall_55 ?_
          refine rn_iadd dX9_wall_56 ?_
          refine rn_goto (tgt := 61) dX9_wall_57 (by decide) ?_
          exact rn_iret dX9_wall_61 rfl ⟨_, rfl, h⟩
theorem dX9_act_0 : decode μX9_act.2.1 0 = .ok (.aload_n 0, 1) := by decide +kernel
theorem dX9_act_1 : decode μX9_act.2.1 1 = .ok (.getfield 408, 3) := by decide +kernel
theorem dX9_act_4 : decode μX9_act.2.1 4 = .ok (.bipush 40, 2) := by decide +kernel
theorem dX9_act_6 : decode μX9_act.2.1 6 = .ok (.if_icmp .ne 43, 3) := by decide +kernel
theorem dX9_act_9 : decode μX9_act.2.1 9 = .ok (.iconst 0, 1) := by decide +kernel
theorem dX9_act_10 : decode μX9_act.2.1 10 = .ok (.istore_n 1, 1) := by decide +kernel
theorem dX9_act_11 : decode μX9_act.2.1 11 = .ok (.iload_n 1, 1) := by decide +kernel
theorem dX9_act_12 : decode μX9_act.2.1 12 = .ok (.sipush 936, 3) := by decide +kernel
theorem dX9_act_15 : decode μX9_act.2.1 15 = .ok (.if_icmp .ge 24, 3) := by decide +kernel
theorem dX9_act_18 : decode μX9_act.2.1 18 = .ok (.aload_n 0, 1) := by decide +kernel
theorem dX9_act_19 : decode μX9_act.2.1 19 = .ok (.getfield 54, 3) := by decide +kernel
theorem dX9_act_22 : decode μX9_act.2.1 22 = .ok (.iload_n 1, 1) := by decide +kernel
theorem dX9_act_23 : decode μX9_act.2.1 23 = .ok (.aload_n 0, 1) := by decide +kernel
theorem dX9_act_24 : decode μX9_act.2.1 24 = .ok (.getfield 54, 3) := by decide +kernel
theorem dX9_act_27 : decode μX9_act.2.1 27 = .ok (.bipush 24, 2) := by decide +kernel
theorem dX9_act_29 : decode μX9_act.2.1 29 = .ok (.iload_n 1, 1) := by decide +kernel
theorem dX9_act_30 : decode μX9_act.2.1 30 = .ok (.iadd, 1) := by decide +kernel
theorem dX9_act_31 : decode μX9_act.2.1 31 = .ok (.iaload, 1) := by decide +kernel
theorem dX9_act_32 : decode μX9_act.2.1 32 = .ok (.iastore, 1) := by decide +kernel
theorem dX9_act_33 : decode μX9_act.2.1 33 = .ok (.iinc 1 1, 3) := by decide +kernel
theorem dX9_act_36 : decode μX9_act.2.1 36 = .ok (.goto (-25), 3) := by decide +kernel
theorem dX9_act_39 : decode μX9_act.2.1 39 = .ok (.aload_n 0, 1) := by decide +kernel
theorem dX9_act_40 : decode μX9_act.2.1 40 = .ok (.dup, 1) := by decide +kernel
theorem dX9_act_41 : decode μX9_act.2.1 41 = .ok (.getfield 408, 3) := by decide +kernel
theorem dX9_act_44 : decode μX9_act.2.1 44 = .ok (.iconst 1, 1) := by decide +kernel
theorem dX9_act_45 : decode μX9_act.2.1 45 = .ok (.isub, 1) := by decide +kernel
theorem dX9_act_46 : decode μX9_act.2.1 46 = .ok (.putfield 408, 3) := by decide +kernel
theorem dX9_act_49 : decode μX9_act.2.1 49 = .ok (.iconst 0, 1) := by decide +kernel
theorem dX9_act_50 : decode μX9_act.2.1 50 = .ok (.istore_n 1, 1) := by decide +kernel
theorem dX9_act_51 : decode μX9_act.2.1 51 = .ok (.iload_n 1, 1) := by decide +kernel
theorem dX9_act_52 : decode μX9_act.2.1 52 = .ok (.bipush 24, 2) := by decide +kernel
theorem dX9_act_54 : decode μX9_act.2.1 54 = .ok (.if_icmp .ge 29, 3) := by decide +kernel
theorem dX9_act_57 : decode μX9_act.2.1 57 = .ok (.aload_n 0, 1) := by decide +kernel
theorem dX9_act_58 : decode μX9_act.2.1 58 = .ok (.getfield 54, 3) := by decide +kernel
theorem dX9_act_61 : decode μX9_act.2.1 61 = .ok (.bipush 24, 2) := by decide +kernel
theorem dX9_act_63 : decode μX9_act.2.1 63 = .ok (.aload_n 0, 1) := by decide +kernel
theorem dX9_act_64 : decode μX9_act.2.1 64 = .ok (.getfield 408, 3) := by decide +kernel
theorem dX9_act_67 : decode μX9_act.2.1 67 = .ok (.imul, 1) := by decide +kernel
theorem dX9_act_68 : decode μX9_act.2.1 68 = .ok (.iload_n 1, 1) := by decide +kernel
theorem dX9_act_69 : decode μX9_act.2.1 69 = .ok (.iadd, 1) := by decide +kernel
theorem dX9_act_70 : decode μX9_act.2.1 70 = .ok (.aload_n 0, 1) := by decide +kernel
theorem dX9_act_71 : decode μX9_act.2.1 71 = .ok (.getfield 42, 3) := by decide +kernel
theorem dX9_act_74 : decode μX9_act.2.1 74 = .ok (.iload_n 1, 1) := by decide +kernel
theorem dX9_act_75 : decode μX9_act.2.1 75 = .ok (.iaload, 1) := by decide +kernel
theorem dX9_act_76 : decode μX9_act.2.1 76 = .ok (.iastore, 1) := by decide +kernel
theorem dX9_act_77 : decode μX9_act.2.1 77 = .ok (.iinc 1 1, 3) := by decide +kernel
theorem dX9_act_80 : decode μX9_act.2.1 80 = .ok (.goto (-29), 3) := by decide +kernel
theorem dX9_act_83 : decode μX9_act.2.1 83 = .ok (.aload_n 0, 1) := by decide +kernel
theorem dX9_act_84 : decode μX9_act.2.1 84 = .ok (.dup, 1) := by decide +kernel
theorem dX9_act_85 : decode μX9_act.2.1 85 = .ok (.getfield 408, 3) := by decide +kernel
theorem dX9_act_88 : decode μX9_act.2.1 88 = .ok (.iconst 1, 1) := by decide +kernel
theorem dX9_act_89 : decode μX9_act.2.1 89 = .ok (.iadd, 1) := by decide +kernel
theorem dX9_act_90 : decode μX9_act.2.1 90 = .ok (.putfield 408, 3) := by decide +kernel
theorem dX9_act_93 : decode μX9_act.2.1 93 = .ok (.aload_n 0, 1) := by decide +kernel
theorem dX9_act_94 : decode μX9_act.2.1 94 = .ok (.iconst 0, 1) := by decide +kernel
theorem dX9_act_95 : decode μX9_act.2.1 95 = .ok (.putfield 411, 3) := by decide +kernel
theorem dX9_act_98 : decode μX9_act.2.1 98 = .ok (.aload_n 0, 1) := by decide +kernel
theorem dX9_act_99 : decode μX9_act.2.1 99 = .ok (.invokevirtual 424, 3) := by decide +kernel
theorem dX9_act_102 : decode μX9_act.2.1 102 = .ok (.return_, 1) := by decide +kernel
set_option maxRecDepth 20000 in
theorem sg_X9_act_0 {d : Nat}  {M : Mem} {K : (Mem → Prop)}  (h : (if ri M 58 40 = 40 then RV (d + 1) μX9_act 11 [(0, .ref 58), (1, .int 0)] [] M K else RV (d + 1) μX9_act 51 [(0, .ref 58), (1, .int 0)] [] M K)) : CV (d + 1) μX9_act [.ref 58] M K := by
  show Rn (d + 1) μX9_act 0 [(0, .ref 58)] [] M _
  refine rn_aload_n (i := 0) (x := 58) dX9_act_0 rfl (by simp) ?_
  refine rn_geti dX9_act_1 rfl gf_X9_408 (by decide) ?_
  refine rn_bipush (v := 40) dX9_act_4 rfl ?_
  refine rn_icmp_ne (tgt := 49) dX9_act_6 (by decide) (ite_go h (fun hc h => ?_) (fun hc h => ?_))
  · refine rn_iconst (v := 0) dX9_act_9 rfl ?_
    refine rn_istore_n (lv' := [(0, .ref 58), (1, .int 0)]) (hd := dX9_act_10) (i := 1) (hi := rfl) (hn := by decide) (hf := rfl) (hl := rfl) ?_
    exact h
  · refine rn_iconst (v := 0) dX9_act_49 rfl ?_
    refine rn_istore_n (lv' := [(0, .ref 58), (1, .int 0)]) (hd := dX9_act_50) (i := 1) (hi := rfl) (hn := by decide) (hf := rfl) (hl := rfl) ?_
    exact h
set_option maxRecDepth 20000 in
theorem sg_X9_act_11 {d : Nat} {x1 : Int32} {M : Mem} {K : (Mem → Prop)}  (h : (if 936 ≤ x1 then (∀ M1, M1 = wi M 58 40 ((ri M 58 40) - 1) → RV (d + 1) μX9_act 51 [(0, .ref 58), (1, .int 0)] [] M1 K) else (vp_in (24 + x1) 960 ∧ (vp_in x1 960 ∧ ∀ M2, M2 = wi M 72 (nx x1) (ri M 72 (nx (24 + x1))) → RV (d + 1) μX9_act 11 [(0, .ref 58), (1, .int (x1 + 1))] [] M2 K)))) : RV (d + 1) μX9_act 11 [(0, .ref 58), (1, .int x1)] [] M K := by
  show Rn (d + 1) μX9_act 11 [(0, .ref 58), (1, .int x1)] [] M _
  refine rn_iload_n (i := 1) (x := x1) dX9_act_11 rfl (by simp) ?_
  refine rn_sipush (v := 936) dX9_act_12 rfl ?_
  refine rn_icmp_ge (tgt := 39) dX9_act_15 (by decide) (ite_go h (fun hc h => ?_) (fun hc h => ?_))
  · refine rn_aload_n (i := 0) (x := 58) dX9_act_39 rfl (by simp) ?_
    refine rn_dup dX9_act_40 rfl ?_
    refine rn_geti dX9_act_41 rfl gf_X9_408 (by decide) ?_
    refine rn_iconst (v := 1) dX9_act_44 rfl ?_
    refine rn_isub dX9_act_45 ?_
    have h := h _ rfl
    refine rn_puti dX9_act_46 rfl pf_X9_408 (by decide) rfl rfl ?_
    generalize wi M 58 40 ((ri M 58 40) - 1) = M1 at h ⊢
    refine rn_iconst (v := 0) dX9_act_49 rfl ?_
    refine rn_istore_n (lv' := [(0, .ref 58), (1, .int 0)]) (hd := dX9_act_50) (i := 1) (hi := rfl) (hn := by decide) (hf := rfl) (hl := rfl) ?_
    exact h
  · refine rn_aload_n (i := 0) (x := 58) dX9_act_18 rfl (by simp) ?_
    refine rn_getr (t := 72) dX9_act_19 rfl gf_X9_54 rfl rfl ?_
    refine rn_iload_n (i := 1) (x := x1) dX9_act_22 rfl (by simp) ?_
    refine rn_aload_n (i := 0) (x := 58) dX9_act_23 rfl (by simp) ?_
    refine rn_getr (t := 72) dX9_act_24 rfl gf_X9_54 rfl rfl ?_
    refine rn_bipush (v := 24) dX9_act_27 rfl ?_
    refine rn_iload_n (i := 1) (x := x1) dX9_act_29 rfl (by simp) ?_
    refine rn_iadd dX9_act_30 ?_
    obtain ⟨hi, h⟩ := h
    refine rn_iaload dX9_act_31 rfl hi ?_
    obtain ⟨hi, h⟩ := h
    have h := h _ rfl
    refine rn_iastore dX9_act_32 rfl hi ?_
    generalize wi M 72 (nx x1) (ri M 72 (nx (24 + x1))) = M2 at h ⊢
    refine rn_iinc (x := x1) (v := x1 + 1) (lv' := [(0, .ref 58), (1, .int (x1 + 1))]) dX9_act_33 (by simp) rfl (by decide) rfl rfl ?_
    refine rn_goto (tgt := 11) dX9_act_36 (by decide) ?_
    exact h
set_option maxRecDepth 20000 in
theorem sg_X9_act_51 {d : Nat} {x1 : Int32} {M : Mem} {K : (Mem → Prop)}  (h : (if 24 ≤ x1 then (∀ M1, M1 = wi M 58 40 ((ri M 58 40) + 1) → (∀ M2, M2 = wi M1 58 41 0 → (CV d μX9_fill [.ref 58] M2 (fun M3 => K M3)))) else (vp_in x1 24 ∧ (vp_in ((24 * (ri M 58 40)) + x1) 960 ∧ ∀ M4, M4 = wi M 72 (nx ((24 * (ri M 58 40)) + x1)) (ri M 68 (nx x1)) → RV (d + 1) μX9_act 51 [(0, .ref 58), (1, .int (x1 + 1))] [] M4 K)))) : RV (d + 1) μX9_act 51 [(0, .ref 58), (1, .int x1)] [] M K := by
  show Rn (d + 1) μX9_act 51 [(0, .ref 58), (1, .int x1)] [] M _
  refine rn_iload_n (i := 1) (x := x1) dX9_act_51 rfl (by simp) ?_
  refine rn_bipush (v := 24) dX9_act_52 rfl ?_
  refine rn_icmp_ge (tgt := 83) dX9_act_54 (by decide) (ite_go h (fun hc h => ?_) (fun hc h => ?_))
  · refine rn_aload_n (i := 0) (x := 58) dX9_act_83 rfl (by simp) ?_
    refine rn_dup dX9_act_84 rfl ?_
    refine rn_geti dX9_act_85 rfl gf_X9_408 (by decide) ?_
    refine rn_iconst (v := 1) dX9_act_88 rfl ?_
    refine rn_iadd dX9_act_89 ?_
    have h := h _ rfl
    refine rn_puti dX9_act_90 rfl pf_X9_408 (by decide) rfl rfl ?_
    generalize wi M 58 40 ((ri M 58 40) + 1) = M1 at h ⊢
    refine rn_aload_n (i := 0) (x := 58) dX9_act_93 rfl (by simp) ?_
    refine rn_iconst (v := 0) dX9_act_94 rfl ?_
    have h := h _ rfl
    refine rn_puti dX9_act_95 rfl pf_X9_411 (by decide) rfl rfl ?_
    generalize wi M1 58 41 0 = M2 at h ⊢
    refine rn_aload_n (i := 0) (x := 58) dX9_act_98 rfl (by simp) ?_
    refine rn_callVv (as := []) (st := []) dX9_act_99 mf_X9_fill lk_X9_424 im_X9_fill rfl rfl rfl rfl (Nat.le_of_ble_eq_true rfl) (Nat.le_of_ble_eq_true rfl) rfl (RV.mono h (fun M3 h => ?_))
    exact rn_ret dX9_act_102 rfl ⟨rfl, h⟩
  · refine rn_aload_n (i := 0) (x := 58) dX9_act_57 rfl (by simp) ?_
    refine rn_getr (t := 72) dX9_act_58 rfl gf_X9_54 rfl rfl ?_
    refine rn_bipush (v := 24) dX9_act_61 rfl ?_
    refine rn_aload_n (i := 0) (x := 58) dX9_act_63 rfl (by simp) ?_
    refine rn_geti dX9_act_64 rfl gf_X9_408 (by decide) ?_
    refine rn_imul dX9_act_67 ?_
    refine rn_iload_n (i := 1) (x := x1) dX9_act_68 rfl (by simp) ?_
    refine rn_iadd dX9_act_69 ?_
    refine rn_aload_n (i := 0) (x := 58) dX9_act_70 rfl (by simp) ?_
    refine rn_getr (t := 68) dX9_act_71 rfl gf_X9_42 rfl rfl ?_
    refine rn_iload_n (i := 1) (x := x1) dX9_act_74 rfl (by simp) ?_
    obtain ⟨hi, h⟩ := h
    refine rn_iaload dX9_act_75 rfl hi ?_
    obtain ⟨hi, h⟩ := h
    have h := h _ rfl
    refine rn_iastore dX9_act_76 rfl hi ?_
    generalize wi M 72 (nx ((24 * (ri M 58 40)) + x1)) (ri M 68 (nx x1)) = M4 at h ⊢
    refine rn_iinc (x := x1) (v := x1 + 1) (lv' := [(0, .ref 58), (1, .int (x1 + 1))]) dX9_act_77 (by simp) rfl (by decide) rfl rfl ?_
    refine rn_goto (tgt := 51) dX9_act_80 (by decide) ?_
    exact h
theorem dX9_exchange_0 : decode μX9_exchange.2.1 0 = .ok (.iconst 0, 1) := by decide +kernel
theorem dX9_exchange_1 : decode μX9_exchange.2.1 1 = .ok (.istore_n 2, 1) := by decide +kernel
theorem dX9_exchange_2 : decode μX9_exchange.2.1 2 = .ok (.iload_n 2, 1) := by decide +kernel
theorem dX9_exchange_3 : decode μX9_exchange.2.1 3 = .ok (.bipush 24, 2) := by decide +kernel
theorem dX9_exchange_5 : decode μX9_exchange.2.1 5 = .ok (.if_icmp .ge 39, 3) := by decide +kernel
theorem dX9_exchange_8 : decode μX9_exchange.2.1 8 = .ok (.aload_n 0, 1) := by decide +kernel
theorem dX9_exchange_9 : decode μX9_exchange.2.1 9 = .ok (.getfield 54, 3) := by decide +kernel
theorem dX9_exchange_12 : decode μX9_exchange.2.1 12 = .ok (.iload_n 1, 1) := by decide +kernel
theorem dX9_exchange_13 : decode μX9_exchange.2.1 13 = .ok (.iload_n 2, 1) := by decide +kernel
theorem dX9_exchange_14 : decode μX9_exchange.2.1 14 = .ok (.iadd, 1) := by decide +kernel
theorem dX9_exchange_15 : decode μX9_exchange.2.1 15 = .ok (.iaload, 1) := by decide +kernel
theorem dX9_exchange_16 : decode μX9_exchange.2.1 16 = .ok (.istore_n 3, 1) := by decide +kernel
theorem dX9_exchange_17 : decode μX9_exchange.2.1 17 = .ok (.aload_n 0, 1) := by decide +kernel
theorem dX9_exchange_18 : decode μX9_exchange.2.1 18 = .ok (.getfield 54, 3) := by decide +kernel
theorem dX9_exchange_21 : decode μX9_exchange.2.1 21 = .ok (.iload_n 1, 1) := by decide +kernel
theorem dX9_exchange_22 : decode μX9_exchange.2.1 22 = .ok (.iload_n 2, 1) := by decide +kernel
theorem dX9_exchange_23 : decode μX9_exchange.2.1 23 = .ok (.iadd, 1) := by decide +kernel
theorem dX9_exchange_24 : decode μX9_exchange.2.1 24 = .ok (.aload_n 0, 1) := by decide +kernel
theorem dX9_exchange_25 : decode μX9_exchange.2.1 25 = .ok (.getfield 42, 3) := by decide +kernel
theorem dX9_exchange_28 : decode μX9_exchange.2.1 28 = .ok (.iload_n 2, 1) := by decide +kernel
theorem dX9_exchange_29 : decode μX9_exchange.2.1 29 = .ok (.iaload, 1) := by decide +kernel
theorem dX9_exchange_30 : decode μX9_exchange.2.1 30 = .ok (.iastore, 1) := by decide +kernel
theorem dX9_exchange_31 : decode μX9_exchange.2.1 31 = .ok (.aload_n 0, 1) := by decide +kernel
theorem dX9_exchange_32 : decode μX9_exchange.2.1 32 = .ok (.getfield 42, 3) := by decide +kernel
theorem dX9_exchange_35 : decode μX9_exchange.2.1 35 = .ok (.iload_n 2, 1) := by decide +kernel
theorem dX9_exchange_36 : decode μX9_exchange.2.1 36 = .ok (.iload_n 3, 1) := by decide +kernel
theorem dX9_exchange_37 : decode μX9_exchange.2.1 37 = .ok (.iastore, 1) := by decide +kernel
theorem dX9_exchange_38 : decode μX9_exchange.2.1 38 = .ok (.iinc 2 1, 3) := by decide +kernel
theorem dX9_exchange_41 : decode μX9_exchange.2.1 41 = .ok (.goto (-39), 3) := by decide +kernel
theorem dX9_exchange_44 : decode μX9_exchange.2.1 44 = .ok (.return_, 1) := by decide +kernel
set_option maxRecDepth 20000 in
theorem sg_X9_exchange_0 {d : Nat} {x1 : Int32} {M : Mem} {K : (Mem → Prop)}  (h : RV d μX9_exchange 2 [(0, .ref 58), (1, .int x1), (2, .int 0)] [] M K) : CV d μX9_exchange [.ref 58, .int x1] M K := by
  show Rn d μX9_exchange 0 [(0, .ref 58), (1, .int x1)] [] M _
  refine rn_iconst (v := 0) dX9_exchange_0 rfl ?_
  refine rn_istore_n (lv' := [(0, .ref 58), (1, .int x1), (2, .int 0)]) (hd := dX9_exchange_1) (i := 2) (hi := rfl) (hn := by decide) (hf := rfl) (hl := rfl) ?_
  exact h
set_option maxRecDepth 20000 in
theorem sg_X9_exchange_2 {d : Nat} {x1 : Int32} {x2 : Int32} {M : Mem} {K : (Mem → Prop)}  (h : (if 24 ≤ x2 then K M else (vp_in (x1 + x2) 960 ∧ (vp_in x2 24 ∧ (vp_in (x1 + x2) 960 ∧ ∀ M1, M1 = wi M 72 (nx (x1 + x2)) (ri M 68 (nx x2)) → (vp_in x2 24 ∧ ∀ M2, M2 = wi M1 68 (nx x2) (ri M 72 (nx (x1 + x2))) → RV d μX9_exchange 2 [(0, .ref 58), (1, .int x1), (2, .int (x2 + 1))] [] M2 K)))))) : RV d μX9_exchange 2 [(0, .ref 58), (1, .int x1), (2, .int x2)] [] M K := by
  show Rn d μX9_exchange 2 [(0, .ref 58), (1, .int x1), (2, .int x2)] [] M _
  refine rn_iload_n (i := 2) (x := x2) dX9_exchange_2 rfl (by simp) ?_
  refine rn_bipush (v := 24) dX9_exchange_3 rfl ?_
  refine rn_icmp_ge (tgt := 44) dX9_exchange_5 (by decide) (ite_go h (fun hc h => ?_) (fun hc h => ?_))
  · exact rn_ret dX9_exchange_44 rfl ⟨rfl, h⟩
  · refine rn_aload_n (i := 0) (x := 58) dX9_exchange_8 rfl (by simp) ?_
    refine rn_getr (t := 72) dX9_exchange_9 rfl gf_X9_54 rfl rfl ?_
    refine rn_iload_n (i := 1) (x := x1) dX9_exchange_12 rfl (by simp) ?_
    refine rn_iload_n (i := 2) (x := x2) dX9_exchange_13 rfl (by simp) ?_
    refine rn_iadd dX9_exchange_14 ?_
    obtain ⟨hi, h⟩ := h
    refine rn_iaload dX9_exchange_15 rfl hi ?_
    refine rn_istore_n (lv' := [(0, .ref 58), (1, .int x1), (2, .int x2), (3, .int (ri M 72 (nx (x1 + x2))))]) (hd := dX9_exchange_16) (i := 3) (hi := rfl) (hn := by decide) (hf := rfl) (hl := rfl) ?_
    refine rn_aload_n (i := 0) (x := 58) dX9_exchange_17 rfl (by simp) ?_
    refine rn_getr (t := 72) dX9_exchange_18 rfl gf_X9_54 rfl rfl ?_
    refine rn_iload_n (i := 1) (x := x1) dX9_exchange_21 rfl (by simp) ?_
    refine rn_iload_n (i := 2) (x := x2) dX9_exchange_22 rfl (by simp) ?_
    refine rn_iadd dX9_exchange_23 ?_
    refine rn_aload_n (i := 0) (x := 58) dX9_exchange_24 rfl (by simp) ?_
    refine rn_getr (t := 68) dX9_exchange_25 rfl gf_X9_42 rfl rfl ?_
    refine rn_iload_n (i := 2) (x := x2) dX9_exchange_28 rfl (by simp) ?_
    obtain ⟨hi, h⟩ := h
    refine rn_iaload dX9_exchange_29 rfl hi ?_
    obtain ⟨hi, h⟩ := h
    have h := h _ rfl
    refine rn_iastore dX9_exchange_30 rfl hi ?_
    generalize wi M 72 (nx (x1 + x2)) (ri M 68 (nx x2)) = M1 at h ⊢
    refine rn_aload_n (i := 0) (x := 58) dX9_exchange_31 rfl (by simp) ?_
    refine rn_getr (t := 68) dX9_exchange_32 rfl gf_X9_42 rfl rfl ?_
    refine rn_iload_n (i := 2) (x := x2) dX9_exchange_35 rfl (by simp) ?_
    refine rn_iload_n (i := 3) (x := ri M 72 (nx (x1 + x2))) dX9_exchange_36 rfl (by simp) ?_
    obtain ⟨hi, h⟩ := h
    have h := h _ rfl
    refine rn_iastore dX9_exchange_37 rfl hi ?_
    generalize wi M1 68 (nx x2) (ri M 72 (nx (x1 + x2))) = M2 at h ⊢
    refine rn_iinc (x := x2) (v := x2 + 1) (lv' := [(0, .ref 58), (1, .int x1), (2, .int (x2 + 1)), (3, .int (ri M 72 (nx (x1 + x2))))]) dX9_exchange_38 (by simp) rfl (by decide) rfl rfl ?_
    refine rn_goto (tgt := 2) dX9_exchange_41 (by decide) ?_
    refine Rn.sub (lv' := [(0, .ref 58), (1, .int x1), (2, .int (x2 + 1))]) (by simp) ?_
    exact h
theorem dX9_season_0 : decode μX9_season.2.1 0 = .ok (.aload_n 0, 1) := by decide +kernel
theorem dX9_season_1 : decode μX9_season.2.1 1 = .ok (.getfield 42, 3) := by decide +kernel
theorem dX9_season_4 : decode μX9_season.2.1 4 = .ok (.bipush 22, 2) := by decide +kernel
theorem dX9_season_6 : decode μX9_season.2.1 6 = .ok (.iaload, 1) := by decide +kernel
theorem dX9_season_7 : decode μX9_season.2.1 7 = .ok (.sipush 999, 3) := by decide +kernel
theorem dX9_season_10 : decode μX9_season.2.1 10 = .ok (.if_icmp .ne 5, 3) := by decide +kernel
theorem dX9_season_13 : decode μX9_season.2.1 13 = .ok (.iconst (-1), 1) := by decide +kernel
theorem dX9_season_14 : decode μX9_season.2.1 14 = .ok (.ireturn, 1) := by decide +kernel
theorem dX9_season_15 : decode μX9_season.2.1 15 = .ok (.aload_n 0, 1) := by decide +kernel
theorem dX9_season_16 : decode μX9_season.2.1 16 = .ok (.invokevirtual 436, 3) := by decide +kernel
theorem dX9_season_19 : decode μX9_season.2.1 19 = .ok (.aload_n 0, 1) := by decide +kernel
theorem dX9_season_20 : decode μX9_season.2.1 20 = .ok (.getfield 45, 3) := by decide +kernel
theorem dX9_season_23 : decode μX9_season.2.1 23 = .ok (.bipush 13, 2) := by decide +kernel
theorem dX9_season_25 : decode μX9_season.2.1 25 = .ok (.iaload, 1) := by decide +kernel
theorem dX9_season_26 : decode μX9_season.2.1 26 = .ok (.istore_n 1, 1) := by decide +kernel
theorem dX9_season_27 : decode μX9_season.2.1 27 = .ok (.aload_n 0, 1) := by decide +kernel
theorem dX9_season_28 : decode μX9_season.2.1 28 = .ok (.iconst 1, 1) := by decide +kernel
theorem dX9_season_29 : decode μX9_season.2.1 29 = .ok (.invokevirtual 439, 3) := by decide +kernel
theorem dX9_season_32 : decode μX9_season.2.1 32 = .ok (.aload_n 0, 1) := by decide +kernel
theorem dX9_season_33 : decode μX9_season.2.1 33 = .ok (.invokevirtual 405, 3) := by decide +kernel
theorem dX9_season_36 : decode μX9_season.2.1 36 = .ok (.iload_n 1, 1) := by decide +kernel
theorem dX9_season_37 : decode μX9_season.2.1 37 = .ok (.aload_n 0, 1) := by decide +kernel
theorem dX9_season_38 : decode μX9_season.2.1 38 = .ok (.getfield 42, 3) := by decide +kernel
theorem dX9_season_41 : decode μX9_season.2.1 41 = .ok (.bipush 13, 2) := by decide +kernel
theorem dX9_season_43 : decode μX9_season.2.1 43 = .ok (.iaload, 1) := by decide +kernel
theorem dX9_season_44 : decode μX9_season.2.1 44 = .ok (.iconst (-1), 1) := by decide +kernel
theorem dX9_season_45 : decode μX9_season.2.1 45 = .ok (.ixor, 1) := by decide +kernel
theorem dX9_season_46 : decode μX9_season.2.1 46 = .ok (.iand, 1) := by decide +kernel
theorem dX9_season_47 : decode μX9_season.2.1 47 = .ok (.ireturn, 1) := by decide +kernel
set_option maxRecDepth 20000 in
theorem sg_X9_season_0 {d : Nat}  {M : Mem} {K : (Int32 → Mem → Prop)}  (h : (if ri M 68 (nx 22) = 999 then K ((-1)) M else (CV d μX9_act [.ref 58] M (fun M1 => (CV d μX9_goSeason [.ref 58, .int 1] M1 (fun M2 => (CV d μX9_keepAir [.ref 58] M2 (fun M3 => K ((ri M1 69 (nx 13)) &&& ((ri M3 68 (nx 13)) ^^^ ((-1)))) M3)))))))) : CI (d + 1) μX9_season [.ref 58] M K := by
  show Rn (d + 1) μX9_season 0 [(0, .ref 58)] [] M _
  refine rn_aload_n (i := 0) (x := 58) dX9_season_0 rfl (by simp) ?_
  refine rn_getr (t := 68) dX9_season_1 rfl gf_X9_42 rfl rfl ?_
  refine rn_bipush (v := 22) dX9_season_4 rfl ?_
  refine rn_iaload dX9_season_6 rfl (by unfold vp_in; decide) ?_
  refine rn_sipush (v := 999) dX9_season_7 rfl ?_
  refine rn_icmp_ne (tgt := 15) dX9_season_10 (by decide) (ite_go h (fun hc h => ?_) (fun hc h => ?_))
  · refine rn_iconst (v := -1) dX9_season_13 rfl ?_
    exact rn_iret dX9_season_14 rfl ⟨_, rfl, h⟩
  · refine rn_aload_n (i := 0) (x := 58) dX9_season_15 rfl (by simp) ?_
    refine rn_callVv (as := []) (st := []) dX9_season_16 mf_X9_act lk_X9_436 im_X9_act rfl rfl rfl rfl (Nat.le_of_ble_eq_true rfl) (Nat.le_of_ble_eq_true rfl) rfl (RV.mono h (fun M1 h => ?_))
    refine rn_aload_n (i := 0) (x := 58) dX9_season_19 rfl (by simp) ?_
    refine rn_getr (t := 69) dX9_season_20 rfl gf_X9_45 rfl rfl ?_
    refine rn_bipush (v := 13) dX9_season_23 rfl ?_
    refine rn_iaload dX9_season_25 rfl (by unfold vp_in; decide) ?_
    refine rn_istore_n (lv' := [(0, .ref 58), (1, .int (ri M1 69 (nx 13)))]) (hd := dX9_season_26) (i := 1) (hi := rfl) (hn := by decide) (hf := rfl) (hl := rfl) ?_
    refine rn_aload_n (i := 0) (x := 58) dX9_season_27 rfl (by simp) ?_
    refine rn_iconst (v := 1) dX9_season_28 rfl ?_
    refine rn_callVv (as := [.int 1]) (st := []) dX9_season_29 mf_X9_goSeason lk_X9_439 im_X9_goSeason rfl rfl rfl rfl (Nat.le_of_ble_eq_true rfl) (Nat.le_of_ble_eq_true rfl) rfl (RV.mono h (fun M2 h => ?_))
    refine rn_aload_n (i := 0) (x := 58) dX9_season_32 rfl (by simp) ?_
    refine rn_callVv (as := []) (st := []) dX9_season_33 mf_X9_keepAir lk_X9_405 im_X9_keepAir rfl rfl rfl rfl (Nat.le_of_ble_eq_true rfl) (Nat.le_of_ble_eq_true rfl) rfl (RV.mono h (fun M3 h => ?_))
    refine rn_iload_n (i := 1) (x := ri M1 69 (nx 13)) dX9_season_36 rfl (by simp) ?_
    refine rn_aload_n (i := 0) (x := 58) dX9_season_37 rfl (by simp) ?_
    refine rn_getr (t := 68) dX9_season_38 rfl gf_X9_42 rfl rfl ?_
    refine rn_bipush (v := 13) dX9_season_41 rfl ?_
    refine rn_iaload dX9_season_43 rfl (by unfold vp_in; decide) ?_
    refine rn_iconst (v := -1) dX9_season_44 rfl ?_
    refine rn_ixor dX9_season_45 ?_
    refine rn_iand dX9_season_46 ?_
    exact rn_iret dX9_season_47 rfl ⟨_, rfl, h⟩
theorem dX9_flip_0 : decode μX9_flip.2.1 0 = .ok (.aload_n 0, 1) := by decide +kernel
theorem dX9_flip_1 : decode μX9_flip.2.1 1 = .ok (.iload_n 1, 1) := by decide +kernel
theorem dX9_flip_2 : decode μX9_flip.2.1 2 = .ok (.invokevirtual 430, 3) := by decide +kernel
theorem dX9_flip_5 : decode μX9_flip.2.1 5 = .ok (.ifCond .eq 20, 3) := by decide +kernel
theorem dX9_flip_8 : decode μX9_flip.2.1 8 = .ok (.aload_n 0, 1) := by decide +kernel
theorem dX9_flip_9 : decode μX9_flip.2.1 9 = .ok (.iload_n 2, 1) := by decide +kernel
theorem dX9_flip_10 : decode μX9_flip.2.1 10 = .ok (.invokevirtual 430, 3) := by decide +kernel
theorem dX9_flip_13 : decode μX9_flip.2.1 13 = .ok (.ifCond .eq 12, 3) := by decide +kernel
theorem dX9_flip_16 : decode μX9_flip.2.1 16 = .ok (.aload_n 0, 1) := by decide +kernel
theorem dX9_flip_17 : decode μX9_flip.2.1 17 = .ok (.iload_n 1, 1) := by decide +kernel
theorem dX9_flip_18 : decode μX9_flip.2.1 18 = .ok (.iload_n 2, 1) := by decide +kernel
theorem dX9_flip_19 : decode μX9_flip.2.1 19 = .ok (.invokevirtual 329, 3) := by decide +kernel
theorem dX9_flip_22 : decode μX9_flip.2.1 22 = .ok (.ifCond .ne 5, 3) := by decide +kernel
theorem dX9_flip_25 : decode μX9_flip.2.1 25 = .ok (.iconst (-1), 1) := by decide +kernel
theorem dX9_flip_26 : decode μX9_flip.2.1 26 = .ok (.ireturn, 1) := by decide +kernel
theorem dX9_flip_27 : decode μX9_flip.2.1 27 = .ok (.aload_n 0, 1) := by decide +kernel
theorem dX9_flip_28 : decode μX9_flip.2.1 28 = .ok (.invokevirtual 436, 3) := by decide +kernel
theorem dX9_flip_31 : decode μX9_flip.2.1 31 = .ok (.aload_n 0, 1) := by decide +kernel
theorem dX9_flip_32 : decode μX9_flip.2.1 32 = .ok (.iload_n 1, 1) := by decide +kernel
theorem dX9_flip_33 : decode μX9_flip.2.1 33 = .ok (.iload_n 2, 1) := by decide +kernel
theorem dX9_flip_34 : decode μX9_flip.2.1 34 = .ok (.invokevirtual 332, 3) := by decide +kernel
theorem dX9_flip_37 : decode μX9_flip.2.1 37 = .ok (.istore_n 3, 1) := by decide +kernel
theorem dX9_flip_38 : decode μX9_flip.2.1 38 = .ok (.aload_n 0, 1) := by decide +kernel
theorem dX9_flip_39 : decode μX9_flip.2.1 39 = .ok (.invokevirtual 405, 3) := by decide +kernel
theorem dX9_flip_42 : decode μX9_flip.2.1 42 = .ok (.iload_n 3, 1) := by decide +kernel
theorem dX9_flip_43 : decode μX9_flip.2.1 43 = .ok (.ireturn, 1) := by decide +kernel
set_option maxRecDepth 20000 in
theorem sg_X9_flip_0 {d : Nat} {x1 : Int32} {x2 : Int32} {M : Mem} {K : (Int32 → Mem → Prop)}  (h : (CI d μX9_isThereNow [.ref 58, .int x1] M (fun r2 M1 => (if r2 = 0 then K ((-1)) M1 else (CI d μX9_isThereNow [.ref 58, .int x2] M1 (fun r4 M3 => (if r4 = 0 then K ((-1)) M3 else (CI d μX9_canFlip [.ref 58, .int x1, .int x2] M3 (fun r6 M5 => (if r6 = 0 then K ((-1)) M5 else (CV d μX9_act [.ref 58] M5 (fun M7 => (CI d μX9_doFlip [.ref 58, .int x1, .int x2] M7 (fun r9 M8 => (CV d μX9_keepAir [.ref 58] M8 (fun M10 => K r9 M10)))))))))))))))) : CI (d + 1) μX9_flip [.ref 58, .int x1, .int x2] M K := by
  show Rn (d + 1) μX9_flip 0 [(0, .ref 58), (1, .int x1), (2, .int x2)] [] M _
  refine rn_aload_n (i := 0) (x := 58) dX9_flip_0 rfl (by simp) ?_
  refine rn_iload_n (i := 1) (x := x1) dX9_flip_1 rfl (by simp) ?_
  refine rn_callVi (as := [.int x1]) (st := []) dX9_flip_2 mf_X9_isThereNow lk_X9_430 im_X9_isThereNow rfl rfl rfl rfl (Nat.le_of_ble_eq_true rfl) (Nat.le_of_ble_eq_true rfl) rfl (RI.mono h (fun r2 M1 h => ?_))
  refine rn_if_eq (tgt := 25) dX9_flip_5 (by decide) (ite_go h (fun hc h => ?_) (fun hc h => ?_))
  · refine rn_iconst (v := -1) dX9_flip_25 rfl ?_
    exact rn_iret dX9_flip_26 rfl ⟨_, rfl, h⟩
  · refine rn_aload_n (i := 0) (x := 58) dX9_flip_8 rfl (by simp) ?_
    refine rn_iload_n (i := 2) (x := x2) dX9_flip_9 rfl (by simp) ?_
    refine rn_callVi (as := [.int x2]) (st := []) dX9_flip_10 mf_X9_isThereNow lk_X9_430 im_X9_isThereNow rfl rfl rfl rfl (Nat.le_of_ble_eq_true rfl) (Nat.le_of_ble_eq_true rfl) rfl (RI.mono h (fun r4 M3 h => ?_))
    refine rn_if_eq (tgt := 25) dX9_flip_13 (by decide) (ite_go h (fun hc h => ?_) (fun hc h => ?_))
    · refine rn_iconst (v := -1) dX9_flip_25 rfl ?_
      exact rn_iret dX9_flip_26 rfl ⟨_, rfl, h⟩
    · refine rn_aload_n (i := 0) (x := 58) dX9_flip_16 rfl (by simp) ?_
      refine rn_iload_n (i := 1) (x := x1) dX9_flip_17 rfl (by simp) ?_
      refine rn_iload_n (i := 2) (x := x2) dX9_flip_18 rfl (by simp) ?_
      refine rn_callVi (as := [.int x1, .int x2]) (st := []) dX9_flip_19 mf_X9_canFlip lk_X9_329 im_X9_canFlip rfl rfl rfl rfl (Nat.le_of_ble_eq_true rfl) (Nat.le_of_ble_eq_true rfl) rfl (RI.mono h (fun r6 M5 h => ?_))
      refine rn_if_ne (tgt := 27) dX9_flip_22 (by decide) (ite_go h (fun hc h => ?_) (fun hc h => ?_))
      · refine rn_iconst (v := -1) dX9_flip_25 rfl ?_
        exact rn_iret dX9_flip_26 rfl ⟨_, rfl, h⟩
      · refine rn_aload_n (i := 0) (x := 58) dX9_flip_27 rfl (by simp) ?_
        refine rn_callVv (as := []) (st := []) dX9_flip_28 mf_X9_act lk_X9_436 im_X9_act rfl rfl rfl rfl (Nat.le_of_ble_eq_true rfl) (Nat.le_of_ble_eq_true rfl) rfl (RV.mono h (fun M7 h => ?_))
        refine rn_aload_n (i := 0) (x := 58) dX9_flip_31 rfl (by simp) ?_
        refine rn_iload_n (i := 1) (x := x1) dX9_flip_32 rfl (by simp) ?_
        refine rn_iload_n (i := 2) (x := x2) dX9_flip_33 rfl (by simp) ?_
        refine rn_callVi (as := [.int x1, .int x2]) (st := []) dX9_flip_34 mf_X9_doFlip lk_X9_332 im_X9_doFlip rfl rfl rfl rfl (Nat.le_of_ble_eq_true rfl) (Nat.le_of_ble_eq_true rfl) rfl (RI.mono h (fun r9 M8 h => ?_))
        refine rn_istore_n (lv' := [(0, .ref 58), (1, .int x1), (2, .int x2), (3, .int r9)]) (hd := dX9_flip_37) (i := 3) (hi := rfl) (hn := by decide) (hf := rfl) (hl := rfl) ?_
        refine rn_aload_n (i := 0) (x := 58) dX9_flip_38 rfl (by simp) ?_
        refine rn_callVv (as := []) (st := []) dX9_flip_39 mf_X9_keepAir lk_X9_405 im_X9_keepAir rfl rfl rfl rfl (Nat.le_of_ble_eq_true rfl) (Nat.le_of_ble_eq_true rfl) rfl (RV.mono h (fun M10 h => ?_))
        refine rn_iload_n (i := 3) (x := r9) dX9_flip_42 rfl (by simp) ?_
        exact rn_iret dX9_flip_43 rfl ⟨_, rfl, h⟩
theorem dX9_pop_0 : decode μX9_pop.2.1 0 = .ok (.aload_n 0, 1) := by decide +kernel
theorem dX9_pop_1 : decode μX9_pop.2.1 1 = .ok (.iload_n 1, 1) := by decide +kernel
theorem dX9_pop_2 : decode μX9_pop.2.1 2 = .ok (.invokevirtual 430, 3) := by decide +kernel
theorem dX9_pop_5 : decode μX9_pop.2.1 5 = .ok (.ifCond .eq 20, 3) := by decide +kernel
theorem dX9_pop_8 : decode μX9_pop.2.1 8 = .ok (.aload_n 0, 1) := by decide +kernel
theorem dX9_pop_9 : decode μX9_pop.2.1 9 = .ok (.iload_n 2, 1) := by decide +kernel
theorem dX9_pop_10 : decode μX9_pop.2.1 10 = .ok (.invokevirtual 430, 3) := by decide +kernel
theorem dX9_pop_13 : decode μX9_pop.2.1 13 = .ok (.ifCond .eq 12, 3) := by decide +kernel
theorem dX9_pop_16 : decode μX9_pop.2.1 16 = .ok (.aload_n 0, 1) := by decide +kernel
theorem dX9_pop_17 : decode μX9_pop.2.1 17 = .ok (.iload_n 1, 1) := by decide +kernel
theorem dX9_pop_18 : decode μX9_pop.2.1 18 = .ok (.iload_n 2, 1) := by decide +kernel
theorem dX9_pop_19 : decode μX9_pop.2.1 19 = .ok (.invokevirtual 433, 3) := by decide +kernel
theorem dX9_pop_22 : decode μX9_pop.2.1 22 = .ok (.ifCond .ne 5, 3) := by decide +kernel
theorem dX9_pop_25 : decode μX9_pop.2.1 25 = .ok (.iconst (-1), 1) := by decide +kernel
theorem dX9_pop_26 : decode μX9_pop.2.1 26 = .ok (.ireturn, 1) := by decide +kernel
theorem dX9_pop_27 : decode μX9_pop.2.1 27 = .ok (.aload_n 0, 1) := by decide +kernel
theorem dX9_pop_28 : decode μX9_pop.2.1 28 = .ok (.invokevirtual 436, 3) := by decide +kernel
theorem dX9_pop_31 : decode μX9_pop.2.1 31 = .ok (.aload_n 0, 1) := by decide +kernel
theorem dX9_pop_32 : decode μX9_pop.2.1 32 = .ok (.iload_n 1, 1) := by decide +kernel
theorem dX9_pop_33 : decode μX9_pop.2.1 33 = .ok (.iload_n 2, 1) := by decide +kernel
theorem dX9_pop_34 : decode μX9_pop.2.1 34 = .ok (.invokevirtual 443, 3) := by decide +kernel
theorem dX9_pop_37 : decode μX9_pop.2.1 37 = .ok (.aload_n 0, 1) := by decide +kernel
theorem dX9_pop_38 : decode μX9_pop.2.1 38 = .ok (.invokevirtual 405, 3) := by decide +kernel
theorem dX9_pop_41 : decode μX9_pop.2.1 41 = .ok (.aload_n 0, 1) := by decide +kernel
theorem dX9_pop_42 : decode μX9_pop.2.1 42 = .ok (.getfield 42, 3) := by decide +kernel
theorem dX9_pop_45 : decode μX9_pop.2.1 45 = .ok (.bipush 14, 2) := by decide +kernel
theorem dX9_pop_47 : decode μX9_pop.2.1 47 = .ok (.iload_n 1, 1) := by decide +kernel
theorem dX9_pop_48 : decode μX9_pop.2.1 48 = .ok (.iadd, 1) := by decide +kernel
theorem dX9_pop_49 : decode μX9_pop.2.1 49 = .ok (.iaload, 1) := by decide +kernel
theorem dX9_pop_50 : decode μX9_pop.2.1 50 = .ok (.ireturn, 1) := by decide +kernel
set_option maxRecDepth 20000 in
theorem sg_X9_pop_0 {d : Nat} {x1 : Int32} {x2 : Int32} {M : Mem} {K : (Int32 → Mem → Prop)}  (h : (CI d μX9_isThereNow [.ref 58, .int x1] M (fun r2 M1 => (if r2 = 0 then K ((-1)) M1 else (CI d μX9_isThereNow [.ref 58, .int x2] M1 (fun r4 M3 => (if r4 = 0 then K ((-1)) M3 else (CI d μX9_canPop [.ref 58, .int x1, .int x2] M3 (fun r6 M5 => (if r6 = 0 then K ((-1)) M5 else (CV d μX9_act [.ref 58] M5 (fun M7 => (CV d μX9_doPop [.ref 58, .int x1, .int x2] M7 (fun M8 => (CV d μX9_keepAir [.ref 58] M8 (fun M9 => (vp_in (14 + x1) 24 ∧ K (ri M9 68 (nx (14 + x1))) M9))))))))))))))))) : CI (d + 1) μX9_pop [.ref 58, .int x1, .int x2] M K := by
  show Rn (d + 1) μX9_pop 0 [(0, .ref 58), (1, .int x1), (2, .int x2)] [] M _
  refine rn_aload_n (i := 0) (x := 58) dX9_pop_0 rfl (by simp) ?_
  refine rn_iload_n (i := 1) (x := x1) dX9_pop_1 rfl (by simp) ?_
  refine rn_callVi (as := [.int x1]) (st := []) dX9_pop_2 mf_X9_isThereNow lk_X9_430 im_X9_isThereNow rfl rfl rfl rfl (Nat.le_of_ble_eq_true rfl) (Nat.le_of_ble_eq_true rfl) rfl (RI.mono h (fun r2 M1 h => ?_))
  refine rn_if_eq (tgt := 25) dX9_pop_5 (by decide) (ite_go h (fun hc h => ?_) (fun hc h => ?_))
  · refine rn_iconst (v := -1) dX9_pop_25 rfl ?_
    exact rn_iret dX9_pop_26 rfl ⟨_, rfl, h⟩
  · refine rn_aload_n (i := 0) (x := 58) dX9_pop_8 rfl (by simp) ?_
    refine rn_iload_n (i := 2) (x := x2) dX9_pop_9 rfl (by simp) ?_
    refine rn_callVi (as := [.int x2]) (st := []) dX9_pop_10 mf_X9_isThereNow lk_X9_430 im_X9_isThereNow rfl rfl rfl rfl (Nat.le_of_ble_eq_true rfl) (Nat.le_of_ble_eq_true rfl) rfl (RI.mono h (fun r4 M3 h => ?_))
    refine rn_if_eq (tgt := 25) dX9_pop_13 (by decide) (ite_go h (fun hc h => ?_) (fun hc h => ?_))
    · refine rn_iconst (v := -1) dX9_pop_25 rfl ?_
      exact rn_iret dX9_pop_26 rfl ⟨_, rfl, h⟩
    · refine rn_aload_n (i := 0) (x := 58) dX9_pop_16 rfl (by simp) ?_
      refine rn_iload_n (i := 1) (x := x1) dX9_pop_17 rfl (by simp) ?_
      refine rn_iload_n (i := 2) (x := x2) dX9_pop_18 rfl (by simp) ?_
      refine rn_callVi (as := [.int x1, .int x2]) (st := []) dX9_pop_19 mf_X9_canPop lk_X9_433 im_X9_canPop rfl rfl rfl rfl (Nat.le_of_ble_eq_true rfl) (Nat.le_of_ble_eq_true rfl) rfl (RI.mono h (fun r6 M5 h => ?_))
      refine rn_if_ne (tgt := 27) dX9_pop_22 (by decide) (ite_go h (fun hc h => ?_) (fun hc h => ?_))
      · refine rn_iconst (v := -1) dX9_pop_25 rfl ?_
        exact rn_iret dX9_pop_26 rfl ⟨_, rfl, h⟩
      · refine rn_aload_n (i := 0) (x := 58) dX9_pop_27 rfl (by simp) ?_
        refine rn_callVv (as := []) (st := []) dX9_pop_28 mf_X9_act lk_X9_436 im_X9_act rfl rfl rfl rfl (Nat.le_of_ble_eq_true rfl) (Nat.le_of_ble_eq_true rfl) rfl (RV.mono h (fun M7 h => ?_))
        refine rn_aload_n (i := 0) (x := 58) dX9_pop_31 rfl (by simp) ?_
        refine rn_iload_n (i := 1) (x := x1) dX9_pop_32 rfl (by simp) ?_
        refine rn_iload_n (i := 2) (x := x2) dX9_pop_33 rfl (by simp) ?_
        refine rn_callVv (as := [.int x1, .int x2]) (st := []) dX9_pop_34 mf_X9_doPop lk_X9_443 im_X9_doPop rfl rfl rfl rfl (Nat.le_of_ble_eq_true rfl) (Nat.le_of_ble_eq_true rfl) rfl (RV.mono h (fun M8 h => ?_))
        refine rn_aload_n (i := 0) (x := 58) dX9_pop_37 rfl (by simp) ?_
        refine rn_callVv (as := []) (st := []) dX9_pop_38 mf_X9_keepAir lk_X9_405 im_X9_keepAir rfl rfl rfl rfl (Nat.le_of_ble_eq_true rfl) (Nat.le_of_ble_eq_true rfl) rfl (RV.mono h (fun M9 h => ?_))
        refine rn_aload_n (i := 0) (x := 58) dX9_pop_41 rfl (by simp) ?_
        refine rn_getr (t := 68) dX9_pop_42 rfl gf_X9_42 rfl rfl ?_
        refine rn_bipush (v := 14) dX9_pop_45 rfl ?_
        refine rn_iload_n (i := 1) (x := x1) dX9_pop_47 rfl (by simp) ?_
        refine rn_iadd dX9_pop_48 ?_
        obtain ⟨hi, h⟩ := h
        refine rn_iaload dX9_pop_49 rfl hi ?_
        exact rn_iret dX9_pop_50 rfl ⟨_, rfl, h⟩
theorem dX9_gift_0 : decode μX9_gift.2.1 0 = .ok (.aload_n 0, 1) := by decide +kernel
theorem dX9_gift_1 : decode μX9_gift.2.1 1 = .ok (.iload_n 1, 1) := by decide +kernel
theorem dX9_gift_2 : decode μX9_gift.2.1 2 = .ok (.invokevirtual 430, 3) := by decide +kernel
theorem dX9_gift_5 : decode μX9_gift.2.1 5 = .ok (.ifCond .eq 28, 3) := by decide +kernel
theorem dX9_gift_8 : decode μX9_gift.2.1 8 = .ok (.iload_n 2, 1) := by decide +kernel
theorem dX9_gift_9 : decode μX9_gift.2.1 9 = .ok (.iconst 1, 1) := by decide +kernel
theorem dX9_gift_10 : decode μX9_gift.2.1 10 = .ok (.bipush 99, 2) := by decide +kernel
theorem dX9_gift_12 : decode μX9_gift.2.1 12 = .ok (.invokestatic 420, 3) := by decide +kernel
theorem dX9_gift_15 : decode μX9_gift.2.1 15 = .ok (.ifCond .eq 18, 3) := by decide +kernel
theorem dX9_gift_18 : decode μX9_gift.2.1 18 = .ok (.aload_n 0, 1) := by decide +kernel
theorem dX9_gift_19 : decode μX9_gift.2.1 19 = .ok (.getfield 42, 3) := by decide +kernel
theorem dX9_gift_22 : decode μX9_gift.2.1 22 = .ok (.bipush 14, 2) := by decide +kernel
theorem dX9_gift_24 : decode μX9_gift.2.1 24 = .ok (.iload_n 1, 1) := by decide +kernel
theorem dX9_gift_25 : decode μX9_gift.2.1 25 = .ok (.iadd, 1) := by decide +kernel
theorem dX9_gift_26 : decode μX9_gift.2.1 26 = .ok (.iaload, 1) := by decide +kernel
theorem dX9_gift_27 : decode μX9_gift.2.1 27 = .ok (.sipush 999, 3) := by decide +kernel
theorem dX9_gift_30 : decode μX9_gift.2.1 30 = .ok (.if_icmp .ne 5, 3) := by decide +kernel
theorem dX9_gift_33 : decode μX9_gift.2.1 33 = .ok (.iconst (-1), 1) := by decide +kernel
theorem dX9_gift_34 : decode μX9_gift.2.1 34 = .ok (.ireturn, 1) := by decide +kernel
theorem dX9_gift_35 : decode μX9_gift.2.1 35 = .ok (.aload_n 0, 1) := by decide +kernel
theorem dX9_gift_36 : decode μX9_gift.2.1 36 = .ok (.invokevirtual 436, 3) := by decide +kernel
theorem dX9_gift_39 : decode μX9_gift.2.1 39 = .ok (.aload_n 0, 1) := by decide +kernel
theorem dX9_gift_40 : decode μX9_gift.2.1 40 = .ok (.getfield 42, 3) := by decide +kernel
theorem dX9_gift_43 : decode μX9_gift.2.1 43 = .ok (.bipush 14, 2) := by decide +kernel
theorem dX9_gift_45 : decode μX9_gift.2.1 45 = .ok (.iload_n 1, 1) := by decide +kernel
theorem dX9_gift_46 : decode μX9_gift.2.1 46 = .ok (.iadd, 1) := by decide +kernel
theorem dX9_gift_47 : decode μX9_gift.2.1 47 = .ok (.sipush 999, 3) := by decide +kernel
theorem dX9_gift_50 : decode μX9_gift.2.1 50 = .ok (.aload_n 0, 1) := by decide +kernel
theorem dX9_gift_51 : decode μX9_gift.2.1 51 = .ok (.getfield 42, 3) := by decide +kernel
theorem dX9_gift_54 : decode μX9_gift.2.1 54 = .ok (.bipush 14, 2) := by decide +kernel
theorem dX9_gift_56 : decode μX9_gift.2.1 56 = .ok (.iload_n 1, 1) := by decide +kernel
theorem dX9_gift_57 : decode μX9_gift.2.1 57 = .ok (.iadd, 1) := by decide +kernel
theorem dX9_gift_58 : decode μX9_gift.2.1 58 = .ok (.iaload, 1) := by decide +kernel
theorem dX9_gift_59 : decode μX9_gift.2.1 59 = .ok (.iload_n 2, 1) := by decide +kernel
theorem dX9_gift_60 : decode μX9_gift.2.1 60 = .ok (.iadd, 1) := by decide +kernel
theorem dX9_gift_61 : decode μX9_gift.2.1 61 = .ok (.invokestatic 290, 3) := by decide +kernel
theorem dX9_gift_64 : decode μX9_gift.2.1 64 = .ok (.iastore, 1) := by decide +kernel
theorem dX9_gift_65 : decode μX9_gift.2.1 65 = .ok (.aload_n 0, 1) := by decide +kernel
theorem dX9_gift_66 : decode μX9_gift.2.1 66 = .ok (.getfield 42, 3) := by decide +kernel
theorem dX9_gift_69 : decode μX9_gift.2.1 69 = .ok (.bipush 14, 2) := by decide +kernel
theorem dX9_gift_71 : decode μX9_gift.2.1 71 = .ok (.iload_n 1, 1) := by decide +kernel
theorem dX9_gift_72 : decode μX9_gift.2.1 72 = .ok (.iadd, 1) := by decide +kernel
theorem dX9_gift_73 : decode μX9_gift.2.1 73 = .ok (.iaload, 1) := by decide +kernel
theorem dX9_gift_74 : decode μX9_gift.2.1 74 = .ok (.ireturn, 1) := by decide +kernel
set_option maxRecDepth 20000 in
theorem sg_X9_gift_0 {d : Nat} {x1 : Int32} {x2 : Int32} {M : Mem} {K : (Int32 → Mem → Prop)}  (h : (CI d μX9_isThereNow [.ref 58, .int x1] M (fun r2 M1 => (if r2 = 0 then K ((-1)) M1 else (CI d μX9_isIn [.int x2, .int 1, .int 99] M1 (fun r4 M3 => (if r4 = 0 then K ((-1)) M3 else (vp_in (14 + x1) 24 ∧ (if ri M3 68 (nx (14 + x1)) = 999 then K ((-1)) M3 else (CV d μX9_act [.ref 58] M3 (fun M5 => (vp_in (14 + x1) 24 ∧ (CI d μX9_lesser [.int 999, .int ((ri M5 68 (nx (14 + x1))) + x2)] M5 (fun r7 M6 => (vp_in (14 + x1) 24 ∧ ∀ M8, M8 = wi M6 68 (nx (14 + x1)) r7 → (vp_in (14 + x1) 24 ∧ K (ri M8 68 (nx (14 + x1))) M8)))))))))))))))) : CI (d + 1) μX9_gift [.ref 58, .int x1, .int x2] M K := by
  show Rn (d + 1) μX9_gift 0 [(0, .ref 58), (1, .int x1), (2, .int x2)] [] M _
  refine rn_aload_n (i := 0) (x := 58) dX9_gift_0 rfl (by simp) ?_
  refine rn_iload_n (i := 1) (x := x1) dX9_gift_1 rfl (by simp) ?_
  refine rn_callVi (as := [.int x1]) (st := []) dX9_gift_2 mf_X9_isThereNow lk_X9_430 im_X9_isThereNow rfl rfl rfl rfl (Nat.le_of_ble_eq_true rfl) (Nat.le_of_ble_eq_true rfl) rfl (RI.mono h (fun r2 M1 h => ?_))
  refine rn_if_eq (tgt := 33) dX9_gift_5 (by decide) (ite_go h (fun hc h => ?_) (fun hc h => ?_))
  · refine rn_iconst (v := -1) dX9_gift_33 rfl ?_
    exact rn_iret dX9_gift_34 rfl ⟨_, rfl, h⟩
  · refine rn_iload_n (i := 2) (x := x2) dX9_gift_8 rfl (by simp) ?_
    refine rn_iconst (v := 1) dX9_gift_9 rfl ?_
    refine rn_bipush (v := 99) dX9_gift_10 rfl ?_
    refine rn_callSi (as := [.int x2, .int 1, .int 99]) (st := []) dX9_gift_12 mf_X9_isIn lk_X9_420 sm_X9_isIn rfl (Nat.le_of_ble_eq_true rfl) (Nat.le_of_ble_eq_true rfl) rfl (RI.mono h (fun r4 M3 h => ?_))
    refine rn_if_eq (tgt := 33) dX9_gift_15 (by decide) (ite_go h (fun hc h => ?_) (fun hc h => ?_))
    · refine rn_iconst (v := -1) dX9_gift_33 rfl ?_
      exact rn_iret dX9_gift_34 rfl ⟨_, rfl, h⟩
    · refine rn_aload_n (i := 0) (x := 58) dX9_gift_18 rfl (by simp) ?_
      refine rn_getr (t := 68) dX9_gift_19 rfl gf_X9_42 rfl rfl ?_
      refine rn_bipush (v := 14) dX9_gift_22 rfl ?_
      refine rn_iload_n (i := 1) (x := x1) dX9_gift_24 rfl (by simp) ?_
      refine rn_iadd dX9_gift_25 ?_
      obtain ⟨hi, h⟩ := h
      refine rn_iaload dX9_gift_26 rfl hi ?_
      refine rn_sipush (v := 999) dX9_gift_27 rfl ?_
      refine rn_icmp_ne (tgt := 35) dX9_gift_30 (by decide) (ite_go h (fun hc h => ?_) (fun hc h => ?_))
      · refine rn_iconst (v := -1) dX9_gift_33 rfl ?_
        exact rn_iret dX9_gift_34 rfl ⟨_, rfl, h⟩
      · refine rn_aload_n (i := 0) (x := 58) dX9_gift_35 rfl (by simp) ?_
        refine rn_callVv (as := []) (st := []) dX9_gift_36 mf_X9_act lk_X9_436 im_X9_act rfl rfl rfl rfl (Nat.le_of_ble_eq_true rfl) (Nat.le_of_ble_eq_true rfl) rfl (RV.mono h (fun M5 h => ?_))
        refine rn_aload_n (i := 0) (x := 58) dX9_gift_39 rfl (by simp) ?_
        refine rn_getr (t := 68) dX9_gift_40 rfl gf_X9_42 rfl rfl ?_
        refine rn_bipush (v := 14) dX9_gift_43 rfl ?_
        refine rn_iload_n (i := 1) (x := x1) dX9_gift_45 rfl (by simp) ?_
        refine rn_iadd dX9_gift_46 ?_
        refine rn_sipush (v := 999) dX9_gift_47 rfl ?_
        refine rn_aload_n (i := 0) (x := 58) dX9_gift_50 rfl (by simp) ?_
        refine rn_getr (t := 68) dX9_gift_51 rfl gf_X9_42 rfl rfl ?_
        refine rn_bipush (v := 14) dX9_gift_54 rfl ?_
        refine rn_iload_n (i := 1) (x := x1) dX9_gift_56 rfl (by simp) ?_
        refine rn_iadd dX9_gift_57 ?_
        obtain ⟨hi, h⟩ := h
        refine rn_iaload dX9_gift_58 rfl hi ?_
        refine rn_iload_n (i := 2) (x := x2) dX9_gift_59 rfl (by simp) ?_
        refine rn_iadd dX9_gift_60 ?_
        refine rn_callSi (as := [.int 999, .int ((ri M5 68 (nx (14 + x1))) + x2)]) (st := [.int (14 + x1), .ref 68]) dX9_gift_61 mf_X9_lesser lk_X9_290 sm_X9_lesser rfl (Nat.le_of_ble_eq_true rfl) (Nat.le_of_ble_eq_true rfl) rfl (RI.mono h (fun r7 M6 h => ?_))
        obtain ⟨hi, h⟩ := h
        have h := h _ rfl
        refine rn_iastore dX9_gift_64 rfl hi ?_
        generalize wi M6 68 (nx (14 + x1)) r7 = M8 at h ⊢
        refine rn_aload_n (i := 0) (x := 58) dX9_gift_65 rfl (by simp) ?_
        refine rn_getr (t := 68) dX9_gift_66 rfl gf_X9_42 rfl rfl ?_
        refine rn_bipush (v := 14) dX9_gift_69 rfl ?_
        refine rn_iload_n (i := 1) (x := x1) dX9_gift_71 rfl (by simp) ?_
        refine rn_iadd dX9_gift_72 ?_
        obtain ⟨hi, h⟩ := h
        refine rn_iaload dX9_gift_73 rfl hi ?_
        exact rn_iret dX9_gift_74 rfl ⟨_, rfl, h⟩
theorem dX9_undo_0 : decode μX9_undo.2.1 0 = .ok (.aload_n 0, 1) := by decide +kernel
theorem dX9_undo_1 : decode μX9_undo.2.1 1 = .ok (.getfield 408, 3) := by decide +kernel
theorem dX9_undo_4 : decode μX9_undo.2.1 4 = .ok (.ifCond .ne 5, 3) := by decide +kernel
theorem dX9_undo_7 : decode μX9_undo.2.1 7 = .ok (.iconst 0, 1) := by decide +kernel
theorem dX9_undo_8 : decode μX9_undo.2.1 8 = .ok (.ireturn, 1) := by decide +kernel
theorem dX9_undo_9 : decode μX9_undo.2.1 9 = .ok (.aload_n 0, 1) := by decide +kernel
theorem dX9_undo_10 : decode μX9_undo.2.1 10 = .ok (.dup, 1) := by decide +kernel
theorem dX9_undo_11 : decode μX9_undo.2.1 11 = .ok (.getfield 408, 3) := by decide +kernel
theorem dX9_undo_14 : decode μX9_undo.2.1 14 = .ok (.iconst 1, 1) := by decide +kernel
theorem dX9_undo_15 : decode μX9_undo.2.1 15 = .ok (.isub, 1) := by decide +kernel
theorem dX9_undo_16 : decode μX9_undo.2.1 16 = .ok (.putfield 408, 3) := by decide +kernel
theorem dX9_undo_19 : decode μX9_undo.2.1 19 = .ok (.aload_n 0, 1) := by decide +kernel
theorem dX9_undo_20 : decode μX9_undo.2.1 20 = .ok (.dup, 1) := by decide +kernel
theorem dX9_undo_21 : decode μX9_undo.2.1 21 = .ok (.getfield 411, 3) := by decide +kernel
theorem dX9_undo_24 : decode μX9_undo.2.1 24 = .ok (.iconst 1, 1) := by decide +kernel
theorem dX9_undo_25 : decode μX9_undo.2.1 25 = .ok (.iadd, 1) := by decide +kernel
theorem dX9_undo_26 : decode μX9_undo.2.1 26 = .ok (.putfield 411, 3) := by decide +kernel
theorem dX9_undo_29 : decode μX9_undo.2.1 29 = .ok (.aload_n 0, 1) := by decide +kernel
theorem dX9_undo_30 : decode μX9_undo.2.1 30 = .ok (.bipush 24, 2) := by decide +kernel
theorem dX9_undo_32 : decode μX9_undo.2.1 32 = .ok (.aload_n 0, 1) := by decide +kernel
theorem dX9_undo_33 : decode μX9_undo.2.1 33 = .ok (.getfield 408, 3) := by decide +kernel
theorem dX9_undo_36 : decode μX9_undo.2.1 36 = .ok (.imul, 1) := by decide +kernel
theorem dX9_undo_37 : decode μX9_undo.2.1 37 = .ok (.invokevirtual 446, 3) := by decide +kernel
theorem dX9_undo_40 : decode μX9_undo.2.1 40 = .ok (.iconst 1, 1) := by decide +kernel
theorem dX9_undo_41 : decode μX9_undo.2.1 41 = .ok (.ireturn, 1) := by decide +kernel
set_option maxRecDepth 20000 in
theorem sg_X9_undo_0 {d : Nat}  {M : Mem} {K : (Int32 → Mem → Prop)}  (h : (if ri M 58 40 = 0 then K 0 M else (∀ M1, M1 = wi M 58 40 ((ri M 58 40) - 1) → (∀ M2, M2 = wi M1 58 41 ((ri M1 58 41) + 1) → (CV d μX9_exchange [.ref 58, .int (24 * (ri M2 58 40))] M2 (fun M3 => K 1 M3)))))) : CI (d + 1) μX9_undo [.ref 58] M K := by
  show Rn (d + 1) μX9_undo 0 [(0, .ref 58)] [] M _
  refine rn_aload_n (i := 0) (x := 58) dX9_undo_0 rfl (by simp) ?_
  refine rn_geti dX9_undo_1 rfl gf_X9_408 (by decide) ?_
  refine rn_if_ne (tgt := 9) dX9_undo_4 (by decide) (ite_go h (fun hc h => ?_) (fun hc h => ?_))
  · refine rn_iconst (v := 0) dX9_undo_7 rfl ?_
    exact rn_zret dX9_undo_8 rfl (by decide) ⟨_, rfl, h⟩
  · refine rn_aload_n (i := 0) (x := 58) dX9_undo_9 rfl (by simp) ?_
    refine rn_dup dX9_undo_10 rfl ?_
    refine rn_geti dX9_undo_11 rfl gf_X9_408 (by decide) ?_
    refine rn_iconst (v := 1) dX9_undo_14 rfl ?_
    refine rn_isub dX9_undo_15 ?_
    have h := h _ rfl
    refine rn_puti dX9_undo_16 rfl pf_X9_408 (by decide) rfl rfl ?_
    generalize wi M 58 40 ((ri M 58 40) - 1) = M1 at h ⊢
    refine rn_aload_n (i := 0) (x := 58) dX9_undo_19 rfl (by simp) ?_
    refine rn_dup dX9_undo_20 rfl ?_
    refine rn_geti dX9_undo_21 rfl gf_X9_411 (by decide) ?_
    refine rn_iconst (v := 1) dX9_undo_24 rfl ?_
    refine rn_iadd dX9_undo_25 ?_
    have h := h _ rfl
    refine rn_puti dX9_undo_26 rfl pf_X9_411 (by decide) rfl rfl ?_
    generalize wi M1 58 41 ((ri M1 58 41) + 1) = M2 at h ⊢
    refine rn_aload_n (i := 0) (x := 58) dX9_undo_29 rfl (by simp) ?_
    refine rn_bipush (v := 24) dX9_undo_30 rfl ?_
    refine rn_aload_n (i := 0) (x := 58) dX9_undo_32 rfl (by simp) ?_
    refine rn_geti dX9_undo_33 rfl gf_X9_408 (by decide) ?_
    refine rn_imul dX9_undo_36 ?_
    refine rn_callVv (as := [.int (24 * (ri M2 58 40))]) (st := []) dX9_undo_37 mf_X9_exchange lk_X9_446 im_X9_exchange rfl rfl rfl rfl (Nat.le_of_ble_eq_true rfl) (Nat.le_of_ble_eq_true rfl) rfl (RV.mono h (fun M3 h => ?_))
    refine rn_iconst (v := 1) dX9_undo_40 rfl ?_
    exact rn_zret dX9_undo_41 rfl (by decide) ⟨_, rfl, h⟩
theorem dX9_redo_0 : decode μX9_redo.2.1 0 = .ok (.aload_n 0, 1) := by decide +kernel
theorem dX9_redo_1 : decode μX9_redo.2.1 1 = .ok (.getfield 411, 3) := by decide +kernel
theorem dX9_redo_4 : decode μX9_redo.2.1 4 = .ok (.ifCond .ne 5, 3) := by decide +kernel
theorem dX9_redo_7 : decode μX9_redo.2.1 7 = .ok (.iconst 0, 1) := by decide +kernel
theorem dX9_redo_8 : decode μX9_redo.2.1 8 = .ok (.ireturn, 1) := by decide +kernel
theorem dX9_redo_9 : decode μX9_redo.2.1 9 = .ok (.aload_n 0, 1) := by decide +kernel
theorem dX9_redo_10 : decode μX9_redo.2.1 10 = .ok (.bipush 24, 2) := by decide +kernel
theorem dX9_redo_12 : decode μX9_redo.2.1 12 = .ok (.aload_n 0, 1) := by decide +kernel
theorem dX9_redo_13 : decode μX9_redo.2.1 13 = .ok (.getfield 408, 3) := by decide +kernel
theorem dX9_redo_16 : decode μX9_redo.2.1 16 = .ok (.imul, 1) := by decide +kernel
theorem dX9_redo_17 : decode μX9_redo.2.1 17 = .ok (.invokevirtual 446, 3) := by decide +kernel
theorem dX9_redo_20 : decode μX9_redo.2.1 20 = .ok (.aload_n 0, 1) := by decide +kernel
theorem dX9_redo_21 : decode μX9_redo.2.1 21 = .ok (.dup, 1) := by decide +kernel
theorem dX9_redo_22 : decode μX9_redo.2.1 22 = .ok (.getfield 408, 3) := by decide +kernel
theorem dX9_redo_25 : decode μX9_redo.2.1 25 = .ok (.iconst 1, 1) := by decide +kernel
theorem dX9_redo_26 : decode μX9_redo.2.1 26 = .ok (.iadd, 1) := by decide +kernel
theorem dX9_redo_27 : decode μX9_redo.2.1 27 = .ok (.putfield 408, 3) := by decide +kernel
theorem dX9_redo_30 : decode μX9_redo.2.1 30 = .ok (.aload_n 0, 1) := by decide +kernel
theorem dX9_redo_31 : decode μX9_redo.2.1 31 = .ok (.dup, 1) := by decide +kernel
theorem dX9_redo_32 : decode μX9_redo.2.1 32 = .ok (.getfield 411, 3) := by decide +kernel
theorem dX9_redo_35 : decode μX9_redo.2.1 35 = .ok (.iconst 1, 1) := by decide +kernel
theorem dX9_redo_36 : decode μX9_redo.2.1 36 = .ok (.isub, 1) := by decide +kernel
theorem dX9_redo_37 : decode μX9_redo.2.1 37 = .ok (.putfield 411, 3) := by decide +kernel
theorem dX9_redo_40 : decode μX9_redo.2.1 40 = .ok (.iconst 1, 1) := by decide +kernel
theorem dX9_redo_41 : decode μX9_redo.2.1 41 = .ok (.ireturn, 1) := by decide +kernel
set_option maxRecDepth 20000 in
theorem sg_X9_redo_0 {d : Nat}  {M : Mem} {K : (Int32 → Mem → Prop)}  (h : (if ri M 58 41 = 0 then K 0 M else (CV d μX9_exchange [.ref 58, .int (24 * (ri M 58 40))] M (fun M1 => (∀ M2, M2 = wi M1 58 40 ((ri M1 58 40) + 1) → (∀ M3, M3 = wi M2 58 41 ((ri M2 58 41) - 1) → K 1 M3)))))) : CI (d + 1) μX9_redo [.ref 58] M K := by
  show Rn (d + 1) μX9_redo 0 [(0, .ref 58)] [] M _
  refine rn_aload_n (i := 0) (x := 58) dX9_redo_0 rfl (by simp) ?_
  refine rn_geti dX9_redo_1 rfl gf_X9_411 (by decide) ?_
  refine rn_if_ne (tgt := 9) dX9_redo_4 (by decide) (ite_go h (fun hc h => ?_) (fun hc h => ?_))
  · refine rn_iconst (v := 0) dX9_redo_7 rfl ?_
    exact rn_zret dX9_redo_8 rfl (by decide) ⟨_, rfl, h⟩
  · refine rn_aload_n (i := 0) (x := 58) dX9_redo_9 rfl (by simp) ?_
    refine rn_bipush (v := 24) dX9_redo_10 rfl ?_
    refine rn_aload_n (i := 0) (x := 58) dX9_redo_12 rfl (by simp) ?_
    refine rn_geti dX9_redo_13 rfl gf_X9_408 (by decide) ?_
    refine rn_imul dX9_redo_16 ?_
    refine rn_callVv (as := [.int (24 * (ri M 58 40))]) (st := []) dX9_redo_17 mf_X9_exchange lk_X9_446 im_X9_exchange rfl rfl rfl rfl (Nat.le_of_ble_eq_true rfl) (Nat.le_of_ble_eq_true rfl) rfl (RV.mono h (fun M1 h => ?_))
    refine rn_aload_n (i := 0) (x := 58) dX9_redo_20 rfl (by simp) ?_
    refine rn_dup dX9_redo_21 rfl ?_
    refine rn_geti dX9_redo_22 rfl gf_X9_408 (by decide) ?_
    refine rn_iconst (v := 1) dX9_redo_25 rfl ?_
    refine rn_iadd dX9_redo_26 ?_
    have h := h _ rfl
    refine rn_puti dX9_redo_27 rfl pf_X9_408 (by decide) rfl rfl ?_
    generalize wi M1 58 40 ((ri M1 58 40) + 1) = M2 at h ⊢
    refine rn_aload_n (i := 0) (x := 58) dX9_redo_30 rfl (by simp) ?_
    refine rn_dup dX9_redo_31 rfl ?_
    refine rn_geti dX9_redo_32 rfl gf_X9_411 (by decide) ?_
    refine rn_iconst (v := 1) dX9_redo_35 rfl ?_
    refine rn_isub dX9_redo_36 ?_
    have h := h _ rfl
    refine rn_puti dX9_redo_37 rfl pf_X9_411 (by decide) rfl rfl ?_
    generalize wi M2 58 41 ((ri M2 58 41) - 1) = M3 at h ⊢
    refine rn_iconst (v := 1) dX9_redo_40 rfl ?_
    exact rn_zret dX9_redo_41 rfl (by decide) ⟨_, rfl, h⟩
theorem dX9_go_0 : decode μX9_go.2.1 0 = .ok (.iconst 0, 1) := by decide +kernel
theorem dX9_go_1 : decode μX9_go.2.1 1 = .ok (.istore_n 3, 1) := by decide +kernel
theorem dX9_go_2 : decode μX9_go.2.1 2 = .ok (.iload_n 3, 1) := by decide +kernel
theorem dX9_go_3 : decode μX9_go.2.1 3 = .ok (.iload_n 1, 1) := by decide +kernel
theorem dX9_go_4 : decode μX9_go.2.1 4 = .ok (.if_icmp .ge 14, 3) := by decide +kernel
theorem dX9_go_7 : decode μX9_go.2.1 7 = .ok (.aload_n 0, 1) := by decide +kernel
theorem dX9_go_8 : decode μX9_go.2.1 8 = .ok (.iload_n 2, 1) := by decide +kernel
theorem dX9_go_9 : decode μX9_go.2.1 9 = .ok (.invokevirtual 439, 3) := by decide +kernel
theorem dX9_go_12 : decode μX9_go.2.1 12 = .ok (.iinc 3 1, 3) := by decide +kernel
theorem dX9_go_15 : decode μX9_go.2.1 15 = .ok (.goto (-13), 3) := by decide +kernel
theorem dX9_go_18 : decode μX9_go.2.1 18 = .ok (.return_, 1) := by decide +kernel
set_option maxRecDepth 20000 in
theorem sg_X9_go_0 {d : Nat} {x1 : Int32} {x2 : Int32} {M : Mem} {K : (Mem → Prop)}  (h : RV (d + 1) μX9_go 2 [(0, .ref 58), (1, .int x1), (2, .int x2), (3, .int 0)] [] M K) : CV (d + 1) μX9_go [.ref 58, .int x1, .int x2] M K := by
  show Rn (d + 1) μX9_go 0 [(0, .ref 58), (1, .int x1), (2, .int x2)] [] M _
  refine rn_iconst (v := 0) dX9_go_0 rfl ?_
  refine rn_istore_n (lv' := [(0, .ref 58), (1, .int x1), (2, .int x2), (3, .int 0)]) (hd := dX9_go_1) (i := 3) (hi := rfl) (hn := by decide) (hf := rfl) (hl := rfl) ?_
  exact h
set_option maxRecDepth 20000 in
theorem sg_X9_go_2 {d : Nat} {x1 : Int32} {x2 : Int32} {x3 : Int32} {M : Mem} {K : (Mem → Prop)}  (h : (if x1 ≤ x3 then K M else (CV d μX9_goSeason [.ref 58, .int x2] M (fun M1 => RV (d + 1) μX9_go 2 [(0, .ref 58), (1, .int x1), (2, .int x2), (3, .int (x3 + 1))] [] M1 K)))) : RV (d + 1) μX9_go 2 [(0, .ref 58), (1, .int x1), (2, .int x2), (3, .int x3)] [] M K := by
  show Rn (d + 1) μX9_go 2 [(0, .ref 58), (1, .int x1), (2, .int x2), (3, .int x3)] [] M _
  refine rn_iload_n (i := 3) (x := x3) dX9_go_2 rfl (by simp) ?_
  refine rn_iload_n (i := 1) (x := x1) dX9_go_3 rfl (by simp) ?_
  refine rn_icmp_ge (tgt := 18) dX9_go_4 (by decide) (ite_go h (fun hc h => ?_) (fun hc h => ?_))
  · exact rn_ret dX9_go_18 rfl ⟨rfl, h⟩
  · refine rn_aload_n (i := 0) (x := 58) dX9_go_7 rfl (by simp) ?_
    refine rn_iload_n (i := 2) (x := x2) dX9_go_8 rfl (by simp) ?_
    refine rn_callVv (as := [.int x2]) (st := []) dX9_go_9 mf_X9_goSeason lk_X9_439 im_X9_goSeason rfl rfl rfl rfl (Nat.le_of_ble_eq_true rfl) (Nat.le_of_ble_eq_true rfl) rfl (RV.mono h (fun M1 h => ?_))
    refine rn_iinc (x := x3) (v := x3 + 1) (lv' := [(0, .ref 58), (1, .int x1), (2, .int x2), (3, .int (x3 + 1))]) dX9_go_12 (by simp) rfl (by decide) rfl rfl ?_
    refine rn_goto (tgt := 2) dX9_go_15 (by decide) ?_
    exact h
theorem dX9_will_0 : decode μX9_will.2.1 0 = .ok (.aload_n 0, 1) := by decide +kernel
theorem dX9_will_1 : decode μX9_will.2.1 1 = .ok (.iload_n 1, 1) := by decide +kernel
theorem dX9_will_2 : decode μX9_will.2.1 2 = .ok (.invokevirtual 427, 3) := by decide +kernel
theorem dX9_will_5 : decode μX9_will.2.1 5 = .ok (.ifCond .eq 22, 3) := by decide +kernel
theorem dX9_will_8 : decode μX9_will.2.1 8 = .ok (.iload_n 2, 1) := by decide +kernel
theorem dX9_will_9 : decode μX9_will.2.1 9 = .ok (.iconst 0, 1) := by decide +kernel
theorem dX9_will_10 : decode μX9_will.2.1 10 = .ok (.bipush 60, 2) := by decide +kernel
theorem dX9_will_12 : decode μX9_will.2.1 12 = .ok (.invokestatic 420, 3) := by decide +kernel
theorem dX9_will_15 : decode μX9_will.2.1 15 = .ok (.ifCond .eq 12, 3) := by decide +kernel
theorem dX9_will_18 : decode μX9_will.2.1 18 = .ok (.iload_n 3, 1) := by decide +kernel
theorem dX9_will_19 : decode μX9_will.2.1 19 = .ok (.iconst 0, 1) := by decide +kernel
theorem dX9_will_20 : decode μX9_will.2.1 20 = .ok (.iconst 1, 1) := by decide +kernel
theorem dX9_will_21 : decode μX9_will.2.1 21 = .ok (.invokestatic 420, 3) := by decide +kernel
theorem dX9_will_24 : decode μX9_will.2.1 24 = .ok (.ifCond .ne 5, 3) := by decide +kernel
theorem dX9_will_27 : decode μX9_will.2.1 27 = .ok (.iconst (-1), 1) := by decide +kernel
theorem dX9_will_28 : decode μX9_will.2.1 28 = .ok (.ireturn, 1) := by decide +kernel
theorem dX9_will_29 : decode μX9_will.2.1 29 = .ok (.aload_n 0, 1) := by decide +kernel
theorem dX9_will_30 : decode μX9_will.2.1 30 = .ok (.invokevirtual 424, 3) := by decide +kernel
theorem dX9_will_33 : decode μX9_will.2.1 33 = .ok (.aload_n 0, 1) := by decide +kernel
theorem dX9_will_34 : decode μX9_will.2.1 34 = .ok (.iload_n 2, 1) := by decide +kernel
theorem dX9_will_35 : decode μX9_will.2.1 35 = .ok (.iload_n 3, 1) := by decide +kernel
theorem dX9_will_36 : decode μX9_will.2.1 36 = .ok (.iconst 1, 1) := by decide +kernel
theorem dX9_will_37 : decode μX9_will.2.1 37 = .ok (.if_icmp .ne 7, 3) := by decide +kernel
theorem dX9_will_40 : decode μX9_will.2.1 40 = .ok (.iconst 1, 1) := by decide +kernel
theorem dX9_will_41 : decode μX9_will.2.1 41 = .ok (.goto 4, 3) := by decide +kernel
theorem dX9_will_44 : decode μX9_will.2.1 44 = .ok (.iconst 0, 1) := by decide +kernel
theorem dX9_will_45 : decode μX9_will.2.1 45 = .ok (.invokevirtual 449, 3) := by decide +kernel
theorem dX9_will_48 : decode μX9_will.2.1 48 = .ok (.aload_n 0, 1) := by decide +kernel
theorem dX9_will_49 : decode μX9_will.2.1 49 = .ok (.iload_n 1, 1) := by decide +kernel
theorem dX9_will_50 : decode μX9_will.2.1 50 = .ok (.invokevirtual 335, 3) := by decide +kernel
theorem dX9_will_53 : decode μX9_will.2.1 53 = .ok (.ifCond .eq 15, 3) := by decide +kernel
theorem dX9_will_56 : decode μX9_will.2.1 56 = .ok (.aload_n 0, 1) := by decide +kernel
theorem dX9_will_57 : decode μX9_will.2.1 57 = .ok (.getfield 45, 3) := by decide +kernel
theorem dX9_will_60 : decode μX9_will.2.1 60 = .ok (.bipush 14, 2) := by decide +kernel
theorem dX9_will_62 : decode μX9_will.2.1 62 = .ok (.iload_n 1, 1) := by decide +kernel
theorem dX9_will_63 : decode μX9_will.2.1 63 = .ok (.iadd, 1) := by decide +kernel
theorem dX9_will_64 : decode μX9_will.2.1 64 = .ok (.iaload, 1) := by decide +kernel
theorem dX9_will_65 : decode μX9_will.2.1 65 = .ok (.goto 5, 3) := by decide +kernel
theorem dX9_will_68 : decode μX9_will.2.1 68 = .ok (.bipush (-2), 2) := by decide +kernel
theorem dX9_will_70 : decode μX9_will.2.1 70 = .ok (.ireturn, 1) := by decide +kernel
set_option maxRecDepth 20000 in
theorem sg_X9_will_0 {d : Nat} {x1 : Int32} {x2 : Int32} {x3 : Int32} {M : Mem} {K : (Int32 → Mem → Prop)}  (h : (CI d μX9_isLord [.ref 58, .int x1] M (fun r2 M1 => (if r2 = 0 then K ((-1)) M1 else (CI d μX9_isIn [.int x2, .int 0, .int 60] M1 (fun r4 M3 => (if r4 = 0 then K ((-1)) M3 else (CI d μX9_isIn [.int x3, .int 0, .int 1] M3 (fun r6 M5 => (if r6 = 0 then K ((-1)) M5 else (CV d μX9_fill [.ref 58] M5 (fun M7 => (if x3 = 1 then RI (d + 1) μX9_will 45 [(0, .ref 58), (1, .int x1), (2, .int x2), (3, .int x3)] [.int 1, .int x2, .ref 58] M7 K else RI (d + 1) μX9_will 45 [(0, .ref 58), (1, .int x1), (2, .int x2), (3, .int x3)] [.int 0, .int x2, .ref 58] M7 K))))))))))))) : CI (d + 1) μX9_will [.ref 58, .int x1, .int x2, .int x3] M K := by
  show Rn (d + 1) μX9_will 0 [(0, .ref 58), (1, .int x1), (2, .int x2), (3, .int x3)] [] M _
  refine rn_aload_n (i := 0) (x := 58) dX9_will_0 rfl (by simp) ?_
  refine rn_iload_n (i := 1) (x := x1) dX9_will_1 rfl (by simp) ?_
  refine rn_callVi (as := [.int x1]) (st := []) dX9_will_2 mf_X9_isLord lk_X9_427 im_X9_isLord rfl rfl rfl rfl (Nat.le_of_ble_eq_true rfl) (Nat.le_of_ble_eq_true rfl) rfl (RI.mono h (fun r2 M1 h => ?_))
  refine rn_if_eq (tgt := 27) dX9_will_5 (by decide) (ite_go h (fun hc h => ?_) (fun hc h => ?_))
  · refine rn_iconst (v := -1) dX9_will_27 rfl ?_
    exact rn_iret dX9_will_28 rfl ⟨_, rfl, h⟩
  · refine rn_iload_n (i := 2) (x := x2) dX9_will_8 rfl (by simp) ?_
    refine rn_iconst (v := 0) dX9_will_9 rfl ?_
    refine rn_bipush (v := 60) dX9_will_10 rfl ?_
    refine rn_callSi (as := [.int x2, .int 0, .int 60]) (st := []) dX9_will_12 mf_X9_isIn lk_X9_420 sm_X9_isIn rfl (Nat.le_of_ble_eq_true rfl) (Nat.le_of_ble_eq_true rfl) rfl (RI.mono h (fun r4 M3 h => ?_))
    refine rn_if_eq (tgt := 27) dX9_will_15 (by decide) (ite_go h (fun hc h => ?_) (fun hc h => ?_))
    · refine rn_iconst (v := -1) dX9_will_27 rfl ?_
      exact rn_iret dX9_will_28 rfl ⟨_, rfl, h⟩
    · refine rn_iload_n (i := 3) (x := x3) dX9_will_18 rfl (by simp) ?_
      refine rn_iconst (v := 0) dX9_will_19 rfl ?_
      refine rn_iconst (v := 1) dX9_will_20 rfl ?_
      refine rn_callSi (as := [.int x3, .int 0, .int 1]) (st := []) dX9_will_21 mf_X9_isIn lk_X9_420 sm_X9_isIn rfl (Nat.le_of_ble_eq_true rfl) (Nat.le_of_ble_eq_true rfl) rfl (RI.mono h (fun r6 M5 h => ?_))
      refine rn_if_ne (tgt := 29) dX9_will_24 (by decide) (ite_go h (fun hc h => ?_) (fun hc h => ?_))
      · refine rn_iconst (v := -1) dX9_will_27 rfl ?_
        exact rn_iret dX9_will_28 rfl ⟨_, rfl, h⟩
      · refine rn_aload_n (i := 0) (x := 58) dX9_will_29 rfl (by simp) ?_
        refine rn_callVv (as := []) (st := []) dX9_will_30 mf_X9_fill lk_X9_424 im_X9_fill rfl rfl rfl rfl (Nat.le_of_ble_eq_true rfl) (Nat.le_of_ble_eq_true rfl) rfl (RV.mono h (fun M7 h => ?_))
        refine rn_aload_n (i := 0) (x := 58) dX9_will_33 rfl (by simp) ?_
        refine rn_iload_n (i := 2) (x := x2) dX9_will_34 rfl (by simp) ?_
        refine rn_iload_n (i := 3) (x := x3) dX9_will_35 rfl (by simp) ?_
        refine rn_iconst (v := 1) dX9_will_36 rfl ?_
        refine rn_icmp_ne (tgt := 44) dX9_will_37 (by decide) (ite_go h (fun hc h => ?_) (fun hc h => ?_))
        · refine rn_iconst (v := 1) dX9_will_40 rfl ?_
          refine rn_goto (tgt := 45) dX9_will_41 (by decide) ?_
          exact h
        · refine rn_iconst (v := 0) dX9_will_44 rfl ?_
          exact h
set_option maxRecDepth 20000 in
theorem sg_X9_will_45 {d : Nat} {x1 : Int32} {x2 : Int32} {x3 : Int32} {y1 : Int32} {y2 : Int32} {M : Mem} {K : (Int32 → Mem → Prop)}  (h : (CV d μX9_go [.ref 58, .int y1, .int y2] M (fun M1 => (CI d μX9_isThere [.ref 58, .int x1] M1 (fun r3 M2 => (if r3 = 0 then K ((-2)) M2 else (vp_in (14 + x1) 24 ∧ K (ri M2 69 (nx (14 + x1))) M2))))))) : RI (d + 1) μX9_will 45 [(0, .ref 58), (1, .int x1), (2, .int x2), (3, .int x3)] [.int y2, .int y1, .ref 58] M K := by
  show Rn (d + 1) μX9_will 45 [(0, .ref 58), (1, .int x1), (2, .int x2), (3, .int x3)] [.int y2, .int y1, .ref 58] M _
  refine rn_callVv (as := [.int y1, .int y2]) (st := []) dX9_will_45 mf_X9_go lk_X9_449 im_X9_go rfl rfl rfl rfl (Nat.le_of_ble_eq_true rfl) (Nat.le_of_ble_eq_true rfl) rfl (RV.mono h (fun M1 h => ?_))
  refine rn_aload_n (i := 0) (x := 58) dX9_will_48 rfl (by simp) ?_
  refine rn_iload_n (i := 1) (x := x1) dX9_will_49 rfl (by simp) ?_
  refine rn_callVi (as := [.int x1]) (st := []) dX9_will_50 mf_X9_isThere lk_X9_335 im_X9_isThere rfl rfl rfl rfl (Nat.le_of_ble_eq_true rfl) (Nat.le_of_ble_eq_true rfl) rfl (RI.mono h (fun r3 M2 h => ?_))
  refine rn_if_eq (tgt := 68) dX9_will_53 (by decide) (ite_go h (fun hc h => ?_) (fun hc h => ?_))
  · refine rn_bipush (v := -2) dX9_will_68 rfl ?_
    exact rn_iret dX9_will_70 rfl ⟨_, rfl, h⟩
  · refine rn_aload_n (i := 0) (x := 58) dX9_will_56 rfl (by simp) ?_
    refine rn_getr (t := 69) dX9_will_57 rfl gf_X9_45 rfl rfl ?_
    refine rn_bipush (v := 14) dX9_will_60 rfl ?_
    refine rn_iload_n (i := 1) (x := x1) dX9_will_62 rfl (by simp) ?_
    refine rn_iadd dX9_will_63 ?_
    obtain ⟨hi, h⟩ := h
    refine rn_iaload dX9_will_64 rfl hi ?_
    refine rn_goto (tgt := 70) dX9_will_65 (by decide) ?_
    exact rn_iret dX9_will_70 rfl ⟨_, rfl, h⟩
theorem dX9_sides_0 : decode μX9_sides.2.1 0 = .ok (.aload_n 0, 1) := by decide +kernel
theorem dX9_sides_1 : decode μX9_sides.2.1 1 = .ok (.iload_n 1, 1) := by decide +kernel
theorem dX9_sides_2 : decode μX9_sides.2.1 2 = .ok (.invokevirtual 427, 3) := by decide +kernel
theorem dX9_sides_5 : decode μX9_sides.2.1 5 = .ok (.ifCond .eq 13, 3) := by decide +kernel
theorem dX9_sides_8 : decode μX9_sides.2.1 8 = .ok (.iload_n 2, 1) := by decide +kernel
theorem dX9_sides_9 : decode μX9_sides.2.1 9 = .ok (.iconst 0, 1) := by decide +kernel
theorem dX9_sides_10 : decode μX9_sides.2.1 10 = .ok (.bipush 60, 2) := by decide +kernel
theorem dX9_sides_12 : decode μX9_sides.2.1 12 = .ok (.invokestatic 420, 3) := by decide +kernel
theorem dX9_sides_15 : decode μX9_sides.2.1 15 = .ok (.ifCond .ne 5, 3) := by decide +kernel
theorem dX9_sides_18 : decode μX9_sides.2.1 18 = .ok (.iconst (-1), 1) := by decide +kernel
theorem dX9_sides_19 : decode μX9_sides.2.1 19 = .ok (.ireturn, 1) := by decide +kernel
theorem dX9_sides_20 : decode μX9_sides.2.1 20 = .ok (.aload_n 0, 1) := by decide +kernel
theorem dX9_sides_21 : decode μX9_sides.2.1 21 = .ok (.invokevirtual 424, 3) := by decide +kernel
theorem dX9_sides_24 : decode μX9_sides.2.1 24 = .ok (.aload_n 0, 1) := by decide +kernel
theorem dX9_sides_25 : decode μX9_sides.2.1 25 = .ok (.iload_n 2, 1) := by decide +kernel
theorem dX9_sides_26 : decode μX9_sides.2.1 26 = .ok (.iconst 0, 1) := by decide +kernel
theorem dX9_sides_27 : decode μX9_sides.2.1 27 = .ok (.invokevirtual 449, 3) := by decide +kernel
theorem dX9_sides_30 : decode μX9_sides.2.1 30 = .ok (.aload_n 0, 1) := by decide +kernel
theorem dX9_sides_31 : decode μX9_sides.2.1 31 = .ok (.iload_n 1, 1) := by decide +kernel
theorem dX9_sides_32 : decode μX9_sides.2.1 32 = .ok (.invokevirtual 265, 3) := by decide +kernel
theorem dX9_sides_35 : decode μX9_sides.2.1 35 = .ok (.ireturn, 1) := by decide +kernel
set_option maxRecDepth 20000 in
theorem sg_X9_sides_0 {d : Nat} {x1 : Int32} {x2 : Int32} {M : Mem} {K : (Int32 → Mem → Prop)}  (h : (CI d μX9_isLord [.ref 58, .int x1] M (fun r2 M1 => (if r2 = 0 then K ((-1)) M1 else (CI d μX9_isIn [.int x2, .int 0, .int 60] M1 (fun r4 M3 => (if r4 = 0 then K ((-1)) M3 else (CV d μX9_fill [.ref 58] M3 (fun M5 => (CV d μX9_go [.ref 58, .int x2, .int 0] M5 (fun M6 => (CI d μX9_sidesOf [.ref 58, .int x1] M6 (fun r8 M7 => K r8 M7))))))))))))) : CI (d + 1) μX9_sides [.ref 58, .int x1, .int x2] M K := by
  show Rn (d + 1) μX9_sides 0 [(0, .ref 58), (1, .int x1), (2, .int x2)] [] M _
  refine rn_aload_n (i := 0) (x := 58) dX9_sides_0 rfl (by simp) ?_
  refine rn_iload_n (i := 1) (x := x1) dX9_sides_1 rfl (by simp) ?_
  refine rn_callVi (as := [.int x1]) (st := []) dX9_sides_2 mf_X9_isLord lk_X9_427 im_X9_isLord rfl rfl rfl rfl (Nat.le_of_ble_eq_true rfl) (Nat.le_of_ble_eq_true rfl) rfl (RI.mono h (fun r2 M1 h => ?_))
  refine rn_if_eq (tgt := 18) dX9_sides_5 (by decide) (ite_go h (fun hc h => ?_) (fun hc h => ?_))
  · refine rn_iconst (v := -1) dX9_sides_18 rfl ?_
    exact rn_iret dX9_sides_19 rfl ⟨_, rfl, h⟩
  · refine rn_iload_n (i := 2) (x := x2) dX9_sides_8 rfl (by simp) ?_
    refine rn_iconst (v := 0) dX9_sides_9 rfl ?_
    refine rn_bipush (v := 60) dX9_sides_10 rfl ?_
    refine rn_callSi (as := [.int x2, .int 0, .int 60]) (st := []) dX9_sides_12 mf_X9_isIn lk_X9_420 sm_X9_isIn rfl (Nat.le_of_ble_eq_true rfl) (Nat.le_of_ble_eq_true rfl) rfl (RI.mono h (fun r4 M3 h => ?_))
    refine rn_if_ne (tgt := 20) dX9_sides_15 (by decide) (ite_go h (fun hc h => ?_) (fun hc h => ?_))
    · refine rn_iconst (v := -1) dX9_sides_18 rfl ?_
      exact rn_iret dX9_sides_19 rfl ⟨_, rfl, h⟩
    · refine rn_aload_n (i := 0) (x := 58) dX9_sides_20 rfl (by simp) ?_
      refine rn_callVv (as := []) (st := []) dX9_sides_21 mf_X9_fill lk_X9_424 im_X9_fill rfl rfl rfl rfl (Nat.le_of_ble_eq_true rfl) (Nat.le_of_ble_eq_true rfl) rfl (RV.mono h (fun M5 h => ?_))
      refine rn_aload_n (i := 0) (x := 58) dX9_sides_24 rfl (by simp) ?_
      refine rn_iload_n (i := 2) (x := x2) dX9_sides_25 rfl (by simp) ?_
      refine rn_iconst (v := 0) dX9_sides_26 rfl ?_
      refine rn_callVv (as := [.int x2, .int 0]) (st := []) dX9_sides_27 mf_X9_go lk_X9_449 im_X9_go rfl rfl rfl rfl (Nat.le_of_ble_eq_true rfl) (Nat.le_of_ble_eq_true rfl) rfl (RV.mono h (fun M6 h => ?_))
      refine rn_aload_n (i := 0) (x := 58) dX9_sides_30 rfl (by simp) ?_
      refine rn_iload_n (i := 1) (x := x1) dX9_sides_31 rfl (by simp) ?_
      refine rn_callVi (as := [.int x1]) (st := []) dX9_sides_32 mf_X9_sidesOf lk_X9_265 im_X9_sidesOf rfl rfl rfl rfl (Nat.le_of_ble_eq_true rfl) (Nat.le_of_ble_eq_true rfl) rfl (RI.mono h (fun r8 M7 h => ?_))
      exact rn_iret dX9_sides_35 rfl ⟨_, rfl, h⟩
theorem dX9_left_0 : decode μX9_left.2.1 0 = .ok (.iload_n 1, 1) := by decide +kernel
theorem dX9_left_1 : decode μX9_left.2.1 1 = .ok (.iconst 0, 1) := by decide +kernel
theorem dX9_left_2 : decode μX9_left.2.1 2 = .ok (.bipush 60, 2) := by decide +kernel
theorem dX9_left_4 : decode μX9_left.2.1 4 = .ok (.invokestatic 420, 3) := by decide +kernel
theorem dX9_left_7 : decode μX9_left.2.1 7 = .ok (.ifCond .ne 5, 3) := by decide +kernel
theorem dX9_left_10 : decode μX9_left.2.1 10 = .ok (.iconst (-1), 1) := by decide +kernel
theorem dX9_left_11 : decode μX9_left.2.1 11 = .ok (.ireturn, 1) := by decide +kernel
theorem dX9_left_12 : decode μX9_left.2.1 12 = .ok (.aload_n 0, 1) := by decide +kernel
theorem dX9_left_13 : decode μX9_left.2.1 13 = .ok (.invokevirtual 424, 3) := by decide +kernel
theorem dX9_left_16 : decode μX9_left.2.1 16 = .ok (.aload_n 0, 1) := by decide +kernel
theorem dX9_left_17 : decode μX9_left.2.1 17 = .ok (.iload_n 1, 1) := by decide +kernel
theorem dX9_left_18 : decode μX9_left.2.1 18 = .ok (.iconst 0, 1) := by decide +kernel
theorem dX9_left_19 : decode μX9_left.2.1 19 = .ok (.invokevirtual 449, 3) := by decide +kernel
theorem dX9_left_22 : decode μX9_left.2.1 22 = .ok (.aload_n 0, 1) := by decide +kernel
theorem dX9_left_23 : decode μX9_left.2.1 23 = .ok (.getfield 45, 3) := by decide +kernel
theorem dX9_left_26 : decode μX9_left.2.1 26 = .ok (.bipush 13, 2) := by decide +kernel
theorem dX9_left_28 : decode μX9_left.2.1 28 = .ok (.iaload, 1) := by decide +kernel
theorem dX9_left_29 : decode μX9_left.2.1 29 = .ok (.ireturn, 1) := by decide +kernel
set_option maxRecDepth 20000 in
theorem sg_X9_left_0 {d : Nat} {x1 : Int32} {M : Mem} {K : (Int32 → Mem → Prop)}  (h : (CI d μX9_isIn [.int x1, .int 0, .int 60] M (fun r2 M1 => (if r2 = 0 then K ((-1)) M1 else (CV d μX9_fill [.ref 58] M1 (fun M3 => (CV d μX9_go [.ref 58, .int x1, .int 0] M3 (fun M4 => K (ri M4 69 (nx 13)) M4)))))))) : CI (d + 1) μX9_left [.ref 58, .int x1] M K := by
  show Rn (d + 1) μX9_left 0 [(0, .ref 58), (1, .int x1)] [] M _
  refine rn_iload_n (i := 1) (x := x1) dX9_left_0 rfl (by simp) ?_
  refine rn_iconst (v := 0) dX9_left_1 rfl ?_
  refine rn_bipush (v := 60) dX9_left_2 rfl ?_
  refine rn_callSi (as := [.int x1, .int 0, .int 60]) (st := []) dX9_left_4 mf_X9_isIn lk_X9_420 sm_X9_isIn rfl (Nat.le_of_ble_eq_true rfl) (Nat.le_of_ble_eq_true rfl) rfl (RI.mono h (fun r2 M1 h => ?_))
  refine rn_if_ne (tgt := 12) dX9_left_7 (by decide) (ite_go h (fun hc h => ?_) (fun hc h => ?_))
  · refine rn_iconst (v := -1) dX9_left_10 rfl ?_
    exact rn_iret dX9_left_11 rfl ⟨_, rfl, h⟩
  · refine rn_aload_n (i := 0) (x := 58) dX9_left_12 rfl (by simp) ?_
    refine rn_callVv (as := []) (st := []) dX9_left_13 mf_X9_fill lk_X9_424 im_X9_fill rfl rfl rfl rfl (Nat.le_of_ble_eq_true rfl) (Nat.le_of_ble_eq_true rfl) rfl (RV.mono h (fun M3 h => ?_))
    refine rn_aload_n (i := 0) (x := 58) dX9_left_16 rfl (by simp) ?_
    refine rn_iload_n (i := 1) (x := x1) dX9_left_17 rfl (by simp) ?_
    refine rn_iconst (v := 0) dX9_left_18 rfl ?_
    refine rn_callVv (as := [.int x1, .int 0]) (st := []) dX9_left_19 mf_X9_go lk_X9_449 im_X9_go rfl rfl rfl rfl (Nat.le_of_ble_eq_true rfl) (Nat.le_of_ble_eq_true rfl) rfl (RV.mono h (fun M4 h => ?_))
    refine rn_aload_n (i := 0) (x := 58) dX9_left_22 rfl (by simp) ?_
    refine rn_getr (t := 69) dX9_left_23 rfl gf_X9_45 rfl rfl ?_
    refine rn_bipush (v := 13) dX9_left_26 rfl ?_
    refine rn_iaload dX9_left_28 rfl (by unfold vp_in; decide) ?_
    exact rn_iret dX9_left_29 rfl ⟨_, rfl, h⟩
theorem dX9_ending_0 : decode μX9_ending.2.1 0 = .ok (.aload_n 0, 1) := by decide +kernel
theorem dX9_ending_1 : decode μX9_ending.2.1 1 = .ok (.iload_n 1, 1) := by decide +kernel
theorem dX9_ending_2 : decode μX9_ending.2.1 2 = .ok (.invokevirtual 427, 3) := by decide +kernel
theorem dX9_ending_5 : decode μX9_ending.2.1 5 = .ok (.ifCond .ne 5, 3) := by decide +kernel
theorem dX9_ending_8 : decode μX9_ending.2.1 8 = .ok (.iconst (-1), 1) := by decide +kernel
theorem dX9_ending_9 : decode μX9_ending.2.1 9 = .ok (.ireturn, 1) := by decide +kernel
theorem dX9_ending_10 : decode μX9_ending.2.1 10 = .ok (.aload_n 0, 1) := by decide +kernel
theorem dX9_ending_11 : decode μX9_ending.2.1 11 = .ok (.invokevirtual 424, 3) := by decide +kernel
theorem dX9_ending_14 : decode μX9_ending.2.1 14 = .ok (.iconst 0, 1) := by decide +kernel
theorem dX9_ending_15 : decode μX9_ending.2.1 15 = .ok (.istore_n 2, 1) := by decide +kernel
theorem dX9_ending_16 : decode μX9_ending.2.1 16 = .ok (.iload_n 2, 1) := by decide +kernel
theorem dX9_ending_17 : decode μX9_ending.2.1 17 = .ok (.bipush 60, 2) := by decide +kernel
theorem dX9_ending_19 : decode μX9_ending.2.1 19 = .ok (.if_icmp .gt 24, 3) := by decide +kernel
theorem dX9_ending_22 : decode μX9_ending.2.1 22 = .ok (.aload_n 0, 1) := by decide +kernel
theorem dX9_ending_23 : decode μX9_ending.2.1 23 = .ok (.iload_n 1, 1) := by decide +kernel
theorem dX9_ending_24 : decode μX9_ending.2.1 24 = .ok (.invokevirtual 335, 3) := by decide +kernel
theorem dX9_ending_27 : decode μX9_ending.2.1 27 = .ok (.ifCond .ne 5, 3) := by decide +kernel
theorem dX9_ending_30 : decode μX9_ending.2.1 30 = .ok (.iload_n 2, 1) := by decide +kernel
theorem dX9_ending_31 : decode μX9_ending.2.1 31 = .ok (.ireturn, 1) := by decide +kernel
theorem dX9_ending_32 : decode μX9_ending.2.1 32 = .ok (.aload_n 0, 1) := by decide +kernel
theorem dX9_ending_33 : decode μX9_ending.2.1 33 = .ok (.iconst 0, 1) := by decide +kernel
theorem dX9_ending_34 : decode μX9_ending.2.1 34 = .ok (.invokevirtual 439, 3) := by decide +kernel
theorem dX9_ending_37 : decode μX9_ending.2.1 37 = .ok (.iinc 2 1, 3) := by decide +kernel
theorem dX9_ending_40 : decode μX9_ending.2.1 40 = .ok (.goto (-24), 3) := by decide +kernel
theorem dX9_ending_43 : decode μX9_ending.2.1 43 = .ok (.iconst (-1), 1) := by decide +kernel
theorem dX9_ending_44 : decode μX9_ending.2.1 44 = .ok (.ireturn, 1) := by decide +kernel
set_option maxRecDepth 20000 in
theorem sg_X9_ending_0 {d : Nat} {x1 : Int32} {M : Mem} {K : (Int32 → Mem → Prop)}  (h : (CI d μX9_isLord [.ref 58, .int x1] M (fun r2 M1 => (if r2 = 0 then K ((-1)) M1 else (CV d μX9_fill [.ref 58] M1 (fun M3 => RI (d + 1) μX9_ending 16 [(0, .ref 58), (1, .int x1), (2, .int 0)] [] M3 K)))))) : CI (d + 1) μX9_ending [.ref 58, .int x1] M K := by
  show Rn (d + 1) μX9_ending 0 [(0, .ref 58), (1, .int x1)] [] M _
  refine rn_aload_n (i := 0) (x := 58) dX9_ending_0 rfl (by simp) ?_
  refine rn_iload_n (i := 1) (x := x1) dX9_ending_1 rfl (by simp) ?_
  refine rn_callVi (as := [.int x1]) (st := []) dX9_ending_2 mf_X9_isLord lk_X9_427 im_X9_isLord rfl rfl rfl rfl (Nat.le_of_ble_eq_true rfl) (Nat.le_of_ble_eq_true rfl) rfl (RI.mono h (fun r2 M1 h => ?_))
  refine rn_if_ne (tgt := 10) dX9_ending_5 (by decide) (ite_go h (fun hc h => ?_) (fun hc h => ?_))
  · refine rn_iconst (v := -1) dX9_ending_8 rfl ?_
    exact rn_iret dX9_ending_9 rfl ⟨_, rfl, h⟩
  · refine rn_aload_n (i := 0) (x := 58) dX9_ending_10 rfl (by simp) ?_
    refine rn_callVv (as := []) (st := []) dX9_ending_11 mf_X9_fill lk_X9_424 im_X9_fill rfl rfl rfl rfl (Nat.le_of_ble_eq_true rfl) (Nat.le_of_ble_eq_true rfl) rfl (RV.mono h (fun M3 h => ?_))
    refine rn_iconst (v := 0) dX9_ending_14 rfl ?_
    refine rn_istore_n (lv' := [(0, .ref 58), (1, .int x1), (2, .int 0)]) (hd := dX9_ending_15) (i := 2) (hi := rfl) (hn := by decide) (hf := rfl) (hl := rfl) ?_
    exact h
set_option maxRecDepth 20000 in
theorem sg_X9_ending_16 {d : Nat} {x1 : Int32} {x2 : Int32} {M : Mem} {K : (Int32 → Mem → Prop)}  (h : (if 60 < x2 then K ((-1)) M else (CI d μX9_isThere [.ref 58, .int x1] M (fun r2 M1 => (if r2 = 0 then K x2 M1 else (CV d μX9_goSeason [.ref 58, .int 0] M1 (fun M3 => RI (d + 1) μX9_ending 16 [(0, .ref 58), (1, .int x1), (2, .int (x2 + 1))] [] M3 K))))))) : RI (d + 1) μX9_ending 16 [(0, .ref 58), (1, .int x1), (2, .int x2)] [] M K := by
  show Rn (d + 1) μX9_ending 16 [(0, .ref 58), (1, .int x1), (2, .int x2)] [] M _
  refine rn_iload_n (i := 2) (x := x2) dX9_ending_16 rfl (by simp) ?_
  refine rn_bipush (v := 60) dX9_ending_17 rfl ?_
  refine rn_icmp_gt (tgt := 43) dX9_ending_19 (by decide) (ite_go h (fun hc h => ?_) (fun hc h => ?_))
  · refine rn_iconst (v := -1) dX9_ending_43 rfl ?_
    exact rn_iret dX9_ending_44 rfl ⟨_, rfl, h⟩
  · refine rn_aload_n (i := 0) (x := 58) dX9_ending_22 rfl (by simp) ?_
    refine rn_iload_n (i := 1) (x := x1) dX9_ending_23 rfl (by simp) ?_
    refine rn_callVi (as := [.int x1]) (st := []) dX9_ending_24 mf_X9_isThere lk_X9_335 im_X9_isThere rfl rfl rfl rfl (Nat.le_of_ble_eq_true rfl) (Nat.le_of_ble_eq_true rfl) rfl (RI.mono h (fun r2 M1 h => ?_))
    refine rn_if_ne (tgt := 32) dX9_ending_27 (by decide) (ite_go h (fun hc h => ?_) (fun hc h => ?_))
    · refine rn_iload_n (i := 2) (x := x2) dX9_ending_30 rfl (by simp) ?_
      exact rn_iret dX9_ending_31 rfl ⟨_, rfl, h⟩
    · refine rn_aload_n (i := 0) (x := 58) dX9_ending_32 rfl (by simp) ?_
      refine rn_iconst (v := 0) dX9_ending_33 rfl ?_
      refine rn_callVv (as := [.int 0]) (st := []) dX9_ending_34 mf_X9_goSeason lk_X9_439 im_X9_goSeason rfl rfl rfl rfl (Nat.le_of_ble_eq_true rfl) (Nat.le_of_ble_eq_true rfl) rfl (RV.mono h (fun M3 h => ?_))
      refine rn_iinc (x := x2) (v := x2 + 1) (lv' := [(0, .ref 58), (1, .int x1), (2, .int (x2 + 1))]) dX9_ending_37 (by simp) rfl (by decide) rfl rfl ?_
      refine rn_goto (tgt := 16) dX9_ending_40 (by decide) ?_
      exact h
theorem dX9_reach_0 : decode μX9_reach.2.1 0 = .ok (.iconst 1, 1) := by decide +kernel
theorem dX9_reach_1 : decode μX9_reach.2.1 1 = .ok (.iload_n 1, 1) := by decide +kernel
theorem dX9_reach_2 : decode μX9_reach.2.1 2 = .ok (.ishl, 1) := by decide +kernel
theorem dX9_reach_3 : decode μX9_reach.2.1 3 = .ok (.istore 4, 2) := by decide +kernel
theorem dX9_reach_5 : decode μX9_reach.2.1 5 = .ok (.iconst 0, 1) := by decide +kernel
theorem dX9_reach_6 : decode μX9_reach.2.1 6 = .ok (.istore 5, 2) := by decide +kernel
theorem dX9_reach_8 : decode μX9_reach.2.1 8 = .ok (.iload 5, 2) := by decide +kernel
theorem dX9_reach_10 : decode μX9_reach.2.1 10 = .ok (.iload_n 3, 1) := by decide +kernel
theorem dX9_reach_11 : decode μX9_reach.2.1 11 = .ok (.if_icmp .ge 61, 3) := by decide +kernel
theorem dX9_reach_14 : decode μX9_reach.2.1 14 = .ok (.iload 4, 2) := by decide +kernel
theorem dX9_reach_16 : decode μX9_reach.2.1 16 = .ok (.istore 6, 2) := by decide +kernel
theorem dX9_reach_18 : decode μX9_reach.2.1 18 = .ok (.iconst 0, 1) := by decide +kernel
theorem dX9_reach_19 : decode μX9_reach.2.1 19 = .ok (.istore 7, 2) := by decide +kernel
theorem dX9_reach_21 : decode μX9_reach.2.1 21 = .ok (.iload 7, 2) := by decide +kernel
theorem dX9_reach_23 : decode μX9_reach.2.1 23 = .ok (.aload_n 0, 1) := by decide +kernel
theorem dX9_reach_24 : decode μX9_reach.2.1 24 = .ok (.getfield 326, 3) := by decide +kernel
theorem dX9_reach_27 : decode μX9_reach.2.1 27 = .ok (.if_icmp .ge 35, 3) := by decide +kernel
theorem dX9_reach_30 : decode μX9_reach.2.1 30 = .ok (.iload 4, 2) := by decide +kernel
theorem dX9_reach_32 : decode μX9_reach.2.1 32 = .ok (.iload 7, 2) := by decide +kernel
theorem dX9_reach_34 : decode μX9_reach.2.1 34 = .ok (.ishr, 1) := by decide +kernel
theorem dX9_reach_35 : decode μX9_reach.2.1 35 = .ok (.iconst 1, 1) := by decide +kernel
theorem dX9_reach_36 : decode μX9_reach.2.1 36 = .ok (.iand, 1) := by decide +kernel
theorem dX9_reach_37 : decode μX9_reach.2.1 37 = .ok (.iconst 1, 1) := by decide +kernel
theorem dX9_reach_38 : decode μX9_reach.2.1 38 = .ok (.if_icmp .ne 18, 3) := by decide +kernel
theorem dX9_reach_41 : decode μX9_reach.2.1 41 = .ok (.iload 6, 2) := by decide +kernel
theorem dX9_reach_43 : decode μX9_reach.2.1 43 = .ok (.aload_n 0, 1) := by decide +kernel
theorem dX9_reach_44 : decode μX9_reach.2.1 44 = .ok (.iload 7, 2) := by decide +kernel
theorem dX9_reach_46 : decode μX9_reach.2.1 46 = .ok (.invokevirtual 268, 3) := by decide +kernel
theorem dX9_reach_49 : decode μX9_reach.2.1 49 = .ok (.iload_n 2, 1) := by decide +kernel
theorem dX9_reach_50 : decode μX9_reach.2.1 50 = .ok (.iconst (-1), 1) := by decide +kernel
theorem dX9_reach_51 : decode μX9_reach.2.1 51 = .ok (.ixor, 1) := by decide +kernel
theorem dX9_reach_52 : decode μX9_reach.2.1 52 = .ok (.iand, 1) := by decide +kernel
theorem dX9_reach_53 : decode μX9_reach.2.1 53 = .ok (.ior, 1) := by decide +kernel
theorem dX9_reach_54 : decode μX9_reach.2.1 54 = .ok (.istore 6, 2) := by decide +kernel
theorem dX9_reach_56 : decode μX9_reach.2.1 56 = .ok (.iinc 7 1, 3) := by decide +kernel
theorem dX9_reach_59 : decode μX9_reach.2.1 59 = .ok (.goto (-38), 3) := by decide +kernel
theorem dX9_reach_62 : decode μX9_reach.2.1 62 = .ok (.iload 6, 2) := by decide +kernel
theorem dX9_reach_64 : decode μX9_reach.2.1 64 = .ok (.istore 4, 2) := by decide +kernel
theorem dX9_reach_66 : decode μX9_reach.2.1 66 = .ok (.iinc 5 1, 3) := by decide +kernel
theorem dX9_reach_69 : decode μX9_reach.2.1 69 = .ok (.goto (-61), 3) := by decide +kernel
theorem dX9_reach_72 : decode μX9_reach.2.1 72 = .ok (.iload 4, 2) := by decide +kernel
theorem dX9_reach_74 : decode μX9_reach.2.1 74 = .ok (.ireturn, 1) := by decide +kernel
set_option maxRecDepth 20000 in
theorem sg_X9_reach_0 {d : Nat} {x1 : Int32} {x2 : Int32} {x3 : Int32} {M : Mem} {K : (Int32 → Mem → Prop)}  (h : RI (d + 1) μX9_reach 8 [(0, .ref 58), (1, .int x1), (2, .int x2), (3, .int x3), (4, .int ((1 : Int32) <<< (x1 &&& 31))), (5, .int 0)] [] M K) : CI (d + 1) μX9_reach [.ref 58, .int x1, .int x2, .int x3] M K := by
  show Rn (d + 1) μX9_reach 0 [(0, .ref 58), (1, .int x1), (2, .int x2), (3, .int x3)] [] M _
  refine rn_iconst (v := 1) dX9_reach_0 rfl ?_
  refine rn_iload_n (i := 1) (x := x1) dX9_reach_1 rfl (by simp) ?_
  refine rn_ishl dX9_reach_2 ?_
  refine rn_istore (lv' := [(0, .ref 58), (1, .int x1), (2, .int x2), (3, .int x3), (4, .int ((1 : Int32) <<< (x1 &&& 31)))]) (hd := dX9_reach_3) (hn := by decide) (hf := rfl) (hl := rfl) ?_
  refine rn_iconst (v := 0) dX9_reach_5 rfl ?_
  refine rn_istore (lv' := [(0, .ref 58), (1, .int x1), (2, .int x2), (3, .int x3), (4, .int ((1 : Int32) <<< (x1 &&& 31))), (5, .int 0)]) (hd := dX9_reach_6) (hn := by decide) (hf := rfl) (hl := rfl) ?_
  exact h
set_option maxRecDepth 20000 in
theorem sg_X9_reach_8 {d : Nat} {x1 : Int32} {x2 : Int32} {x3 : Int32} {x4 : Int32} {x5 : Int32} {M : Mem} {K : (Int32 → Mem → Prop)}  (h : (if x3 ≤ x5 then K x4 M else RI (d + 1) μX9_reach 21 [(0, .ref 58), (1, .int x1), (2, .int x2), (3, .int x3), (4, .int x4), (5, .int x5), (6, .int x4), (7, .int 0)] [] M K)) : RI (d + 1) μX9_reach 8 [(0, .ref 58), (1, .int x1), (2, .int x2), (3, .int x3), (4, .int x4), (5, .int x5)] [] M K := by
  show Rn (d + 1) μX9_reach 8 [(0, .ref 58), (1, .int x1), (2, .int x2), (3, .int x3), (4, .int x4), (5, .int x5)] [] M _
  refine rn_iload (x := x5) dX9_reach_8 (by simp) ?_
  refine rn_iload_n (i := 3) (x := x3) dX9_reach_10 rfl (by simp) ?_
  refine rn_icmp_ge (tgt := 72) dX9_reach_11 (by decide) (ite_go h (fun hc h => ?_) (fun hc h => ?_))
  · refine rn_iload (x := x4) dX9_reach_72 (by simp) ?_
    exact rn_iret dX9_reach_74 rfl ⟨_, rfl, h⟩
  · refine rn_iload (x := x4) dX9_reach_14 (by simp) ?_
    refine rn_istore (lv' := [(0, .ref 58), (1, .int x1), (2, .int x2), (3, .int x3), (4, .int x4), (5, .int x5), (6, .int x4)]) (hd := dX9_reach_16) (hn := by decide) (hf := rfl) (hl := rfl) ?_
    refine rn_iconst (v := 0) dX9_reach_18 rfl ?_
    refine rn_istore (lv' := [(0, .ref 58), (1, .int x1), (2, .int x2), (3, .int x3), (4, .int x4), (5, .int x5), (6, .int x4), (7, .int 0)]) (hd := dX9_reach_19) (hn := by decide) (hf := rfl) (hl := rfl) ?_
    exact h
set_option maxRecDepth 20000 in
theorem sg_X9_reach_21 {d : Nat} {x1 : Int32} {x2 : Int32} {x3 : Int32} {x4 : Int32} {x5 : Int32} {x6 : Int32} {x7 : Int32} {M : Mem} {K : (Int32 → Mem → Prop)}  (h : (if ri M 58 35 ≤ x7 then RI (d + 1) μX9_reach 8 [(0, .ref 58), (1, .int x1), (2, .int x2), (3, .int x3), (4, .int x6), (5, .int (x5 + 1))] [] M K else (if (x4 >>> (x7 &&& 31)) &&& 1 = 1 then (CI d μX9_bordersOf [.ref 58, .int x7] M (fun r2 M1 => RI (d + 1) μX9_reach 21 [(0, .ref 58), (1, .int x1), (2, .int x2), (3, .int x3), (4, .int x4), (5, .int x5), (6, .int (x6 ||| (r2 &&& (x2 ^^^ ((-1)))))), (7, .int (x7 + 1))] [] M1 K)) else RI (d + 1) μX9_reach 21 [(0, .ref 58), (1, .int x1), (2, .int x2), (3, .int x3), (4, .int x4), (5, .int x5), (6, .int x6), (7, .int (x7 + 1))] [] M K))) : RI (d + 1) μX9_reach 21 [(0, .ref 58), (1, .int x1), (2, .int x2), (3, .int x3), (4, .int x4), (5, .int x5), (6, .int x6), (7, .int x7)] [] M K := by
  show Rn (d + 1) μX9_reach 21 [(0, .ref 58), (1, .int x1), (2, .int x2), (3, .int x3), (4, .int x4), (5, .int x5), (6, .int x6), (7, .int x7)] [] M _
  refine rn_iload (x := x7) dX9_reach_21 (by simp) ?_
  refine rn_aload_n (i := 0) (x := 58) dX9_reach_23 rfl (by simp) ?_
  refine rn_geti dX9_reach_24 rfl gf_X9_326 (by decide) ?_
  refine rn_icmp_ge (tgt := 62) dX9_reach_27 (by decide) (ite_go h (fun hc h => ?_) (fun hc h => ?_))
  · refine rn_iload (x := x6) dX9_reach_62 (by simp) ?_
    refine rn_istore (lv' := [(0, .ref 58), (1, .int x1), (2, .int x2), (3, .int x3), (4, .int x6), (5, .int x5), (6, .int x6), (7, .int x7)]) (hd := dX9_reach_64) (hn := by decide) (hf := rfl) (hl := rfl) ?_
    refine rn_iinc (x := x5) (v := x5 + 1) (lv' := [(0, .ref 58), (1, .int x1), (2, .int x2), (3, .int x3), (4, .int x6), (5, .int (x5 + 1)), (6, .int x6), (7, .int x7)]) dX9_reach_66 (by simp) rfl (by decide) rfl rfl ?_
    refine rn_goto (tgt := 8) dX9_reach_69 (by decide) ?_
    refine Rn.sub (lv' := [(0, .ref 58), (1, .int x1), (2, .int x2), (3, .int x3), (4, .int x6), (5, .int (x5 + 1))]) (by simp) ?_
    exact h
  · refine rn_iload (x := x4) dX9_reach_30 (by simp) ?_
    refine rn_iload (x := x7) dX9_reach_32 (by simp) ?_
    refine rn_ishr dX9_reach_34 ?_
    refine rn_iconst (v := 1) dX9_reach_35 rfl ?_
    refine rn_iand dX9_reach_36 ?_
    refine rn_iconst (v := 1) dX9_reach_37 rfl ?_
    refine rn_icmp_ne (tgt := 56) dX9_reach_38 (by decide) (ite_go h (fun hc h => ?_) (fun hc h => ?_))
    · refine rn_iload (x := x6) dX9_reach_41 (by simp) ?_
      refine rn_aload_n (i := 0) (x := 58) dX9_reach_43 rfl (by simp) ?_
      refine rn_iload (x := x7) dX9_reach_44 (by simp) ?_
      refine rn_callVi (as := [.int x7]) (st := [.int x6]) dX9_reach_46 mf_X9_bordersOf lk_X9_268 im_X9_bordersOf rfl rfl rfl rfl (Nat.le_of_ble_eq_true rfl) (Nat.le_of_ble_eq_true rfl) rfl (RI.mono h (fun r2 M1 h => ?_))
      refine rn_iload_n (i := 2) (x := x2) dX9_reach_49 rfl (by simp) ?_
      refine rn_iconst (v := -1) dX9_reach_50 rfl ?_
      refine rn_ixor dX9_reach_51 ?_
      refine rn_iand dX9_reach_52 ?_
      refine rn_ior dX9_reach_53 ?_
      refine rn_istore (lv' := [(0, .ref 58), (1, .int x1), (2, .int x2), (3, .int x3), (4, .int x4), (5, .int x5), (6, .int (x6 ||| (r2 &&& (x2 ^^^ ((-1)))))), (7, .int x7)]) (hd := dX9_reach_54) (hn := by decide) (hf := rfl) (hl := rfl) ?_
      refine rn_iinc (x := x7) (v := x7 + 1) (lv' := [(0, .ref 58), (1, .int x1), (2, .int x2), (3, .int x3), (4, .int x4), (5, .int x5), (6, .int (x6 ||| (r2 &&& (x2 ^^^ ((-1)))))), (7, .int (x7 + 1))]) dX9_reach_56 (by simp) rfl (by decide) rfl rfl ?_
      refine rn_goto (tgt := 21) dX9_reach_59 (by decide) ?_
      exact h
    · refine rn_iinc (x := x7) (v := x7 + 1) (lv' := [(0, .ref 58), (1, .int x1), (2, .int x2), (3, .int x3), (4, .int x4), (5, .int x5), (6, .int x6), (7, .int (x7 + 1))]) dX9_reach_56 (by simp) rfl (by decide) rfl rfl ?_
      refine rn_goto (tgt := 21) dX9_reach_59 (by decide) ?_
      exact h
theorem dX9_far_0 : decode μX9_far.2.1 0 = .ok (.aload_n 0, 1) := by decide +kernel
theorem dX9_far_1 : decode μX9_far.2.1 1 = .ok (.iload_n 1, 1) := by decide +kernel
theorem dX9_far_2 : decode μX9_far.2.1 2 = .ok (.invokevirtual 430, 3) := by decide +kernel
theorem dX9_far_5 : decode μX9_far.2.1 5 = .ok (.ifCond .eq 11, 3) := by decide +kernel
theorem dX9_far_8 : decode μX9_far.2.1 8 = .ok (.aload_n 0, 1) := by decide +kernel
theorem dX9_far_9 : decode μX9_far.2.1 9 = .ok (.iload_n 2, 1) := by decide +kernel
theorem dX9_far_10 : decode μX9_far.2.1 10 = .ok (.invokevirtual 430, 3) := by decide +kernel
theorem dX9_far_13 : decode μX9_far.2.1 13 = .ok (.ifCond .ne 5, 3) := by decide +kernel
theorem dX9_far_16 : decode μX9_far.2.1 16 = .ok (.iconst (-1), 1) := by decide +kernel
theorem dX9_far_17 : decode μX9_far.2.1 17 = .ok (.ireturn, 1) := by decide +kernel
theorem dX9_far_18 : decode μX9_far.2.1 18 = .ok (.iconst 0, 1) := by decide +kernel
theorem dX9_far_19 : decode μX9_far.2.1 19 = .ok (.istore_n 3, 1) := by decide +kernel
theorem dX9_far_20 : decode μX9_far.2.1 20 = .ok (.iload_n 3, 1) := by decide +kernel
theorem dX9_far_21 : decode μX9_far.2.1 21 = .ok (.bipush 8, 2) := by decide +kernel
theorem dX9_far_23 : decode μX9_far.2.1 23 = .ok (.if_icmp .gt 26, 3) := by decide +kernel
theorem dX9_far_26 : decode μX9_far.2.1 26 = .ok (.aload_n 0, 1) := by decide +kernel
theorem dX9_far_27 : decode μX9_far.2.1 27 = .ok (.iload_n 1, 1) := by decide +kernel
theorem dX9_far_28 : decode μX9_far.2.1 28 = .ok (.iconst 0, 1) := by decide +kernel
theorem dX9_far_29 : decode μX9_far.2.1 29 = .ok (.iload_n 3, 1) := by decide +kernel
theorem dX9_far_30 : decode μX9_far.2.1 30 = .ok (.invokevirtual 453, 3) := by decide +kernel
theorem dX9_far_33 : decode μX9_far.2.1 33 = .ok (.iload_n 2, 1) := by decide +kernel
theorem dX9_far_34 : decode μX9_far.2.1 34 = .ok (.ishr, 1) := by decide +kernel
theorem dX9_far_35 : decode μX9_far.2.1 35 = .ok (.iconst 1, 1) := by decide +kernel
theorem dX9_far_36 : decode μX9_far.2.1 36 = .ok (.iand, 1) := by decide +kernel
theorem dX9_far_37 : decode μX9_far.2.1 37 = .ok (.iconst 1, 1) := by decide +kernel
theorem dX9_far_38 : decode μX9_far.2.1 38 = .ok (.if_icmp .ne 5, 3) := by decide +kernel
theorem dX9_far_41 : decode μX9_far.2.1 41 = .ok (.iload_n 3, 1) := by decide +kernel
theorem dX9_far_42 : decode μX9_far.2.1 42 = .ok (.ireturn, 1) := by decide +kernel
theorem dX9_far_43 : decode μX9_far.2.1 43 = .ok (.iinc 3 1, 3) := by decide +kernel
theorem dX9_far_46 : decode μX9_far.2.1 46 = .ok (.goto (-26), 3) := by decide +kernel
theorem dX9_far_49 : decode μX9_far.2.1 49 = .ok (.iconst (-1), 1) := by decide +kernel
theorem dX9_far_50 : decode μX9_far.2.1 50 = .ok (.ireturn, 1) := by decide +kernel
set_option maxRecDepth 20000 in
theorem sg_X9_far_0 {d : Nat} {x1 : Int32} {x2 : Int32} {M : Mem} {K : (Int32 → Mem → Prop)}  (h : (CI d μX9_isThereNow [.ref 58, .int x1] M (fun r2 M1 => (if r2 = 0 then K ((-1)) M1 else (CI d μX9_isThereNow [.ref 58, .int x2] M1 (fun r4 M3 => (if r4 = 0 then K ((-1)) M3 else RI (d + 1) μX9_far 20 [(0, .ref 58), (1, .int x1), (2, .int x2), (3, .int 0)] [] M3 K))))))) : CI (d + 1) μX9_far [.ref 58, .int x1, .int x2] M K := by
  show Rn (d + 1) μX9_far 0 [(0, .ref 58), (1, .int x1), (2, .int x2)] [] M _
  refine rn_aload_n (i := 0) (x := 58) dX9_far_0 rfl (by simp) ?_
  refine rn_iload_n (i := 1) (x := x1) dX9_far_1 rfl (by simp) ?_
  refine rn_callVi (as := [.int x1]) (st := []) dX9_far_2 mf_X9_isThereNow lk_X9_430 im_X9_isThereNow rfl rfl rfl rfl (Nat.le_of_ble_eq_true rfl) (Nat.le_of_ble_eq_true rfl) rfl (RI.mono h (fun r2 M1 h => ?_))
  refine rn_if_eq (tgt := 16) dX9_far_5 (by decide) (ite_go h (fun hc h => ?_) (fun hc h => ?_))
  · refine rn_iconst (v := -1) dX9_far_16 rfl ?_
    exact rn_iret dX9_far_17 rfl ⟨_, rfl, h⟩
  · refine rn_aload_n (i := 0) (x := 58) dX9_far_8 rfl (by simp) ?_
    refine rn_iload_n (i := 2) (x := x2) dX9_far_9 rfl (by simp) ?_
    refine rn_callVi (as := [.int x2]) (st := []) dX9_far_10 mf_X9_isThereNow lk_X9_430 im_X9_isThereNow rfl rfl rfl rfl (Nat.le_of_ble_eq_true rfl) (Nat.le_of_ble_eq_true rfl) rfl (RI.mono h (fun r4 M3 h => ?_))
    refine rn_if_ne (tgt := 18) dX9_far_13 (by decide) (ite_go h (fun hc h => ?_) (fun hc h => ?_))
    · refine rn_iconst (v := -1) dX9_far_16 rfl ?_
      exact rn_iret dX9_far_17 rfl ⟨_, rfl, h⟩
    · refine rn_iconst (v := 0) dX9_far_18 rfl ?_
      refine rn_istore_n (lv' := [(0, .ref 58), (1, .int x1), (2, .int x2), (3, .int 0)]) (hd := dX9_far_19) (i := 3) (hi := rfl) (hn := by decide) (hf := rfl) (hl := rfl) ?_
      exact h
set_option maxRecDepth 20000 in
theorem sg_X9_far_20 {d : Nat} {x1 : Int32} {x2 : Int32} {x3 : Int32} {M : Mem} {K : (Int32 → Mem → Prop)}  (h : (if 8 < x3 then K ((-1)) M else (CI d μX9_reach [.ref 58, .int x1, .int 0, .int x3] M (fun r2 M1 => (if (r2 >>> (x2 &&& 31)) &&& 1 = 1 then K x3 M1 else RI (d + 1) μX9_far 20 [(0, .ref 58), (1, .int x1), (2, .int x2), (3, .int (x3 + 1))] [] M1 K))))) : RI (d + 1) μX9_far 20 [(0, .ref 58), (1, .int x1), (2, .int x2), (3, .int x3)] [] M K := by
  show Rn (d + 1) μX9_far 20 [(0, .ref 58), (1, .int x1), (2, .int x2), (3, .int x3)] [] M _
  refine rn_iload_n (i := 3) (x := x3) dX9_far_20 rfl (by simp) ?_
  refine rn_bipush (v := 8) dX9_far_21 rfl ?_
  refine rn_icmp_gt (tgt := 49) dX9_far_23 (by decide) (ite_go h (fun hc h => ?_) (fun hc h => ?_))
  · refine rn_iconst (v := -1) dX9_far_49 rfl ?_
    exact rn_iret dX9_far_50 rfl ⟨_, rfl, h⟩
  · refine rn_aload_n (i := 0) (x := 58) dX9_far_26 rfl (by simp) ?_
    refine rn_iload_n (i := 1) (x := x1) dX9_far_27 rfl (by simp) ?_
    refine rn_iconst (v := 0) dX9_far_28 rfl ?_
    refine rn_iload_n (i := 3) (x := x3) dX9_far_29 rfl (by simp) ?_
    refine rn_callVi (as := [.int x1, .int 0, .int x3]) (st := []) dX9_far_30 mf_X9_reach lk_X9_453 im_X9_reach rfl rfl rfl rfl (Nat.le_of_ble_eq_true rfl) (Nat.le_of_ble_eq_true rfl) rfl (RI.mono h (fun r2 M1 h => ?_))
    refine rn_iload_n (i := 2) (x := x2) dX9_far_33 rfl (by simp) ?_
    refine rn_ishr dX9_far_34 ?_
    refine rn_iconst (v := 1) dX9_far_35 rfl ?_
    refine rn_iand dX9_far_36 ?_
    refine rn_iconst (v := 1) dX9_far_37 rfl ?_
    refine rn_icmp_ne (tgt := 43) dX9_far_38 (by decide) (ite_go h (fun hc h => ?_) (fun hc h => ?_))
    · refine rn_iload_n (i := 3) (x := x3) dX9_far_41 rfl (by simp) ?_
      exact rn_iret dX9_far_42 rfl ⟨_, rfl, h⟩
    · refine rn_iinc (x := x3) (v := x3 + 1) (lv' := [(0, .ref 58), (1, .int x1), (2, .int x2), (3, .int (x3 + 1))]) dX9_far_43 (by simp) rfl (by decide) rfl rfl ?_
      refine rn_goto (tgt := 20) dX9_far_46 (by decide) ?_
      exact h
theorem dX9_cut_0 : decode μX9_cut.2.1 0 = .ok (.aload_n 0, 1) := by decide +kernel
theorem dX9_cut_1 : decode μX9_cut.2.1 1 = .ok (.iload_n 1, 1) := by decide +kernel
theorem dX9_cut_2 : decode μX9_cut.2.1 2 = .ok (.invokevirtual 430, 3) := by decide +kernel
theorem dX9_cut_5 : decode μX9_cut.2.1 5 = .ok (.ifCond .eq 34, 3) := by decide +kernel
theorem dX9_cut_8 : decode μX9_cut.2.1 8 = .ok (.aload_n 0, 1) := by decide +kernel
theorem dX9_cut_9 : decode μX9_cut.2.1 9 = .ok (.iload_n 2, 1) := by decide +kernel
theorem dX9_cut_10 : decode μX9_cut.2.1 10 = .ok (.invokevirtual 430, 3) := by decide +kernel
theorem dX9_cut_13 : decode μX9_cut.2.1 13 = .ok (.ifCond .eq 26, 3) := by decide +kernel
theorem dX9_cut_16 : decode μX9_cut.2.1 16 = .ok (.iload_n 1, 1) := by decide +kernel
theorem dX9_cut_17 : decode μX9_cut.2.1 17 = .ok (.iload_n 2, 1) := by decide +kernel
theorem dX9_cut_18 : decode μX9_cut.2.1 18 = .ok (.if_icmp .eq 21, 3) := by decide +kernel
theorem dX9_cut_21 : decode μX9_cut.2.1 21 = .ok (.iload_n 3, 1) := by decide +kernel
theorem dX9_cut_22 : decode μX9_cut.2.1 22 = .ok (.iconst 0, 1) := by decide +kernel
theorem dX9_cut_23 : decode μX9_cut.2.1 23 = .ok (.iconst 1, 1) := by decide +kernel
theorem dX9_cut_24 : decode μX9_cut.2.1 24 = .ok (.invokestatic 420, 3) := by decide +kernel
theorem dX9_cut_27 : decode μX9_cut.2.1 27 = .ok (.ifCond .eq 12, 3) := by decide +kernel
theorem dX9_cut_30 : decode μX9_cut.2.1 30 = .ok (.aload_n 0, 1) := by decide +kernel
theorem dX9_cut_31 : decode μX9_cut.2.1 31 = .ok (.iload_n 1, 1) := by decide +kernel
theorem dX9_cut_32 : decode μX9_cut.2.1 32 = .ok (.iload_n 2, 1) := by decide +kernel
theorem dX9_cut_33 : decode μX9_cut.2.1 33 = .ok (.invokevirtual 307, 3) := by decide +kernel
theorem dX9_cut_36 : decode μX9_cut.2.1 36 = .ok (.ifCond .eq 5, 3) := by decide +kernel
theorem dX9_cut_39 : decode μX9_cut.2.1 39 = .ok (.iconst (-1), 1) := by decide +kernel
theorem dX9_cut_40 : decode μX9_cut.2.1 40 = .ok (.ireturn, 1) := by decide +kernel
theorem dX9_cut_41 : decode μX9_cut.2.1 41 = .ok (.aload_n 0, 1) := by decide +kernel
theorem dX9_cut_42 : decode μX9_cut.2.1 42 = .ok (.getfield 45, 3) := by decide +kernel
theorem dX9_cut_45 : decode μX9_cut.2.1 45 = .ok (.bipush 13, 2) := by decide +kernel
theorem dX9_cut_47 : decode μX9_cut.2.1 47 = .ok (.iaload, 1) := by decide +kernel
theorem dX9_cut_48 : decode μX9_cut.2.1 48 = .ok (.iconst 1, 1) := by decide +kernel
theorem dX9_cut_49 : decode μX9_cut.2.1 49 = .ok (.iload_n 1, 1) := by decide +kernel
theorem dX9_cut_50 : decode μX9_cut.2.1 50 = .ok (.ishl, 1) := by decide +kernel
theorem dX9_cut_51 : decode μX9_cut.2.1 51 = .ok (.iconst 1, 1) := by decide +kernel
theorem dX9_cut_52 : decode μX9_cut.2.1 52 = .ok (.iload_n 2, 1) := by decide +kernel
theorem dX9_cut_53 : decode μX9_cut.2.1 53 = .ok (.ishl, 1) := by decide +kernel
theorem dX9_cut_54 : decode μX9_cut.2.1 54 = .ok (.ior, 1) := by decide +kernel
theorem dX9_cut_55 : decode μX9_cut.2.1 55 = .ok (.iconst (-1), 1) := by decide +kernel
theorem dX9_cut_56 : decode μX9_cut.2.1 56 = .ok (.ixor, 1) := by decide +kernel
theorem dX9_cut_57 : decode μX9_cut.2.1 57 = .ok (.iand, 1) := by decide +kernel
theorem dX9_cut_58 : decode μX9_cut.2.1 58 = .ok (.istore 4, 2) := by decide +kernel
theorem dX9_cut_60 : decode μX9_cut.2.1 60 = .ok (.iload 4, 2) := by decide +kernel
theorem dX9_cut_62 : decode μX9_cut.2.1 62 = .ok (.istore 5, 2) := by decide +kernel
theorem dX9_cut_64 : decode μX9_cut.2.1 64 = .ok (.iload 4, 2) := by decide +kernel
theorem dX9_cut_66 : decode μX9_cut.2.1 66 = .ok (.istore 6, 2) := by decide +kernel
theorem dX9_cut_68 : decode μX9_cut.2.1 68 = .ok (.iload 6, 2) := by decide +kernel
theorem dX9_cut_70 : decode μX9_cut.2.1 70 = .ok (.ifCond .lt 52, 3) := by decide +kernel
theorem dX9_cut_73 : decode μX9_cut.2.1 73 = .ok (.iload 6, 2) := by decide +kernel
theorem dX9_cut_75 : decode μX9_cut.2.1 75 = .ok (.iload 4, 2) := by decide +kernel
theorem dX9_cut_77 : decode μX9_cut.2.1 77 = .ok (.iconst (-1), 1) := by decide +kernel
theorem dX9_cut_78 : decode μX9_cut.2.1 78 = .ok (.ixor, 1) := by decide +kernel
theorem dX9_cut_79 : decode μX9_cut.2.1 79 = .ok (.iand, 1) := by decide +kernel
theorem dX9_cut_80 : decode μX9_cut.2.1 80 = .ok (.ifCond .ne 36, 3) := by decide +kernel
theorem dX9_cut_83 : decode μX9_cut.2.1 83 = .ok (.iload 6, 2) := by decide +kernel
theorem dX9_cut_85 : decode μX9_cut.2.1 85 = .ok (.invokestatic 274, 3) := by decide +kernel
theorem dX9_cut_88 : decode μX9_cut.2.1 88 = .ok (.iload 5, 2) := by decide +kernel
theorem dX9_cut_90 : decode μX9_cut.2.1 90 = .ok (.invokestatic 274, 3) := by decide +kernel
theorem dX9_cut_93 : decode μX9_cut.2.1 93 = .ok (.if_icmp .gt 23, 3) := by decide +kernel
theorem dX9_cut_96 : decode μX9_cut.2.1 96 = .ok (.aload_n 0, 1) := by decide +kernel
theorem dX9_cut_97 : decode μX9_cut.2.1 97 = .ok (.iload_n 1, 1) := by decide +kernel
theorem dX9_cut_98 : decode μX9_cut.2.1 98 = .ok (.iload 6, 2) := by decide +kernel
theorem dX9_cut_100 : decode μX9_cut.2.1 100 = .ok (.bipush 8, 2) := by decide +kernel
theorem dX9_cut_102 : decode μX9_cut.2.1 102 = .ok (.invokevirtual 453, 3) := by decide +kernel
theorem dX9_cut_105 : decode μX9_cut.2.1 105 = .ok (.iload_n 2, 1) := by decide +kernel
theorem dX9_cut_106 : decode μX9_cut.2.1 106 = .ok (.ishr, 1) := by decide +kernel
theorem dX9_cut_107 : decode μX9_cut.2.1 107 = .ok (.iconst 1, 1) := by decide +kernel
theorem dX9_cut_108 : decode μX9_cut.2.1 108 = .ok (.iand, 1) := by decide +kernel
theorem dX9_cut_109 : decode μX9_cut.2.1 109 = .ok (.ifCond .ne 7, 3) := by decide +kernel
theorem dX9_cut_112 : decode μX9_cut.2.1 112 = .ok (.iload 6, 2) := by decide +kernel
theorem dX9_cut_114 : decode μX9_cut.2.1 114 = .ok (.istore 5, 2) := by decide +kernel
theorem dX9_cut_116 : decode μX9_cut.2.1 116 = .ok (.iinc 6 (-1), 3) := by decide +kernel
theorem dX9_cut_119 : decode μX9_cut.2.1 119 = .ok (.goto (-51), 3) := by decide +kernel
theorem dX9_cut_122 : decode μX9_cut.2.1 122 = .ok (.iload_n 3, 1) := by decide +kernel
theorem dX9_cut_123 : decode μX9_cut.2.1 123 = .ok (.ifCond .ne 11, 3) := by decide +kernel
theorem dX9_cut_126 : decode μX9_cut.2.1 126 = .ok (.iload 5, 2) := by decide +kernel
theorem dX9_cut_128 : decode μX9_cut.2.1 128 = .ok (.invokestatic 274, 3) := by decide +kernel
theorem dX9_cut_131 : decode μX9_cut.2.1 131 = .ok (.goto 5, 3) := by decide +kernel
theorem dX9_cut_134 : decode μX9_cut.2.1 134 = .ok (.iload 5, 2) := by decide +kernel
theorem dX9_cut_136 : decode μX9_cut.2.1 136 = .ok (.ireturn, 1) := by decide +kernel
set_option maxRecDepth 20000 in
theorem sg_X9_cut_0 {d : Nat} {x1 : Int32} {x2 : Int32} {x3 : Int32} {M : Mem} {K : (Int32 → Mem → Prop)}  (h : (CI d μX9_isThereNow [.ref 58, .int x1] M (fun r2 M1 => (if r2 = 0 then K ((-1)) M1 else (CI d μX9_isThereNow [.ref 58, .int x2] M1 (fun r4 M3 => (if r4 = 0 then K ((-1)) M3 else (if x1 = x2 then K ((-1)) M3 else (CI d μX9_isIn [.int x3, .int 0, .int 1] M3 (fun r6 M5 => (if r6 = 0 then K ((-1)) M5 else (CI d μX9_doBorder [.ref 58, .int x1, .int x2] M5 (fun r8 M7 => (if r8 = 0 then RI (d + 1) μX9_cut 68 [(0, .ref 58), (1, .int x1), (2, .int x2), (3, .int x3), (4, .int ((ri M7 69 (nx 13)) &&& ((((1 : Int32) <<< (x1 &&& 31)) ||| ((1 : Int32) <<< (x2 &&& 31))) ^^^ ((-1))))), (5, .int ((ri M7 69 (nx 13)) &&& ((((1 : Int32) <<< (x1 &&& 31)) ||| ((1 : Int32) <<< (x2 &&& 31))) ^^^ ((-1))))), (6, .int ((ri M7 69 (nx 13)) &&& ((((1 : Int32) <<< (x1 &&& 31)) ||| ((1 : Int32) <<< (x2 &&& 31))) ^^^ ((-1)))))] [] M7 K else K ((-1)) M7)))))))))))))) : CI (d + 1) μX9_cut [.ref 58, .int x1, .int x2, .int x3] M K := by
  show Rn (d + 1) μX9_cut 0 [(0, .ref 58), (1, .int x1), (2, .int x2), (3, .int x3)] [] M _
  refine rn_aload_n (i := 0) (x := 58) dX9_cut_0 rfl (by simp) ?_
  refine rn_iload_n (i := 1) (x := x1) dX9_cut_1 rfl (by simp) ?_
  refine rn_callVi (as := [.int x1]) (st := []) dX9_cut_2 mf_X9_isThereNow lk_X9_430 im_X9_isThereNow rfl rfl rfl rfl (Nat.le_of_ble_eq_true rfl) (Nat.le_of_ble_eq_true rfl) rfl (RI.mono h (fun r2 M1 h => ?_))
  refine rn_if_eq (tgt := 39) dX9_cut_5 (by decide) (ite_go h (fun hc h => ?_) (fun hc h => ?_))
  · refine rn_iconst (v := -1) dX9_cut_39 rfl ?_
    exact rn_iret dX9_cut_40 rfl ⟨_, rfl, h⟩
  · refine rn_aload_n (i := 0) (x := 58) dX9_cut_8 rfl (by simp) ?_
    refine rn_iload_n (i := 2) (x := x2) dX9_cut_9 rfl (by simp) ?_
    refine rn_callVi (as := [.int x2]) (st := []) dX9_cut_10 mf_X9_isThereNow lk_X9_430 im_X9_isThereNow rfl rfl rfl rfl (Nat.le_of_ble_eq_true rfl) (Nat.le_of_ble_eq_true rfl) rfl (RI.mono h (fun r4 M3 h => ?_))
    refine rn_if_eq (tgt := 39) dX9_cut_13 (by decide) (ite_go h (fun hc h => ?_) (fun hc h => ?_))
    · refine rn_iconst (v := -1) dX9_cut_39 rfl ?_
      exact rn_iret dX9_cut_40 rfl ⟨_, rfl, h⟩
    · refine rn_iload_n (i := 1) (x := x1) dX9_cut_16 rfl (by simp) ?_
      refine rn_iload_n (i := 2) (x := x2) dX9_cut_17 rfl (by simp) ?_
      refine rn_icmp_eq (tgt := 39) dX9_cut_18 (by decide) (ite_go h (fun hc h => ?_) (fun hc h => ?_))
      · refine rn_iconst (v := -1) dX9_cut_39 rfl ?_
        exact rn_iret dX9_cut_40 rfl ⟨_, rfl, h⟩
      · refine rn_iload_n (i := 3) (x := x3) dX9_cut_21 rfl (by simp) ?_
        refine rn_iconst (v := 0) dX9_cut_22 rfl ?_
        refine rn_iconst (v := 1) dX9_cut_23 rfl ?_
        refine rn_callSi (as := [.int x3, .int 0, .int 1]) (st := []) dX9_cut_24 mf_X9_isIn lk_X9_420 sm_X9_isIn rfl (Nat.le_of_ble_eq_true rfl) (Nat.le_of_ble_eq_true rfl) rfl (RI.mono h (fun r6 M5 h => ?_))
        refine rn_if_eq (tgt := 39) dX9_cut_27 (by decide) (ite_go h (fun hc h => ?_) (fun hc h => ?_))
        · refine rn_iconst (v := -1) dX9_cut_39 rfl ?_
          exact rn_iret dX9_cut_40 rfl ⟨_, rfl, h⟩
        · refine rn_aload_n (i := 0) (x := 58) dX9_cut_30 rfl (by simp) ?_
          refine rn_iload_n (i := 1) (x := x1) dX9_cut_31 rfl (by simp) ?_
          refine rn_iload_n (i := 2) (x := x2) dX9_cut_32 rfl (by simp) ?_
          refine rn_callVi (as := [.int x1, .int x2]) (st := []) dX9_cut_33 mf_X9_doBorder lk_X9_307 im_X9_doBorder rfl rfl rfl rfl (Nat.le_of_ble_eq_true rfl) (Nat.le_of_ble_eq_true rfl) rfl (RI.mono h (fun r8 M7 h => ?_))
          refine rn_if_eq (tgt := 41) dX9_cut_36 (by decide) (ite_go h (fun hc h => ?_) (fun hc h => ?_))
          · refine rn_aload_n (i := 0) (x := 58) dX9_cut_41 rfl (by simp) ?_
            refine rn_getr (t := 69) dX9_cut_42 rfl gf_X9_45 rfl rfl ?_
            refine rn_bipush (v := 13) dX9_cut_45 rfl ?_
            refine rn_iaload dX9_cut_47 rfl (by unfold vp_in; decide) ?_
            refine rn_iconst (v := 1) dX9_cut_48 rfl ?_
            refine rn_iload_n (i := 1) (x := x1) dX9_cut_49 rfl (by simp) ?_
            refine rn_ishl dX9_cut_50 ?_
            refine rn_iconst (v := 1) dX9_cut_51 rfl ?_
            refine rn_iload_n (i := 2) (x := x2) dX9_cut_52 rfl (by simp) ?_
            refine rn_ishl dX9_cut_53 ?_
            refine rn_ior dX9_cut_54 ?_
            refine rn_iconst (v := -1) dX9_cut_55 rfl ?_
            refine rn_ixor dX9_cut_56 ?_
            refine rn_iand dX9_cut_57 ?_
            refine rn_istore (lv' := [(0, .ref 58), (1, .int x1), (2, .int x2), (3, .int x3), (4, .int ((ri M7 69 (nx 13)) &&& ((((1 : Int32) <<< (x1 &&& 31)) ||| ((1 : Int32) <<< (x2 &&& 31))) ^^^ ((-1)))))]) (hd := dX9_cut_58) (hn := by decide) (hf := rfl) (hl := rfl) ?_
            refine rn_iload (x := (ri M7 69 (nx 13)) &&& ((((1 : Int32) <<< (x1 &&& 31)) ||| ((1 : Int32) <<< (x2 &&& 31))) ^^^ ((-1)))) dX9_cut_60 (by simp) ?_
            refine rn_istore (lv' := [(0, .ref 58), (1, .int x1), (2, .int x2), (3, .int x3), (4, .int ((ri M7 69 (nx 13)) &&& ((((1 : Int32) <<< (x1 &&& 31)) ||| ((1 : Int32) <<< (x2 &&& 31))) ^^^ ((-1))))), (5, .int ((ri M7 69 (nx 13)) &&& ((((1 : Int32) <<< (x1 &&& 31)) ||| ((1 : Int32) <<< (x2 &&& 31))) ^^^ ((-1)))))]) (hd := dX9_cut_62) (hn := by decide) (hf := rfl) (hl := rfl) ?_
            refine rn_iload (x := (ri M7 69 (nx 13)) &&& ((((1 : Int32) <<< (x1 &&& 31)) ||| ((1 : Int32) <<< (x2 &&& 31))) ^^^ ((-1)))) dX9_cut_64 (by simp) ?_
            refine rn_istore (lv' := [(0, .ref 58), (1, .int x1), (2, .int x2), (3, .int x3), (4, .int ((ri M7 69 (nx 13)) &&& ((((1 : Int32) <<< (x1 &&& 31)) ||| ((1 : Int32) <<< (x2 &&& 31))) ^^^ ((-1))))), (5, .int ((ri M7 69 (nx 13)) &&& ((((1 : Int32) <<< (x1 &&& 31)) ||| ((1 : Int32) <<< (x2 &&& 31))) ^^^ ((-1))))), (6, .int ((ri M7 69 (nx 13)) &&& ((((1 : Int32) <<< (x1 &&& 31)) ||| ((1 : Int32) <<< (x2 &&& 31))) ^^^ ((-1)))))]) (hd := dX9_cut_66) (hn := by decide) (hf := rfl) (hl := rfl) ?_
            exact h
          · refine rn_iconst (v := -1) dX9_cut_39 rfl ?_
            exact rn_iret dX9_cut_40 rfl ⟨_, rfl, h⟩
set_option maxRecDepth 20000 in
theorem sg_X9_cut_68 {d : Nat} {x1 : Int32} {x2 : Int32} {x3 : Int32} {x4 : Int32} {x5 : Int32} {x6 : Int32} {M : Mem} {K : (Int32 → Mem → Prop)}  (h : (if x6 < 0 then (if x3 = 0 then (CI d μX9_members [.int x5] M (fun r2 M1 => K r2 M1)) else K x5 M) else (if x6 &&& (x4 ^^^ ((-1))) = 0 then (CI d μX9_members [.int x6] M (fun r4 M3 => (CI d μX9_members [.int x5] M3 (fun r6 M5 => (if r6 < r4 then RI (d + 1) μX9_cut 68 [(0, .ref 58), (1, .int x1), (2, .int x2), (3, .int x3), (4, .int x4), (5, .int x5), (6, .int (x6 + (-1)))] [] M5 K else (CI d μX9_reach [.ref 58, .int x1, .int x6, .int 8] M5 (fun r8 M7 => (if (r8 >>> (x2 &&& 31)) &&& 1 = 0 then RI (d + 1) μX9_cut 68 [(0, .ref 58), (1, .int x1), (2, .int x2), (3, .int x3), (4, .int x4), (5, .int x6), (6, .int (x6 + (-1)))] [] M7 K else RI (d + 1) μX9_cut 68 [(0, .ref 58), (1, .int x1), (2, .int x2), (3, .int x3), (4, .int x4), (5, .int x5), (6, .int (x6 + (-1)))] [] M7 K)))))))) else RI (d + 1) μX9_cut 68 [(0, .ref 58), (1, .int x1), (2, .int x2), (3, .int x3), (4, .int x4), (5, .int x5), (6, .int (x6 + (-1)))] [] M K))) : RI (d + 1) μX9_cut 68 [(0, .ref 58), (1, .int x1), (2, .int x2), (3, .int x3), (4, .int x4), (5, .int x5), (6, .int x6)] [] M K := by
  show Rn (d + 1) μX9_cut 68 [(0, .ref 58), (1, .int x1), (2, .int x2), (3, .int x3), (4, .int x4), (5, .int x5), (6, .int x6)] [] M _
  refine rn_iload (x := x6) dX9_cut_68 (by simp) ?_
  refine rn_if_lt (tgt := 122) dX9_cut_70 (by decide) (ite_go h (fun hc h => ?_) (fun hc h => ?_))
  · refine rn_iload_n (i := 3) (x := x3) dX9_cut_122 rfl (by simp) ?_
    refine rn_if_ne (tgt := 134) dX9_cut_123 (by decide) (ite_go h (fun hc h => ?_) (fun hc h => ?_))
    · refine rn_iload (x := x5) dX9_cut_126 (by simp) ?_
      refine rn_callSi (as := [.int x5]) (st := []) dX9_cut_128 mf_X9_members lk_X9_274 sm_X9_members rfl (Nat.le_of_ble_eq_true rfl) (Nat.le_of_ble_eq_true rfl) rfl (RI.mono h (fun r2 M1 h => ?_))
      refine rn_goto (tgt := 136) dX9_cut_131 (by decide) ?_
      exact rn_iret dX9_cut_136 rfl ⟨_, rfl, h⟩
    · refine rn_iload (x := x5) dX9_cut_134 (by simp) ?_
      exact rn_iret dX9_cut_136 rfl ⟨_, rfl, h⟩
  · refine rn_iload (x := x6) dX9_cut_73 (by simp) ?_
    refine rn_iload (x := x4) dX9_cut_75 (by simp) ?_
    refine rn_iconst (v := -1) dX9_cut_77 rfl ?_
    refine rn_ixor dX9_cut_78 ?_
    refine rn_iand dX9_cut_79 ?_
    refine rn_if_ne (tgt := 116) dX9_cut_80 (by decide) (ite_go h (fun hc h => ?_) (fun hc h => ?_))
    · refine rn_iload (x := x6) dX9_cut_83 (by simp) ?_
      refine rn_callSi (as := [.int x6]) (st := []) dX9_cut_85 mf_X9_members lk_X9_274 sm_X9_members rfl (Nat.le_of_ble_eq_true rfl) (Nat.le_of_ble_eq_true rfl) rfl (RI.mono h (fun r4 M3 h => ?_))
      refine rn_iload (x := x5) dX9_cut_88 (by simp) ?_
      refine rn_callSi (as := [.int x5]) (st := [.int r4]) dX9_cut_90 mf_X9_members lk_X9_274 sm_X9_members rfl (Nat.le_of_ble_eq_true rfl) (Nat.le_of_ble_eq_true rfl) rfl (RI.mono h (fun r6 M5 h => ?_))
      refine rn_icmp_gt (tgt := 116) dX9_cut_93 (by decide) (ite_go h (fun hc h => ?_) (fun hc h => ?_))
      · refine rn_iinc (x := x6) (v := x6 + (-1)) (lv' := [(0, .ref 58), (1, .int x1), (2, .int x2), (3, .int x3), (4, .int x4), (5, .int x5), (6, .int (x6 + (-1)))]) dX9_cut_116 (by simp) rfl (by decide) rfl rfl ?_
        refine rn_goto (tgt := 68) dX9_cut_119 (by decide) ?_
        exact h
      · refine rn_aload_n (i := 0) (x := 58) dX9_cut_96 rfl (by simp) ?_
        refine rn_iload_n (i := 1) (x := x1) dX9_cut_97 rfl (by simp) ?_
        refine rn_iload (x := x6) dX9_cut_98 (by simp) ?_
        refine rn_bipush (v := 8) dX9_cut_100 rfl ?_
        refine rn_callVi (as := [.int x1, .int x6, .int 8]) (st := []) dX9_cut_102 mf_X9_reach lk_X9_453 im_X9_reach rfl rfl rfl rfl (Nat.le_of_ble_eq_true rfl) (Nat.le_of_ble_eq_true rfl) rfl (RI.mono h (fun r8 M7 h => ?_))
        refine rn_iload_n (i := 2) (x := x2) dX9_cut_105 rfl (by simp) ?_
        refine rn_ishr dX9_cut_106 ?_
        refine rn_iconst (v := 1) dX9_cut_107 rfl ?_
        refine rn_iand dX9_cut_108 ?_
        refine rn_if_ne (tgt := 116) dX9_cut_109 (by decide) (ite_go h (fun hc h => ?_) (fun hc h => ?_))
        · refine rn_iload (x := x6) dX9_cut_112 (by simp) ?_
          refine rn_istore (lv' := [(0, .ref 58), (1, .int x1), (2, .int x2), (3, .int x3), (4, .int x4), (5, .int x6), (6, .int x6)]) (hd := dX9_cut_114) (hn := by decide) (hf := rfl) (hl := rfl) ?_
          refine rn_iinc (x := x6) (v := x6 + (-1)) (lv' := [(0, .ref 58), (1, .int x1), (2, .int x2), (3, .int x3), (4, .int x4), (5, .int x6), (6, .int (x6 + (-1)))]) dX9_cut_116 (by simp) rfl (by decide) rfl rfl ?_
          refine rn_goto (tgt := 68) dX9_cut_119 (by decide) ?_
          exact h
        · refine rn_iinc (x := x6) (v := x6 + (-1)) (lv' := [(0, .ref 58), (1, .int x1), (2, .int x2), (3, .int x3), (4, .int x4), (5, .int x5), (6, .int (x6 + (-1)))]) dX9_cut_116 (by simp) rfl (by decide) rfl rfl ?_
          refine rn_goto (tgt := 68) dX9_cut_119 (by decide) ?_
          exact h
    · refine rn_iinc (x := x6) (v := x6 + (-1)) (lv' := [(0, .ref 58), (1, .int x1), (2, .int x2), (3, .int x3), (4, .int x4), (5, .int x5), (6, .int (x6 + (-1)))]) dX9_cut_116 (by simp) rfl (by decide) rfl rfl ?_
      refine rn_goto (tgt := 68) dX9_cut_119 (by decide) ?_
      exact h
theorem dX9_layNexts_0 : decode μX9_layNexts.2.1 0 = .ok (.iconst 0, 1) := by decide +kernel
theorem dX9_layNexts_1 : decode μX9_layNexts.2.1 1 = .ok (.istore_n 1, 1) := by decide +kernel
theorem dX9_layNexts_2 : decode μX9_layNexts.2.1 2 = .ok (.iload_n 1, 1) := by decide +kernel
theorem dX9_layNexts_3 : decode μX9_layNexts.2.1 3 = .ok (.aload_n 0, 1) := by decide +kernel
theorem dX9_layNexts_4 : decode μX9_layNexts.2.1 4 = .ok (.getfield 326, 3) := by decide +kernel
theorem dX9_layNexts_7 : decode μX9_layNexts.2.1 7 = .ok (.if_icmp .ge 20, 3) := by decide +kernel
theorem dX9_layNexts_10 : decode μX9_layNexts.2.1 10 = .ok (.aload_n 0, 1) := by decide +kernel
theorem dX9_layNexts_11 : decode μX9_layNexts.2.1 11 = .ok (.getfield 63, 3) := by decide +kernel
theorem dX9_layNexts_14 : decode μX9_layNexts.2.1 14 = .ok (.iload_n 1, 1) := by decide +kernel
theorem dX9_layNexts_15 : decode μX9_layNexts.2.1 15 = .ok (.aload_n 0, 1) := by decide +kernel
theorem dX9_layNexts_16 : decode μX9_layNexts.2.1 16 = .ok (.iload_n 1, 1) := by decide +kernel
theorem dX9_layNexts_17 : decode μX9_layNexts.2.1 17 = .ok (.invokevirtual 268, 3) := by decide +kernel
theorem dX9_layNexts_20 : decode μX9_layNexts.2.1 20 = .ok (.iastore, 1) := by decide +kernel
theorem dX9_layNexts_21 : decode μX9_layNexts.2.1 21 = .ok (.iinc 1 1, 3) := by decide +kernel
theorem dX9_layNexts_24 : decode μX9_layNexts.2.1 24 = .ok (.goto (-22), 3) := by decide +kernel
theorem dX9_layNexts_27 : decode μX9_layNexts.2.1 27 = .ok (.return_, 1) := by decide +kernel
set_option maxRecDepth 20000 in
theorem sg_X9_layNexts_0 {d : Nat}  {M : Mem} {K : (Mem → Prop)}  (h : RV (d + 1) μX9_layNexts 2 [(0, .ref 58), (1, .int 0)] [] M K) : CV (d + 1) μX9_layNexts [.ref 58] M K := by
  show Rn (d + 1) μX9_layNexts 0 [(0, .ref 58)] [] M _
  refine rn_iconst (v := 0) dX9_layNexts_0 rfl ?_
  refine rn_istore_n (lv' := [(0, .ref 58), (1, .int 0)]) (hd := dX9_layNexts_1) (i := 1) (hi := rfl) (hn := by decide) (hf := rfl) (hl := rfl) ?_
  exact h
set_option maxRecDepth 20000 in
theorem sg_X9_layNexts_2 {d : Nat} {x1 : Int32} {M : Mem} {K : (Mem → Prop)}  (h : (if ri M 58 35 ≤ x1 then K M else (CI d μX9_bordersOf [.ref 58, .int x1] M (fun r2 M1 => (vp_in x1 8 ∧ ∀ M3, M3 = wi M1 75 (nx x1) r2 → RV (d + 1) μX9_layNexts 2 [(0, .ref 58), (1, .int (x1 + 1))] [] M3 K))))) : RV (d + 1) μX9_layNexts 2 [(0, .ref 58), (1, .int x1)] [] M K := by
  show Rn (d + 1) μX9_layNexts 2 [(0, .ref 58), (1, .int x1)] [] M _
  refine rn_iload_n (i := 1) (x := x1) dX9_layNexts_2 rfl (by simp) ?_
  refine rn_aload_n (i := 0) (x := 58) dX9_layNexts_3 rfl (by simp) ?_
  refine rn_geti dX9_layNexts_4 rfl gf_X9_326 (by decide) ?_
  refine rn_icmp_ge (tgt := 27) dX9_layNexts_7 (by decide) (ite_go h (fun hc h => ?_) (fun hc h => ?_))
  · exact rn_ret dX9_layNexts_27 rfl ⟨rfl, h⟩
  · refine rn_aload_n (i := 0) (x := 58) dX9_layNexts_10 rfl (by simp) ?_
    refine rn_getr (t := 75) dX9_layNexts_11 rfl gf_X9_63 rfl rfl ?_
    refine rn_iload_n (i := 1) (x := x1) dX9_layNexts_14 rfl (by simp) ?_
    refine rn_aload_n (i := 0) (x := 58) dX9_layNexts_15 rfl (by simp) ?_
    refine rn_iload_n (i := 1) (x := x1) dX9_layNexts_16 rfl (by simp) ?_
    refine rn_callVi (as := [.int x1]) (st := [.int x1, .ref 75]) dX9_layNexts_17 mf_X9_bordersOf lk_X9_268 im_X9_bordersOf rfl rfl rfl rfl (Nat.le_of_ble_eq_true rfl) (Nat.le_of_ble_eq_true rfl) rfl (RI.mono h (fun r2 M1 h => ?_))
    obtain ⟨hi, h⟩ := h
    have h := h _ rfl
    refine rn_iastore dX9_layNexts_20 rfl hi ?_
    generalize wi M1 75 (nx x1) r2 = M3 at h ⊢
    refine rn_iinc (x := x1) (v := x1 + 1) (lv' := [(0, .ref 58), (1, .int (x1 + 1))]) dX9_layNexts_21 (by simp) rfl (by decide) rfl rfl ?_
    refine rn_goto (tgt := 2) dX9_layNexts_24 (by decide) ?_
    exact h
