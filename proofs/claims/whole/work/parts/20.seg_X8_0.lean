theorem dX8_feed_0 : decode μX8_feed.2.1 0 = .ok (.aload_n 0, 1) := by decide +kernel
theorem dX8_feed_1 : decode μX8_feed.2.1 1 = .ok (.getfield 10, 3) := by decide +kernel
theorem dX8_feed_4 : decode μX8_feed.2.1 4 = .ok (.getfield 78, 3) := by decide +kernel
theorem dX8_feed_7 : decode μX8_feed.2.1 7 = .ok (.bipush 20, 2) := by decide +kernel
theorem dX8_feed_9 : decode μX8_feed.2.1 9 = .ok (.iadd, 1) := by decide +kernel
theorem dX8_feed_10 : decode μX8_feed.2.1 10 = .ok (.sipush 1600, 3) := by decide +kernel
theorem dX8_feed_13 : decode μX8_feed.2.1 13 = .ok (.if_icmp .le 5, 3) := by decide +kernel
theorem dX8_feed_16 : decode μX8_feed.2.1 16 = .ok (.iconst (-1), 1) := by decide +kernel
theorem dX8_feed_17 : decode μX8_feed.2.1 17 = .ok (.ireturn, 1) := by decide +kernel
theorem dX8_feed_18 : decode μX8_feed.2.1 18 = .ok (.aload_n 0, 1) := by decide +kernel
theorem dX8_feed_19 : decode μX8_feed.2.1 19 = .ok (.getfield 10, 3) := by decide +kernel
theorem dX8_feed_22 : decode μX8_feed.2.1 22 = .ok (.iload_n 1, 1) := by decide +kernel
theorem dX8_feed_23 : decode μX8_feed.2.1 23 = .ok (.invokevirtual 81, 3) := by decide +kernel
theorem dX8_feed_26 : decode μX8_feed.2.1 26 = .ok (.aload_n 0, 1) := by decide +kernel
theorem dX8_feed_27 : decode μX8_feed.2.1 27 = .ok (.getfield 10, 3) := by decide +kernel
theorem dX8_feed_30 : decode μX8_feed.2.1 30 = .ok (.iload_n 2, 1) := by decide +kernel
theorem dX8_feed_31 : decode μX8_feed.2.1 31 = .ok (.invokevirtual 81, 3) := by decide +kernel
theorem dX8_feed_34 : decode μX8_feed.2.1 34 = .ok (.aload_n 0, 1) := by decide +kernel
theorem dX8_feed_35 : decode μX8_feed.2.1 35 = .ok (.getfield 10, 3) := by decide +kernel
theorem dX8_feed_38 : decode μX8_feed.2.1 38 = .ok (.iload_n 3, 1) := by decide +kernel
theorem dX8_feed_39 : decode μX8_feed.2.1 39 = .ok (.invokevirtual 81, 3) := by decide +kernel
theorem dX8_feed_42 : decode μX8_feed.2.1 42 = .ok (.aload_n 0, 1) := by decide +kernel
theorem dX8_feed_43 : decode μX8_feed.2.1 43 = .ok (.getfield 10, 3) := by decide +kernel
theorem dX8_feed_46 : decode μX8_feed.2.1 46 = .ok (.iload 4, 2) := by decide +kernel
theorem dX8_feed_48 : decode μX8_feed.2.1 48 = .ok (.invokevirtual 81, 3) := by decide +kernel
theorem dX8_feed_51 : decode μX8_feed.2.1 51 = .ok (.aload_n 0, 1) := by decide +kernel
theorem dX8_feed_52 : decode μX8_feed.2.1 52 = .ok (.getfield 10, 3) := by decide +kernel
theorem dX8_feed_55 : decode μX8_feed.2.1 55 = .ok (.iload 5, 2) := by decide +kernel
theorem dX8_feed_57 : decode μX8_feed.2.1 57 = .ok (.invokevirtual 81, 3) := by decide +kernel
theorem dX8_feed_60 : decode μX8_feed.2.1 60 = .ok (.aload_n 0, 1) := by decide +kernel
theorem dX8_feed_61 : decode μX8_feed.2.1 61 = .ok (.getfield 10, 3) := by decide +kernel
theorem dX8_feed_64 : decode μX8_feed.2.1 64 = .ok (.getfield 78, 3) := by decide +kernel
theorem dX8_feed_67 : decode μX8_feed.2.1 67 = .ok (.ireturn, 1) := by decide +kernel
set_option maxRecDepth 20000 in
theorem sg_X8_feed_0 {d : Nat} {x1 : Int32} {x2 : Int32} {x3 : Int32} {x4 : Int32} {x5 : Int32} {M : Mem} {K : (Int32 → Mem → Prop)}  (h : (if (ri M 1 2) + 20 ≤ 1600 then (CV d μX6_putBytes [.ref 1, .int x1] M (fun M1 => (CV d μX6_putBytes [.ref 1, .int x2] M1 (fun M2 => (CV d μX6_putBytes [.ref 1, .int x3] M2 (fun M3 => (CV d μX6_putBytes [.ref 1, .int x4] M3 (fun M4 => (CV d μX6_putBytes [.ref 1, .int x5] M4 (fun M5 => K (ri M5 1 2) M5)))))))))) else K ((-1)) M)) : CI (d + 1) μX8_feed [.ref 0, .int x1, .int x2, .int x3, .int x4, .int x5] M K := by
  show Rn (d + 1) μX8_feed 0 [(0, .ref 0), (1, .int x1), (2, .int x2), (3, .int x3), (4, .int x4), (5, .int x5)] [] M _
  refine rn_aload_n (i := 0) (x := 0) dX8_feed_0 rfl (by simp) ?_
  refine rn_getr (t := 1) dX8_feed_1 rfl gf_X8_10 rfl rfl ?_
  refine rn_geti dX8_feed_4 rfl gf_X8_78 (by decide) ?_
  refine rn_bipush (v := 20) dX8_feed_7 rfl ?_
  refine rn_iadd dX8_feed_9 ?_
  refine rn_sipush (v := 1600) dX8_feed_10 rfl ?_
  refine rn_icmp_le (tgt := 18) dX8_feed_13 (by decide) (ite_go h (fun hc h => ?_) (fun hc h => ?_))
  · refine rn_aload_n (i := 0) (x := 0) dX8_feed_18 rfl (by simp) ?_
    refine rn_getr (t := 1) dX8_feed_19 rfl gf_X8_10 rfl rfl ?_
    refine rn_iload_n (i := 1) (x := x1) dX8_feed_22 rfl (by simp) ?_
    refine rn_callVv (as := [.int x1]) (st := []) dX8_feed_23 mf_X6_putBytes lk_X8_81 im_X6_putBytes rfl rfl rfl rfl (Nat.le_of_ble_eq_true rfl) (Nat.le_of_ble_eq_true rfl) rfl (RV.mono h (fun M1 h => ?_))
    refine rn_aload_n (i := 0) (x := 0) dX8_feed_26 rfl (by simp) ?_
    refine rn_getr (t := 1) dX8_feed_27 rfl gf_X8_10 rfl rfl ?_
    refine rn_iload_n (i := 2) (x := x2) dX8_feed_30 rfl (by simp) ?_
    refine rn_callVv (as := [.int x2]) (st := []) dX8_feed_31 mf_X6_putBytes lk_X8_81 im_X6_putBytes rfl rfl rfl rfl (Nat.le_of_ble_eq_true rfl) (Nat.le_of_ble_eq_true rfl) rfl (RV.mono h (fun M2 h => ?_))
    refine rn_aload_n (i := 0) (x := 0) dX8_feed_34 rfl (by simp) ?_
    refine rn_getr (t := 1) dX8_feed_35 rfl gf_X8_10 rfl rfl ?_
    refine rn_iload_n (i := 3) (x := x3) dX8_feed_38 rfl (by simp) ?_
    refine rn_callVv (as := [.int x3]) (st := []) dX8_feed_39 mf_X6_putBytes lk_X8_81 im_X6_putBytes rfl rfl rfl rfl (Nat.le_of_ble_eq_true rfl) (Nat.le_of_ble_eq_true rfl) rfl (RV.mono h (fun M3 h => ?_))
    refine rn_aload_n (i := 0) (x := 0) dX8_feed_42 rfl (by simp) ?_
    refine rn_getr (t := 1) dX8_feed_43 rfl gf_X8_10 rfl rfl ?_
    refine rn_iload (x := x4) dX8_feed_46 (by simp) ?_
    refine rn_callVv (as := [.int x4]) (st := []) dX8_feed_48 mf_X6_putBytes lk_X8_81 im_X6_putBytes rfl rfl rfl rfl (Nat.le_of_ble_eq_true rfl) (Nat.le_of_ble_eq_true rfl) rfl (RV.mono h (fun M4 h => ?_))
    refine rn_aload_n (i := 0) (x := 0) dX8_feed_51 rfl (by simp) ?_
    refine rn_getr (t := 1) dX8_feed_52 rfl gf_X8_10 rfl rfl ?_
    refine rn_iload (x := x5) dX8_feed_55 (by simp) ?_
    refine rn_callVv (as := [.int x5]) (st := []) dX8_feed_57 mf_X6_putBytes lk_X8_81 im_X6_putBytes rfl rfl rfl rfl (Nat.le_of_ble_eq_true rfl) (Nat.le_of_ble_eq_true rfl) rfl (RV.mono h (fun M5 h => ?_))
    refine rn_aload_n (i := 0) (x := 0) dX8_feed_60 rfl (by simp) ?_
    refine rn_getr (t := 1) dX8_feed_61 rfl gf_X8_10 rfl rfl ?_
    refine rn_geti dX8_feed_64 rfl gf_X8_78 (by decide) ?_
    exact rn_iret dX8_feed_67 rfl ⟨_, rfl, h⟩
  · refine rn_iconst (v := -1) dX8_feed_16 rfl ?_
    exact rn_iret dX8_feed_17 rfl ⟨_, rfl, h⟩
theorem dX8_end_0 : decode μX8_end.2.1 0 = .ok (.iload_n 1, 1) := by decide +kernel
theorem dX8_end_1 : decode μX8_end.2.1 1 = .ok (.ifCond .lt 14, 3) := by decide +kernel
theorem dX8_end_4 : decode μX8_end.2.1 4 = .ok (.iload_n 1, 1) := by decide +kernel
theorem dX8_end_5 : decode μX8_end.2.1 5 = .ok (.aload_n 0, 1) := by decide +kernel
theorem dX8_end_6 : decode μX8_end.2.1 6 = .ok (.getfield 10, 3) := by decide +kernel
theorem dX8_end_9 : decode μX8_end.2.1 9 = .ok (.getfield 78, 3) := by decide +kernel
theorem dX8_end_12 : decode μX8_end.2.1 12 = .ok (.if_icmp .le 5, 3) := by decide +kernel
theorem dX8_end_15 : decode μX8_end.2.1 15 = .ok (.iconst (-1), 1) := by decide +kernel
theorem dX8_end_16 : decode μX8_end.2.1 16 = .ok (.ireturn, 1) := by decide +kernel
theorem dX8_end_17 : decode μX8_end.2.1 17 = .ok (.aload_n 0, 1) := by decide +kernel
theorem dX8_end_18 : decode μX8_end.2.1 18 = .ok (.getfield 10, 3) := by decide +kernel
theorem dX8_end_21 : decode μX8_end.2.1 21 = .ok (.iload_n 1, 1) := by decide +kernel
theorem dX8_end_22 : decode μX8_end.2.1 22 = .ok (.putfield 78, 3) := by decide +kernel
theorem dX8_end_25 : decode μX8_end.2.1 25 = .ok (.iload_n 1, 1) := by decide +kernel
theorem dX8_end_26 : decode μX8_end.2.1 26 = .ok (.ireturn, 1) := by decide +kernel
set_option maxRecDepth 20000 in
theorem sg_X8_end_0 {d : Nat} {x1 : Int32} {M : Mem} {K : (Int32 → Mem → Prop)}  (h : (if x1 < 0 then K ((-1)) M else (if x1 ≤ ri M 1 2 then (∀ M1, M1 = wi M 1 2 x1 → K x1 M1) else K ((-1)) M))) : CI d μX8_end [.ref 0, .int x1] M K := by
  show Rn d μX8_end 0 [(0, .ref 0), (1, .int x1)] [] M _
  refine rn_iload_n (i := 1) (x := x1) dX8_end_0 rfl (by simp) ?_
  refine rn_if_lt (tgt := 15) dX8_end_1 (by decide) (ite_go h (fun hc h => ?_) (fun hc h => ?_))
  · refine rn_iconst (v := -1) dX8_end_15 rfl ?_
    exact rn_iret dX8_end_16 rfl ⟨_, rfl, h⟩
  · refine rn_iload_n (i := 1) (x := x1) dX8_end_4 rfl (by simp) ?_
    refine rn_aload_n (i := 0) (x := 0) dX8_end_5 rfl (by simp) ?_
    refine rn_getr (t := 1) dX8_end_6 rfl gf_X8_10 rfl rfl ?_
    refine rn_geti dX8_end_9 rfl gf_X8_78 (by decide) ?_
    refine rn_icmp_le (tgt := 17) dX8_end_12 (by decide) (ite_go h (fun hc h => ?_) (fun hc h => ?_))
    · refine rn_aload_n (i := 0) (x := 0) dX8_end_17 rfl (by simp) ?_
      refine rn_getr (t := 1) dX8_end_18 rfl gf_X8_10 rfl rfl ?_
      refine rn_iload_n (i := 1) (x := x1) dX8_end_21 rfl (by simp) ?_
      have h := h _ rfl
      refine rn_puti dX8_end_22 rfl pf_X8_78 (by decide) rfl rfl ?_
      generalize wi M 1 2 x1 = M1 at h ⊢
      refine rn_iload_n (i := 1) (x := x1) dX8_end_25 rfl (by simp) ?_
      exact rn_iret dX8_end_26 rfl ⟨_, rfl, h⟩
    · refine rn_iconst (v := -1) dX8_end_15 rfl ?_
      exact rn_iret dX8_end_16 rfl ⟨_, rfl, h⟩
theorem dX8_shire_0 : decode μX8_shire.2.1 0 = .ok (.aload_n 0, 1) := by decide +kernel
theorem dX8_shire_1 : decode μX8_shire.2.1 1 = .ok (.getfield 10, 3) := by decide +kernel
theorem dX8_shire_4 : decode μX8_shire.2.1 4 = .ok (.invokevirtual 85, 3) := by decide +kernel
theorem dX8_shire_7 : decode μX8_shire.2.1 7 = .ok (.aload_n 0, 1) := by decide +kernel
theorem dX8_shire_8 : decode μX8_shire.2.1 8 = .ok (.getfield 10, 3) := by decide +kernel
theorem dX8_shire_11 : decode μX8_shire.2.1 11 = .ok (.iconst 0, 1) := by decide +kernel
theorem dX8_shire_12 : decode μX8_shire.2.1 12 = .ok (.putfield 78, 3) := by decide +kernel
theorem dX8_shire_15 : decode μX8_shire.2.1 15 = .ok (.aload_n 0, 1) := by decide +kernel
theorem dX8_shire_16 : decode μX8_shire.2.1 16 = .ok (.getfield 10, 3) := by decide +kernel
theorem dX8_shire_19 : decode μX8_shire.2.1 19 = .ok (.getfield 88, 3) := by decide +kernel
theorem dX8_shire_22 : decode μX8_shire.2.1 22 = .ok (.ifCond .eq 5, 3) := by decide +kernel
theorem dX8_shire_25 : decode μX8_shire.2.1 25 = .ok (.iconst (-1), 1) := by decide +kernel
theorem dX8_shire_26 : decode μX8_shire.2.1 26 = .ok (.ireturn, 1) := by decide +kernel
theorem dX8_shire_27 : decode μX8_shire.2.1 27 = .ok (.aload_n 0, 1) := by decide +kernel
theorem dX8_shire_28 : decode μX8_shire.2.1 28 = .ok (.getfield 19, 3) := by decide +kernel
theorem dX8_shire_31 : decode μX8_shire.2.1 31 = .ok (.astore_n 1, 1) := by decide +kernel
theorem dX8_shire_32 : decode μX8_shire.2.1 32 = .ok (.aload_n 0, 1) := by decide +kernel
theorem dX8_shire_33 : decode μX8_shire.2.1 33 = .ok (.aload_n 0, 1) := by decide +kernel
theorem dX8_shire_34 : decode μX8_shire.2.1 34 = .ok (.getfield 10, 3) := by decide +kernel
theorem dX8_shire_37 : decode μX8_shire.2.1 37 = .ok (.getfield 91, 3) := by decide +kernel
theorem dX8_shire_40 : decode μX8_shire.2.1 40 = .ok (.putfield 19, 3) := by decide +kernel
theorem dX8_shire_43 : decode μX8_shire.2.1 43 = .ok (.aload_n 0, 1) := by decide +kernel
theorem dX8_shire_44 : decode μX8_shire.2.1 44 = .ok (.getfield 10, 3) := by decide +kernel
theorem dX8_shire_47 : decode μX8_shire.2.1 47 = .ok (.aload_n 1, 1) := by decide +kernel
theorem dX8_shire_48 : decode μX8_shire.2.1 48 = .ok (.putfield 91, 3) := by decide +kernel
theorem dX8_shire_51 : decode μX8_shire.2.1 51 = .ok (.aload_n 0, 1) := by decide +kernel
theorem dX8_shire_52 : decode μX8_shire.2.1 52 = .ok (.getfield 26, 3) := by decide +kernel
theorem dX8_shire_55 : decode μX8_shire.2.1 55 = .ok (.aload_n 0, 1) := by decide +kernel
theorem dX8_shire_56 : decode μX8_shire.2.1 56 = .ok (.getfield 19, 3) := by decide +kernel
theorem dX8_shire_59 : decode μX8_shire.2.1 59 = .ok (.getfield 94, 3) := by decide +kernel
theorem dX8_shire_62 : decode μX8_shire.2.1 62 = .ok (.invokevirtual 97, 3) := by decide +kernel
theorem dX8_shire_65 : decode μX8_shire.2.1 65 = .ok (.aload_n 0, 1) := by decide +kernel
theorem dX8_shire_66 : decode μX8_shire.2.1 66 = .ok (.getfield 36, 3) := by decide +kernel
theorem dX8_shire_69 : decode μX8_shire.2.1 69 = .ok (.aload_n 0, 1) := by decide +kernel
theorem dX8_shire_70 : decode μX8_shire.2.1 70 = .ok (.getfield 26, 3) := by decide +kernel
theorem dX8_shire_73 : decode μX8_shire.2.1 73 = .ok (.invokevirtual 101, 3) := by decide +kernel
theorem dX8_shire_76 : decode μX8_shire.2.1 76 = .ok (.aload_n 0, 1) := by decide +kernel
theorem dX8_shire_77 : decode μX8_shire.2.1 77 = .ok (.getfield 65, 3) := by decide +kernel
theorem dX8_shire_80 : decode μX8_shire.2.1 80 = .ok (.invokevirtual 104, 3) := by decide +kernel
theorem dX8_shire_83 : decode μX8_shire.2.1 83 = .ok (.aload_n 0, 1) := by decide +kernel
theorem dX8_shire_84 : decode μX8_shire.2.1 84 = .ok (.iconst 0, 1) := by decide +kernel
theorem dX8_shire_85 : decode μX8_shire.2.1 85 = .ok (.putfield 44, 3) := by decide +kernel
theorem dX8_shire_88 : decode μX8_shire.2.1 88 = .ok (.aload_n 0, 1) := by decide +kernel
theorem dX8_shire_89 : decode μX8_shire.2.1 89 = .ok (.iconst 0, 1) := by decide +kernel
theorem dX8_shire_90 : decode μX8_shire.2.1 90 = .ok (.putfield 75, 3) := by decide +kernel
theorem dX8_shire_93 : decode μX8_shire.2.1 93 = .ok (.aload_n 0, 1) := by decide +kernel
theorem dX8_shire_94 : decode μX8_shire.2.1 94 = .ok (.getfield 26, 3) := by decide +kernel
theorem dX8_shire_97 : decode μX8_shire.2.1 97 = .ok (.getfield 107, 3) := by decide +kernel
theorem dX8_shire_100 : decode μX8_shire.2.1 100 = .ok (.ireturn, 1) := by decide +kernel
set_option maxRecDepth 20000 in
theorem sg_X8_shire_0 {d : Nat}  {M : Mem} {K : (Int32 → Mem → Prop)}  (h : (CV d μX6_read [.ref 1] M (fun M1 => (∀ M2, M2 = wi M1 1 2 0 → (if ri M2 1 0 = 0 then (∃ t3, nx (ri M2 0 1) = t3 ∧ kd t3 = (0, 7) ∧ (∃ t4, nx (ri M2 1 3) = t4 ∧ kd t4 = (0, 7) ∧ (∃ xr : Int32, nx xr = t4 ∧ ∀ M5, M5 = wi M2 0 1 xr → (∃ xr : Int32, nx xr = t3 ∧ ∀ M6, M6 = wi M5 1 3 xr → (∃ t7, nx (ri M6 0 1) = t7 ∧ kd t7 = (0, 7) ∧ (CV d μX2_copyFrom [.ref 27, .ref (t7 + 1)] M6 (fun M8 => (CV d μX3_startFrom [.ref 39, .ref 27] M8 (fun M9 => (CV d μX4_forget [.ref 48] M9 (fun M10 => (∀ M11, M11 = wi M10 0 6 0 → (∀ M12, M12 = wi M11 0 12 0 → K (ri M12 27 0) M12))))))))))))) else K ((-1)) M2))))) : CI (d + 1) μX8_shire [.ref 0] M K := by
  show Rn (d + 1) μX8_shire 0 [(0, .ref 0)] [] M _
  refine rn_aload_n (i := 0) (x := 0) dX8_shire_0 rfl (by simp) ?_
  refine rn_getr (t := 1) dX8_shire_1 rfl gf_X8_10 rfl rfl ?_
  refine rn_callVv (as := []) (st := []) dX8_shire_4 mf_X6_read lk_X8_85 im_X6_read rfl rfl rfl rfl (Nat.le_of_ble_eq_true rfl) (Nat.le_of_ble_eq_true rfl) rfl (RV.mono h (fun M1 h => ?_))
  refine rn_aload_n (i := 0) (x := 0) dX8_shire_7 rfl (by simp) ?_
  refine rn_getr (t := 1) dX8_shire_8 rfl gf_X8_10 rfl rfl ?_
  refine rn_iconst (v := 0) dX8_shire_11 rfl ?_
  have h := h _ rfl
  refine rn_puti dX8_shire_12 rfl pf_X8_78 (by decide) rfl rfl ?_
  generalize wi M1 1 2 0 = M2 at h ⊢
  refine rn_aload_n (i := 0) (x := 0) dX8_shire_15 rfl (by simp) ?_
  refine rn_getr (t := 1) dX8_shire_16 rfl gf_X8_10 rfl rfl ?_
  refine rn_geti dX8_shire_19 rfl gf_X8_88 (by decide) ?_
  refine rn_if_eq (tgt := 27) dX8_shire_22 (by decide) (ite_go h (fun hc h => ?_) (fun hc h => ?_))
  · refine rn_aload_n (i := 0) (x := 0) dX8_shire_27 rfl (by simp) ?_
    obtain ⟨t3, ht3e, ht3, h⟩ := h
    refine rn_getd dX8_shire_28 rfl gf_X8_19 rfl ht3e ?_
    refine rn_astore_n (lv' := [(0, .ref 0), (1, .ref t3)]) (hd := dX8_shire_31) (i := 1) (hi := rfl) (hn := by decide) (hf := rfl) (hl := rfl) ?_
    refine rn_aload_n (i := 0) (x := 0) dX8_shire_32 rfl (by simp) ?_
    refine rn_aload_n (i := 0) (x := 0) dX8_shire_33 rfl (by simp) ?_
    refine rn_getr (t := 1) dX8_shire_34 rfl gf_X8_10 rfl rfl ?_
    obtain ⟨t4, ht4e, ht4, h⟩ := h
    refine rn_getd dX8_shire_37 rfl gf_X8_91 rfl ht4e ?_
    obtain ⟨xr, hxr, h⟩ := h
    have h := h _ rfl
    refine rn_putr dX8_shire_40 rfl pf_X8_19 rfl hxr (fun _ => rfl) (fun _ => rfl) ?_
    generalize wi M2 0 1 xr = M5 at h ⊢
    refine rn_aload_n (i := 0) (x := 0) dX8_shire_43 rfl (by simp) ?_
    refine rn_getr (t := 1) dX8_shire_44 rfl gf_X8_10 rfl rfl ?_
    refine rn_aload_n (i := 1) (x := t3) dX8_shire_47 rfl (by simp) ?_
    obtain ⟨xr, hxr, h⟩ := h
    have h := h _ rfl
    refine rn_putr dX8_shire_48 rfl pf_X8_91 rfl hxr (fun _ => rfl) (fun _ => rfl) ?_
    generalize wi M5 1 3 xr = M6 at h ⊢
    refine rn_aload_n (i := 0) (x := 0) dX8_shire_51 rfl (by simp) ?_
    refine rn_getr (t := 27) dX8_shire_52 rfl gf_X8_26 rfl rfl ?_
    refine rn_aload_n (i := 0) (x := 0) dX8_shire_55 rfl (by simp) ?_
    obtain ⟨t7, ht7e, ht7, h⟩ := h
    refine rn_getd dX8_shire_56 rfl gf_X8_19 rfl ht7e ?_
    refine rn_getr (t := t7 + 1) dX8_shire_59 ht7 gf_X8_94 rfl (telling_refs _ ht7).1.1 ?_
    refine rn_callVv (as := [.ref (t7 + 1)]) (st := []) dX8_shire_62 mf_X2_copyFrom lk_X8_97 im_X2_copyFrom rfl rfl rfl rfl (Nat.le_of_ble_eq_true rfl) (Nat.le_of_ble_eq_true rfl) rfl (RV.mono h (fun M8 h => ?_))
    refine rn_aload_n (i := 0) (x := 0) dX8_shire_65 rfl (by simp) ?_
    refine rn_getr (t := 39) dX8_shire_66 rfl gf_X8_36 rfl rfl ?_
    refine rn_aload_n (i := 0) (x := 0) dX8_shire_69 rfl (by simp) ?_
    refine rn_getr (t := 27) dX8_shire_70 rfl gf_X8_26 rfl rfl ?_
    refine rn_callVv (as := [.ref 27]) (st := []) dX8_shire_73 mf_X3_startFrom lk_X8_101 im_X3_startFrom rfl rfl rfl rfl (Nat.le_of_ble_eq_true rfl) (Nat.le_of_ble_eq_true rfl) rfl (RV.mono h (fun M9 h => ?_))
    refine rn_aload_n (i := 0) (x := 0) dX8_shire_76 rfl (by simp) ?_
    refine rn_getr (t := 48) dX8_shire_77 rfl gf_X8_65 rfl rfl ?_
    refine rn_callVv (as := []) (st := []) dX8_shire_80 mf_X4_forget lk_X8_104 im_X4_forget rfl rfl rfl rfl (Nat.le_of_ble_eq_true rfl) (Nat.le_of_ble_eq_true rfl) rfl (RV.mono h (fun M10 h => ?_))
    refine rn_aload_n (i := 0) (x := 0) dX8_shire_83 rfl (by simp) ?_
    refine rn_iconst (v := 0) dX8_shire_84 rfl ?_
    have h := h _ rfl
    refine rn_puti dX8_shire_85 rfl pf_X8_44 (by decide) rfl rfl ?_
    generalize wi M10 0 6 0 = M11 at h ⊢
    refine rn_aload_n (i := 0) (x := 0) dX8_shire_88 rfl (by simp) ?_
    refine rn_iconst (v := 0) dX8_shire_89 rfl ?_
    have h := h _ rfl
    refine rn_puti dX8_shire_90 rfl pf_X8_75 (by decide) rfl rfl ?_
    generalize wi M11 0 12 0 = M12 at h ⊢
    refine rn_aload_n (i := 0) (x := 0) dX8_shire_93 rfl (by simp) ?_
    refine rn_getr (t := 27) dX8_shire_94 rfl gf_X8_26 rfl rfl ?_
    refine rn_geti dX8_shire_97 rfl gf_X8_107 (by decide) ?_
    exact rn_iret dX8_shire_100 rfl ⟨_, rfl, h⟩
  · refine rn_iconst (v := -1) dX8_shire_25 rfl ?_
    exact rn_iret dX8_shire_26 rfl ⟨_, rfl, h⟩
theorem dX8_fault_0 : decode μX8_fault.2.1 0 = .ok (.iload_n 1, 1) := by decide +kernel
theorem dX8_fault_1 : decode μX8_fault.2.1 1 = .ok (.ifCond .ne 11, 3) := by decide +kernel
theorem dX8_fault_4 : decode μX8_fault.2.1 4 = .ok (.aload_n 0, 1) := by decide +kernel
theorem dX8_fault_5 : decode μX8_fault.2.1 5 = .ok (.getfield 10, 3) := by decide +kernel
theorem dX8_fault_8 : decode μX8_fault.2.1 8 = .ok (.getfield 88, 3) := by decide +kernel
theorem dX8_fault_11 : decode μX8_fault.2.1 11 = .ok (.ireturn, 1) := by decide +kernel
theorem dX8_fault_12 : decode μX8_fault.2.1 12 = .ok (.iload_n 1, 1) := by decide +kernel
theorem dX8_fault_13 : decode μX8_fault.2.1 13 = .ok (.iconst 1, 1) := by decide +kernel
theorem dX8_fault_14 : decode μX8_fault.2.1 14 = .ok (.if_icmp .ne 13, 3) := by decide +kernel
theorem dX8_fault_17 : decode μX8_fault.2.1 17 = .ok (.aload_n 0, 1) := by decide +kernel
theorem dX8_fault_18 : decode μX8_fault.2.1 18 = .ok (.getfield 10, 3) := by decide +kernel
theorem dX8_fault_21 : decode μX8_fault.2.1 21 = .ok (.getfield 110, 3) := by decide +kernel
theorem dX8_fault_24 : decode μX8_fault.2.1 24 = .ok (.goto 4, 3) := by decide +kernel
theorem dX8_fault_27 : decode μX8_fault.2.1 27 = .ok (.iconst (-1), 1) := by decide +kernel
theorem dX8_fault_28 : decode μX8_fault.2.1 28 = .ok (.ireturn, 1) := by decide +kernel
set_option maxRecDepth 20000 in
theorem sg_X8_fault_0 {d : Nat} {x1 : Int32} {M : Mem} {K : (Int32 → Mem → Prop)}  (h : (if x1 = 0 then K (ri M 1 0) M else (if x1 = 1 then K (ri M 1 1) M else K ((-1)) M))) : CI d μX8_fault [.ref 0, .int x1] M K := by
  show Rn d μX8_fault 0 [(0, .ref 0), (1, .int x1)] [] M _
  refine rn_iload_n (i := 1) (x := x1) dX8_fault_0 rfl (by simp) ?_
  refine rn_if_ne (tgt := 12) dX8_fault_1 (by decide) (ite_go h (fun hc h => ?_) (fun hc h => ?_))
  · refine rn_aload_n (i := 0) (x := 0) dX8_fault_4 rfl (by simp) ?_
    refine rn_getr (t := 1) dX8_fault_5 rfl gf_X8_10 rfl rfl ?_
    refine rn_geti dX8_fault_8 rfl gf_X8_88 (by decide) ?_
    exact rn_iret dX8_fault_11 rfl ⟨_, rfl, h⟩
  · refine rn_iload_n (i := 1) (x := x1) dX8_fault_12 rfl (by simp) ?_
    refine rn_iconst (v := 1) dX8_fault_13 rfl ?_
    refine rn_icmp_ne (tgt := 27) dX8_fault_14 (by decide) (ite_go h (fun hc h => ?_) (fun hc h => ?_))
    · refine rn_aload_n (i := 0) (x := 0) dX8_fault_17 rfl (by simp) ?_
      refine rn_getr (t := 1) dX8_fault_18 rfl gf_X8_10 rfl rfl ?_
      refine rn_geti dX8_fault_21 rfl gf_X8_110 (by decide) ?_
      refine rn_goto (tgt := 28) dX8_fault_24 (by decide) ?_
      exact rn_iret dX8_fault_28 rfl ⟨_, rfl, h⟩
    · refine rn_iconst (v := -1) dX8_fault_27 rfl ?_
      exact rn_iret dX8_fault_28 rfl ⟨_, rfl, h⟩
theorem dX8_lord_0 : decode μX8_lord.2.1 0 = .ok (.aload_n 0, 1) := by decide +kernel
theorem dX8_lord_1 : decode μX8_lord.2.1 1 = .ok (.getfield 26, 3) := by decide +kernel
theorem dX8_lord_4 : decode μX8_lord.2.1 4 = .ok (.iload_n 1, 1) := by decide +kernel
theorem dX8_lord_5 : decode μX8_lord.2.1 5 = .ok (.invokevirtual 113, 3) := by decide +kernel
theorem dX8_lord_8 : decode μX8_lord.2.1 8 = .ok (.ifCond .ne 6, 3) := by decide +kernel
theorem dX8_lord_11 : decode μX8_lord.2.1 11 = .ok (.bipush (-100), 2) := by decide +kernel
theorem dX8_lord_13 : decode μX8_lord.2.1 13 = .ok (.ireturn, 1) := by decide +kernel
theorem dX8_lord_14 : decode μX8_lord.2.1 14 = .ok (.iload_n 2, 1) := by decide +kernel
theorem dX8_lord_15 : decode μX8_lord.2.1 15 = .ok (.tableswitch 111 0 4 #[33, 50, 60, 70, 80], 33) := by decide +kernel
theorem dX8_lord_48 : decode μX8_lord.2.1 48 = .ok (.aload_n 0, 1) := by decide +kernel
theorem dX8_lord_49 : decode μX8_lord.2.1 49 = .ok (.getfield 26, 3) := by decide +kernel
theorem dX8_lord_52 : decode μX8_lord.2.1 52 = .ok (.iload_n 1, 1) := by decide +kernel
theorem dX8_lord_53 : decode μX8_lord.2.1 53 = .ok (.invokevirtual 117, 3) := by decide +kernel
theorem dX8_lord_56 : decode μX8_lord.2.1 56 = .ok (.ifCond .eq 7, 3) := by decide +kernel
theorem dX8_lord_59 : decode μX8_lord.2.1 59 = .ok (.iconst 1, 1) := by decide +kernel
theorem dX8_lord_60 : decode μX8_lord.2.1 60 = .ok (.goto 4, 3) := by decide +kernel
theorem dX8_lord_63 : decode μX8_lord.2.1 63 = .ok (.iconst 0, 1) := by decide +kernel
theorem dX8_lord_64 : decode μX8_lord.2.1 64 = .ok (.ireturn, 1) := by decide +kernel
theorem dX8_lord_65 : decode μX8_lord.2.1 65 = .ok (.aload_n 0, 1) := by decide +kernel
theorem dX8_lord_66 : decode μX8_lord.2.1 66 = .ok (.getfield 26, 3) := by decide +kernel
theorem dX8_lord_69 : decode μX8_lord.2.1 69 = .ok (.getfield 120, 3) := by decide +kernel
theorem dX8_lord_72 : decode μX8_lord.2.1 72 = .ok (.iload_n 1, 1) := by decide +kernel
theorem dX8_lord_73 : decode μX8_lord.2.1 73 = .ok (.iaload, 1) := by decide +kernel
theorem dX8_lord_74 : decode μX8_lord.2.1 74 = .ok (.ireturn, 1) := by decide +kernel
theorem dX8_lord_75 : decode μX8_lord.2.1 75 = .ok (.aload_n 0, 1) := by decide +kernel
theorem dX8_lord_76 : decode μX8_lord.2.1 76 = .ok (.getfield 26, 3) := by decide +kernel
theorem dX8_lord_79 : decode μX8_lord.2.1 79 = .ok (.getfield 123, 3) := by decide +kernel
theorem dX8_lord_82 : decode μX8_lord.2.1 82 = .ok (.iload_n 1, 1) := by decide +kernel
theorem dX8_lord_83 : decode μX8_lord.2.1 83 = .ok (.iaload, 1) := by decide +kernel
theorem dX8_lord_84 : decode μX8_lord.2.1 84 = .ok (.ireturn, 1) := by decide +kernel
theorem dX8_lord_85 : decode μX8_lord.2.1 85 = .ok (.aload_n 0, 1) := by decide +kernel
theorem dX8_lord_86 : decode μX8_lord.2.1 86 = .ok (.getfield 26, 3) := by decide +kernel
theorem dX8_lord_89 : decode μX8_lord.2.1 89 = .ok (.getfield 126, 3) := by decide +kernel
theorem dX8_lord_92 : decode μX8_lord.2.1 92 = .ok (.iload_n 1, 1) := by decide +kernel
theorem dX8_lord_93 : decode μX8_lord.2.1 93 = .ok (.iaload, 1) := by decide +kernel
theorem dX8_lord_94 : decode μX8_lord.2.1 94 = .ok (.ireturn, 1) := by decide +kernel
theorem dX8_lord_95 : decode μX8_lord.2.1 95 = .ok (.aload_n 0, 1) := by decide +kernel
theorem dX8_lord_96 : decode μX8_lord.2.1 96 = .ok (.getfield 26, 3) := by decide +kernel
theorem dX8_lord_99 : decode μX8_lord.2.1 99 = .ok (.iload_n 1, 1) := by decide +kernel
theorem dX8_lord_100 : decode μX8_lord.2.1 100 = .ok (.invokevirtual 117, 3) := by decide +kernel
theorem dX8_lord_103 : decode μX8_lord.2.1 103 = .ok (.ifCond .eq 21, 3) := by decide +kernel
theorem dX8_lord_106 : decode μX8_lord.2.1 106 = .ok (.aload_n 0, 1) := by decide +kernel
theorem dX8_lord_107 : decode μX8_lord.2.1 107 = .ok (.getfield 26, 3) := by decide +kernel
theorem dX8_lord_110 : decode μX8_lord.2.1 110 = .ok (.iload_n 1, 1) := by decide +kernel
theorem dX8_lord_111 : decode μX8_lord.2.1 111 = .ok (.aload_n 0, 1) := by decide +kernel
theorem dX8_lord_112 : decode μX8_lord.2.1 112 = .ok (.getfield 19, 3) := by decide +kernel
theorem dX8_lord_115 : decode μX8_lord.2.1 115 = .ok (.getfield 129, 3) := by decide +kernel
theorem dX8_lord_118 : decode μX8_lord.2.1 118 = .ok (.invokevirtual 133, 3) := by decide +kernel
theorem dX8_lord_121 : decode μX8_lord.2.1 121 = .ok (.goto 4, 3) := by decide +kernel
theorem dX8_lord_124 : decode μX8_lord.2.1 124 = .ok (.iconst 0, 1) := by decide +kernel
theorem dX8_lord_125 : decode μX8_lord.2.1 125 = .ok (.ireturn, 1) := by decide +kernel
theorem dX8_lord_126 : decode μX8_lord.2.1 126 = .ok (.bipush (-100), 2) := by decide +kernel
theorem dX8_lord_128 : decode μX8_lord.2.1 128 = .ok (.ireturn, 1) := by decide +kernel
set_option maxRecDepth 20000 in
theorem sg_X8_lord_0 {d : Nat} {x1 : Int32} {x2 : Int32} {M : Mem} {K : (Int32 → Mem → Prop)}  (h : (CI d μX2_isTold [.ref 27, .int x1] M (fun r2 M1 => (if r2 = 0 then K ((-100)) M1 else ((x2 = 0 → (CI d μX2_isThere [.ref 27, .int x1] M1 (fun r4 M3 => (if r4 = 0 then K 0 M3 else K 1 M3)))) ∧ (x2 = 1 → (vp_in x1 8 ∧ K (ri M1 28 (nx x1)) M1)) ∧ (x2 = 2 → (vp_in x1 8 ∧ K (ri M1 31 (nx x1)) M1)) ∧ (x2 = 3 → (vp_in x1 8 ∧ K (ri M1 30 (nx x1)) M1)) ∧ (x2 = 4 → (CI d μX2_isThere [.ref 27, .int x1] M1 (fun r6 M5 => (if r6 = 0 then K 0 M5 else (∃ t7, nx (ri M5 0 1) = t7 ∧ kd t7 = (0, 7) ∧ (CI d μX2_growthOf [.ref 27, .int x1, .ref (t7 + 7)] M5 (fun r9 M8 => K r9 M8))))))) ∧ ((x2).toInt < 0 ∨ 4 < (x2).toInt → K ((-100)) M1)))))) : CI (d + 1) μX8_lord [.ref 0, .int x1, .int x2] M K := by
  show Rn (d + 1) μX8_lord 0 [(0, .ref 0), (1, .int x1), (2, .int x2)] [] M _
  refine rn_aload_n (i := 0) (x := 0) dX8_lord_0 rfl (by simp) ?_
  refine rn_getr (t := 27) dX8_lord_1 rfl gf_X8_26 rfl rfl ?_
  refine rn_iload_n (i := 1) (x := x1) dX8_lord_4 rfl (by simp) ?_
  refine rn_callVi (as := [.int x1]) (st := []) dX8_lord_5 mf_X2_isTold lk_X8_113 im_X2_isTold rfl rfl rfl rfl (Nat.le_of_ble_eq_true rfl) (Nat.le_of_ble_eq_true rfl) rfl (RI.mono h (fun r2 M1 h => ?_))
  refine rn_if_ne (tgt := 14) dX8_lord_8 (by decide) (ite_go h (fun hc h => ?_) (fun hc h => ?_))
  · refine rn_bipush (v := -100) dX8_lord_11 rfl ?_
    exact rn_iret dX8_lord_13 rfl ⟨_, rfl, h⟩
  · refine rn_iload_n (i := 2) (x := x2) dX8_lord_14 rfl (by simp) ?_
    by_cases hlo : (x2).toInt < 0
    · have h := h.2.2.2.2.2 (Or.inl hlo)
      refine rn_tswitch (tgt := 126) dX8_lord_15 (Or.inl ⟨Or.inl hlo, by decide⟩) ?_
      refine rn_bipush (v := -100) dX8_lord_126 rfl ?_
      exact rn_iret dX8_lord_128 rfl ⟨_, rfl, h⟩
    by_cases hhi : 4 < (x2).toInt
    · have h := h.2.2.2.2.2 (Or.inr hhi)
      refine rn_tswitch (tgt := 126) dX8_lord_15 (Or.inl ⟨Or.inr hhi, by decide⟩) ?_
      refine rn_bipush (v := -100) dX8_lord_126 rfl ?_
      exact rn_iret dX8_lord_128 rfl ⟨_, rfl, h⟩
    have hv : (x2).toInt = 0 ∨ (x2).toInt = 1 ∨ (x2).toInt = 2 ∨ (x2).toInt = 3 ∨ (x2).toInt = 4 := by omega
    rcases hv with hv | hv | hv | hv | hv
    · have h := h.1 (Int32.toInt_inj.mp hv)
      refine rn_tswitch (tgt := 48) dX8_lord_15 (Or.inr ⟨hlo, hhi, _, by rw [hv]; rfl, by decide⟩) ?_
      refine rn_aload_n (i := 0) (x := 0) dX8_lord_48 rfl (by simp) ?_
      refine rn_getr (t := 27) dX8_lord_49 rfl gf_X8_26 rfl rfl ?_
      refine rn_iload_n (i := 1) (x := x1) dX8_lord_52 rfl (by simp) ?_
      refine rn_callVi (as := [.int x1]) (st := []) dX8_lord_53 mf_X2_isThere lk_X8_117 im_X2_isThere rfl rfl rfl rfl (Nat.le_of_ble_eq_true rfl) (Nat.le_of_ble_eq_true rfl) rfl (RI.mono h (fun r4 M3 h => ?_))
      refine rn_if_eq (tgt := 63) dX8_lord_56 (by decide) (ite_go h (fun hc h => ?_) (fun hc h => ?_))
      · refine rn_iconst (v := 0) dX8_lord_63 rfl ?_
        exact rn_iret dX8_lord_64 rfl ⟨_, rfl, h⟩
      · refine rn_iconst (v := 1) dX8_lord_59 rfl ?_
        refine rn_goto (tgt := 64) dX8_lord_60 (by decide) ?_
        exact rn_iret dX8_lord_64 rfl ⟨_, rfl, h⟩
    · have h := h.2.1 (Int32.toInt_inj.mp hv)
      refine rn_tswitch (tgt := 65) dX8_lord_15 (Or.inr ⟨hlo, hhi, _, by rw [hv]; rfl, by decide⟩) ?_
      refine rn_aload_n (i := 0) (x := 0) dX8_lord_65 rfl (by simp) ?_
      refine rn_getr (t := 27) dX8_lord_66 rfl gf_X8_26 rfl rfl ?_
      refine rn_getr (t := 28) dX8_lord_69 rfl gf_X8_120 rfl rfl ?_
      refine rn_iload_n (i := 1) (x := x1) dX8_lord_72 rfl (by simp) ?_
      obtain ⟨hi, h⟩ := h
      refine rn_iaload dX8_lord_73 rfl hi ?_
      exact rn_iret dX8_lord_74 rfl ⟨_, rfl, h⟩
    · have h := h.2.2.1 (Int32.toInt_inj.mp hv)
      refine rn_tswitch (tgt := 75) dX8_lord_15 (Or.inr ⟨hlo, hhi, _, by rw [hv]; rfl, by decide⟩) ?_
      refine rn_aload_n (i := 0) (x := 0) dX8_lord_75 rfl (by simp) ?_
      refine rn_getr (t := 27) dX8_lord_76 rfl gf_X8_26 rfl rfl ?_
      refine rn_getr (t := 31) dX8_lord_79 rfl gf_X8_123 rfl rfl ?_
      refine rn_iload_n (i := 1) (x := x1) dX8_lord_82 rfl (by simp) ?_
      obtain ⟨hi, h⟩ := h
      refine rn_iaload dX8_lord_83 rfl hi ?_
      exact rn_iret dX8_lord_84 rfl ⟨_, rfl, h⟩
    · have h := h.2.2.2.1 (Int32.toInt_inj.mp hv)
      refine rn_tswitch (tgt := 85) dX8_lord_15 (Or.inr ⟨hlo, hhi, _, by rw [hv]; rfl, by decide⟩) ?_
      refine rn_aload_n (i := 0) (x := 0) dX8_lord_85 rfl (by simp) ?_
      refine rn_getr (t := 27) dX8_lord_86 rfl gf_X8_26 rfl rfl ?_
      refine rn_getr (t := 30) dX8_lord_89 rfl gf_X8_126 rfl rfl ?_
      refine rn_iload_n (i := 1) (x := x1) dX8_lord_92 rfl (by simp) ?_
      obtain ⟨hi, h⟩ := h
      refine rn_iaload dX8_lord_93 rfl hi ?_
      exact rn_iret dX8_lord_94 rfl ⟨_, rfl, h⟩
    · have h := h.2.2.2.2.1 (Int32.toInt_inj.mp hv)
      refine rn_tswitch (tgt := 95) dX8_lord_15 (Or.inr ⟨hlo, hhi, _, by rw [hv]; rfl, by decide⟩) ?_
      refine rn_aload_n (i := 0) (x := 0) dX8_lord_95 rfl (by simp) ?_
      refine rn_getr (t := 27) dX8_lord_96 rfl gf_X8_26 rfl rfl ?_
      refine rn_iload_n (i := 1) (x := x1) dX8_lord_99 rfl (by simp) ?_
      refine rn_callVi (as := [.int x1]) (st := []) dX8_lord_100 mf_X2_isThere lk_X8_117 im_X2_isThere rfl rfl rfl rfl (Nat.le_of_ble_eq_true rfl) (Nat.le_of_ble_eq_true rfl) rfl (RI.mono h (fun r6 M5 h => ?_))
      refine rn_if_eq (tgt := 124) dX8_lord_103 (by decide) (ite_go h (fun hc h => ?_) (fun hc h => ?_))
      · refine rn_iconst (v := 0) dX8_lord_124 rfl ?_
        exact rn_iret dX8_lord_125 rfl ⟨_, rfl, h⟩
      · refine rn_aload_n (i := 0) (x := 0) dX8_lord_106 rfl (by simp) ?_
        refine rn_getr (t := 27) dX8_lord_107 rfl gf_X8_26 rfl rfl ?_
        refine rn_iload_n (i := 1) (x := x1) dX8_lord_110 rfl (by simp) ?_
        refine rn_aload_n (i := 0) (x := 0) dX8_lord_111 rfl (by simp) ?_
        obtain ⟨t7, ht7e, ht7, h⟩ := h
        refine rn_getd dX8_lord_112 rfl gf_X8_19 rfl ht7e ?_
        refine rn_getr (t := t7 + 7) dX8_lord_115 ht7 gf_X8_129 rfl (telling_refs _ ht7).2.1.1 ?_
        refine rn_callVi (as := [.int x1, .ref (t7 + 7)]) (st := []) dX8_lord_118 mf_X2_growthOf lk_X8_133 im_X2_growthOf rfl rfl rfl rfl (Nat.le_of_ble_eq_true rfl) (Nat.le_of_ble_eq_true rfl) rfl (RI.mono h (fun r9 M8 h => ?_))
        refine rn_goto (tgt := 125) dX8_lord_121 (by decide) ?_
        exact rn_iret dX8_lord_125 rfl ⟨_, rfl, h⟩
theorem dX8_corner_0 : decode μX8_corner.2.1 0 = .ok (.iload_n 1, 1) := by decide +kernel
theorem dX8_corner_1 : decode μX8_corner.2.1 1 = .ok (.ifCond .lt 23, 3) := by decide +kernel
theorem dX8_corner_4 : decode μX8_corner.2.1 4 = .ok (.iload_n 1, 1) := by decide +kernel
theorem dX8_corner_5 : decode μX8_corner.2.1 5 = .ok (.aload_n 0, 1) := by decide +kernel
theorem dX8_corner_6 : decode μX8_corner.2.1 6 = .ok (.getfield 26, 3) := by decide +kernel
theorem dX8_corner_9 : decode μX8_corner.2.1 9 = .ok (.getfield 137, 3) := by decide +kernel
theorem dX8_corner_12 : decode μX8_corner.2.1 12 = .ok (.if_icmp .ge 12, 3) := by decide +kernel
theorem dX8_corner_15 : decode μX8_corner.2.1 15 = .ok (.iload_n 2, 1) := by decide +kernel
theorem dX8_corner_16 : decode μX8_corner.2.1 16 = .ok (.ifCond .lt 8, 3) := by decide +kernel
theorem dX8_corner_19 : decode μX8_corner.2.1 19 = .ok (.iload_n 2, 1) := by decide +kernel
theorem dX8_corner_20 : decode μX8_corner.2.1 20 = .ok (.iconst 2, 1) := by decide +kernel
theorem dX8_corner_21 : decode μX8_corner.2.1 21 = .ok (.if_icmp .le 5, 3) := by decide +kernel
theorem dX8_corner_24 : decode μX8_corner.2.1 24 = .ok (.iconst (-1), 1) := by decide +kernel
theorem dX8_corner_25 : decode μX8_corner.2.1 25 = .ok (.ireturn, 1) := by decide +kernel
theorem dX8_corner_26 : decode μX8_corner.2.1 26 = .ok (.aload_n 0, 1) := by decide +kernel
theorem dX8_corner_27 : decode μX8_corner.2.1 27 = .ok (.getfield 26, 3) := by decide +kernel
theorem dX8_corner_30 : decode μX8_corner.2.1 30 = .ok (.getfield 140, 3) := by decide +kernel
theorem dX8_corner_33 : decode μX8_corner.2.1 33 = .ok (.iload_n 1, 1) := by decide +kernel
theorem dX8_corner_34 : decode μX8_corner.2.1 34 = .ok (.iaload, 1) := by decide +kernel
theorem dX8_corner_35 : decode μX8_corner.2.1 35 = .ok (.istore_n 3, 1) := by decide +kernel
theorem dX8_corner_36 : decode μX8_corner.2.1 36 = .ok (.iconst 0, 1) := by decide +kernel
theorem dX8_corner_37 : decode μX8_corner.2.1 37 = .ok (.istore 4, 2) := by decide +kernel
theorem dX8_corner_39 : decode μX8_corner.2.1 39 = .ok (.iload 4, 2) := by decide +kernel
theorem dX8_corner_41 : decode μX8_corner.2.1 41 = .ok (.iload_n 2, 1) := by decide +kernel
theorem dX8_corner_42 : decode μX8_corner.2.1 42 = .ok (.if_icmp .ge 15, 3) := by decide +kernel
theorem dX8_corner_45 : decode μX8_corner.2.1 45 = .ok (.iload_n 3, 1) := by decide +kernel
theorem dX8_corner_46 : decode μX8_corner.2.1 46 = .ok (.iload_n 3, 1) := by decide +kernel
theorem dX8_corner_47 : decode μX8_corner.2.1 47 = .ok (.iconst 1, 1) := by decide +kernel
theorem dX8_corner_48 : decode μX8_corner.2.1 48 = .ok (.isub, 1) := by decide +kernel
theorem dX8_corner_49 : decode μX8_corner.2.1 49 = .ok (.iand, 1) := by decide +kernel
theorem dX8_corner_50 : decode μX8_corner.2.1 50 = .ok (.istore_n 3, 1) := by decide +kernel
theorem dX8_corner_51 : decode μX8_corner.2.1 51 = .ok (.iinc 4 1, 3) := by decide +kernel
theorem dX8_corner_54 : decode μX8_corner.2.1 54 = .ok (.goto (-15), 3) := by decide +kernel
theorem dX8_corner_57 : decode μX8_corner.2.1 57 = .ok (.iload_n 3, 1) := by decide +kernel
theorem dX8_corner_58 : decode μX8_corner.2.1 58 = .ok (.invokestatic 143, 3) := by decide +kernel
theorem dX8_corner_61 : decode μX8_corner.2.1 61 = .ok (.ireturn, 1) := by decide +kernel
set_option maxRecDepth 20000 in
theorem sg_X8_corner_0 {d : Nat} {x1 : Int32} {x2 : Int32} {M : Mem} {K : (Int32 → Mem → Prop)}  (h : (if x1 < 0 then K ((-1)) M else (if ri M 27 4 ≤ x1 then K ((-1)) M else (if x2 < 0 then K ((-1)) M else (if x2 ≤ 2 then (vp_in x1 12 ∧ RI (d + 1) μX8_corner 39 [(0, .ref 0), (1, .int x1), (2, .int x2), (3, .int (ri M 29 (nx x1))), (4, .int 0)] [] M K) else K ((-1)) M))))) : CI (d + 1) μX8_corner [.ref 0, .int x1, .int x2] M K := by
  show Rn (d + 1) μX8_corner 0 [(0, .ref 0), (1, .int x1), (2, .int x2)] [] M _
  refine rn_iload_n (i := 1) (x := x1) dX8_corner_0 rfl (by simp) ?_
  refine rn_if_lt (tgt := 24) dX8_corner_1 (by decide) (ite_go h (fun hc h => ?_) (fun hc h => ?_))
  · refine rn_iconst (v := -1) dX8_corner_24 rfl ?_
    exact rn_iret dX8_corner_25 rfl ⟨_, rfl, h⟩
  · refine rn_iload_n (i := 1) (x := x1) dX8_corner_4 rfl (by simp) ?_
    refine rn_aload_n (i := 0) (x := 0) dX8_corner_5 rfl (by simp) ?_
    refine rn_getr (t := 27) dX8_corner_6 rfl gf_X8_26 rfl rfl ?_
    refine rn_geti dX8_corner_9 rfl gf_X8_137 (by decide) ?_
    refine rn_icmp_ge (tgt := 24) dX8_corner_12 (by decide) (ite_go h (fun hc h => ?_) (fun hc h => ?_))
    · refine rn_iconst (v := -1) dX8_corner_24 rfl ?_
      exact rn_iret dX8_corner_25 rfl ⟨_, rfl, h⟩
    · refine rn_iload_n (i := 2) (x := x2) dX8_corner_15 rfl (by simp) ?_
      refine rn_if_lt (tgt := 24) dX8_corner_16 (by decide) (ite_go h (fun hc h => ?_) (fun hc h => ?_))
      · refine rn_iconst (v := -1) dX8_corner_24 rfl ?_
        exact rn_iret dX8_corner_25 rfl ⟨_, rfl, h⟩
      · refine rn_iload_n (i := 2) (x := x2) dX8_corner_19 rfl (by simp) ?_
        refine rn_iconst (v := 2) dX8_corner_20 rfl ?_
        refine rn_icmp_le (tgt := 26) dX8_corner_21 (by decide) (ite_go h (fun hc h => ?_) (fun hc h => ?_))
        · refine rn_aload_n (i := 0) (x := 0) dX8_corner_26 rfl (by simp) ?_
          refine rn_getr (t := 27) dX8_corner_27 rfl gf_X8_26 rfl rfl ?_
          refine rn_getr (t := 29) dX8_corner_30 rfl gf_X8_140 rfl rfl ?_
          refine rn_iload_n (i := 1) (x := x1) dX8_corner_33 rfl (by simp) ?_
          obtain ⟨hi, h⟩ := h
          refine rn_iaload dX8_corner_34 rfl hi ?_
          refine rn_istore_n (lv' := [(0, .ref 0), (1, .int x1), (2, .int x2), (3, .int (ri M 29 (nx x1)))]) (hd := dX8_corner_35) (i := 3) (hi := rfl) (hn := by decide) (hf := rfl) (hl := rfl) ?_
          refine rn_iconst (v := 0) dX8_corner_36 rfl ?_
          refine rn_istore (lv' := [(0, .ref 0), (1, .int x1), (2, .int x2), (3, .int (ri M 29 (nx x1))), (4, .int 0)]) (hd := dX8_corner_37) (hn := by decide) (hf := rfl) (hl := rfl) ?_
          exact h
        · refine rn_iconst (v := -1) dX8_corner_24 rfl ?_
          exact rn_iret dX8_corner_25 rfl ⟨_, rfl, h⟩
set_option maxRecDepth 20000 in
theorem sg_X8_corner_39 {d : Nat} {x1 : Int32} {x2 : Int32} {x3 : Int32} {x4 : Int32} {M : Mem} {K : (Int32 → Mem → Prop)}  (h : (if x2 ≤ x4 then (CI d μX8_lowest [.int x3] M (fun r2 M1 => K r2 M1)) else RI (d + 1) μX8_corner 39 [(0, .ref 0), (1, .int x1), (2, .int x2), (3, .int (x3 &&& (x3 - 1))), (4, .int (x4 + 1))] [] M K)) : RI (d + 1) μX8_corner 39 [(0, .ref 0), (1, .int x1), (2, .int x2), (3, .int x3), (4, .int x4)] [] M K := by
  show Rn (d + 1) μX8_corner 39 [(0, .ref 0), (1, .int x1), (2, .int x2), (3, .int x3), (4, .int x4)] [] M _
  refine rn_iload (x := x4) dX8_corner_39 (by simp) ?_
  refine rn_iload_n (i := 2) (x := x2) dX8_corner_41 rfl (by simp) ?_
  refine rn_icmp_ge (tgt := 57) dX8_corner_42 (by decide) (ite_go h (fun hc h => ?_) (fun hc h => ?_))
  · refine rn_iload_n (i := 3) (x := x3) dX8_corner_57 rfl (by simp) ?_
    refine rn_callSi (as := [.int x3]) (st := []) dX8_corner_58 mf_X8_lowest lk_X8_143 sm_X8_lowest rfl (Nat.le_of_ble_eq_true rfl) (Nat.le_of_ble_eq_true rfl) rfl (RI.mono h (fun r2 M1 h => ?_))
    exact rn_iret dX8_corner_61 rfl ⟨_, rfl, h⟩
  · refine rn_iload_n (i := 3) (x := x3) dX8_corner_45 rfl (by simp) ?_
    refine rn_iload_n (i := 3) (x := x3) dX8_corner_46 rfl (by simp) ?_
    refine rn_iconst (v := 1) dX8_corner_47 rfl ?_
    refine rn_isub dX8_corner_48 ?_
    refine rn_iand dX8_corner_49 ?_
    refine rn_istore_n (lv' := [(0, .ref 0), (1, .int x1), (2, .int x2), (3, .int (x3 &&& (x3 - 1))), (4, .int x4)]) (hd := dX8_corner_50) (i := 3) (hi := rfl) (hn := by decide) (hf := rfl) (hl := rfl) ?_
    refine rn_iinc (x := x4) (v := x4 + 1) (lv' := [(0, .ref 0), (1, .int x1), (2, .int x2), (3, .int (x3 &&& (x3 - 1))), (4, .int (x4 + 1))]) dX8_corner_51 (by simp) rfl (by decide) rfl rfl ?_
    refine rn_goto (tgt := 39) dX8_corner_54 (by decide) ?_
    exact h
theorem dX8_wall_0 : decode μX8_wall.2.1 0 = .ok (.aload_n 0, 1) := by decide +kernel
theorem dX8_wall_1 : decode μX8_wall.2.1 1 = .ok (.iload_n 1, 1) := by decide +kernel
theorem dX8_wall_2 : decode μX8_wall.2.1 2 = .ok (.iload_n 2, 1) := by decide +kernel
theorem dX8_wall_3 : decode μX8_wall.2.1 3 = .ok (.invokevirtual 147, 3) := by decide +kernel
theorem dX8_wall_6 : decode μX8_wall.2.1 6 = .ok (.ifCond .ne 5, 3) := by decide +kernel
theorem dX8_wall_9 : decode μX8_wall.2.1 9 = .ok (.iconst (-1), 1) := by decide +kernel
theorem dX8_wall_10 : decode μX8_wall.2.1 10 = .ok (.ireturn, 1) := by decide +kernel
theorem dX8_wall_11 : decode μX8_wall.2.1 11 = .ok (.aload_n 0, 1) := by decide +kernel
theorem dX8_wall_12 : decode μX8_wall.2.1 12 = .ok (.getfield 26, 3) := by decide +kernel
theorem dX8_wall_15 : decode μX8_wall.2.1 15 = .ok (.iload_n 1, 1) := by decide +kernel
theorem dX8_wall_16 : decode μX8_wall.2.1 16 = .ok (.iload_n 2, 1) := by decide +kernel
theorem dX8_wall_17 : decode μX8_wall.2.1 17 = .ok (.invokevirtual 151, 3) := by decide +kernel
theorem dX8_wall_20 : decode μX8_wall.2.1 20 = .ok (.ifCond .ne 5, 3) := by decide +kernel
theorem dX8_wall_23 : decode μX8_wall.2.1 23 = .ok (.iconst 0, 1) := by decide +kernel
theorem dX8_wall_24 : decode μX8_wall.2.1 24 = .ok (.ireturn, 1) := by decide +kernel
theorem dX8_wall_25 : decode μX8_wall.2.1 25 = .ok (.aload_n 0, 1) := by decide +kernel
theorem dX8_wall_26 : decode μX8_wall.2.1 26 = .ok (.getfield 26, 3) := by decide +kernel
theorem dX8_wall_29 : decode μX8_wall.2.1 29 = .ok (.iload_n 1, 1) := by decide +kernel
theorem dX8_wall_30 : decode μX8_wall.2.1 30 = .ok (.iload_n 2, 1) := by decide +kernel
theorem dX8_wall_31 : decode μX8_wall.2.1 31 = .ok (.invokevirtual 154, 3) := by decide +kernel
theorem dX8_wall_34 : decode μX8_wall.2.1 34 = .ok (.ifCond .eq 7, 3) := by decide +kernel
theorem dX8_wall_37 : decode μX8_wall.2.1 37 = .ok (.iconst 2, 1) := by decide +kernel
theorem dX8_wall_38 : decode μX8_wall.2.1 38 = .ok (.goto 4, 3) := by decide +kernel
theorem dX8_wall_41 : decode μX8_wall.2.1 41 = .ok (.iconst 0, 1) := by decide +kernel
theorem dX8_wall_42 : decode μX8_wall.2.1 42 = .ok (.istore_n 3, 1) := by decide +kernel
theorem dX8_wall_43 : decode μX8_wall.2.1 43 = .ok (.aload_n 0, 1) := by decide +kernel
theorem dX8_wall_44 : decode μX8_wall.2.1 44 = .ok (.getfield 26, 3) := by decide +kernel
theorem dX8_wall_47 : decode μX8_wall.2.1 47 = .ok (.iload_n 1, 1) := by decide +kernel
theorem dX8_wall_48 : decode μX8_wall.2.1 48 = .ok (.iload_n 2, 1) := by decide +kernel
theorem dX8_wall_49 : decode μX8_wall.2.1 49 = .ok (.invokevirtual 158, 3) := by decide +kernel
theorem dX8_wall_52 : decode μX8_wall.2.1 52 = .ok (.ifCond .eq 7, 3) := by decide +kernel
theorem dX8_wall_55 : decode μX8_wall.2.1 55 = .ok (.iconst 4, 1) := by decide +kernel
theorem dX8_wall_56 : decode μX8_wall.2.1 56 = .ok (.goto 4, 3) := by decide +kernel
theorem dX8_wall_59 : decode μX8_wall.2.1 59 = .ok (.iconst 0, 1) := by decide +kernel
theorem dX8_wall_60 : decode μX8_wall.2.1 60 = .ok (.istore 4, 2) := by decide +kernel
theorem dX8_wall_62 : decode μX8_wall.2.1 62 = .ok (.iconst 1, 1) := by decide +kernel
theorem dX8_wall_63 : decode μX8_wall.2.1 63 = .ok (.iload_n 3, 1) := by decide +kernel
theorem dX8_wall_64 : decode μX8_wall.2.1 64 = .ok (.iadd, 1) := by decide +kernel
theorem dX8_wall_65 : decode μX8_wall.2.1 65 = .ok (.iload 4, 2) := by decide +kernel
theorem dX8_wall_67 : decode μX8_wall.2.1 67 = .ok (.iadd, 1) := by decide +kernel
theorem dX8_wall_68 : decode μX8_wall.2.1 68 = .ok (.ireturn, 1) := by decide +kernel
set_option maxRecDepth 20000 in
theorem sg_X8_wall_0 {d : Nat} {x1 : Int32} {x2 : Int32} {M : Mem} {K : (Int32 → Mem → Prop)}  (h : (CI d μX8_areTwo [.ref 0, .int x1, .int x2] M (fun r2 M1 => (if r2 = 0 then K ((-1)) M1 else (CI d μX2_meets [.ref 27, .int x1, .int x2] M1 (fun r4 M3 => (if r4 = 0 then K 0 M3 else (CI d μX2_flippedEnds [.ref 27, .int x1, .int x2] M3 (fun r6 M5 => (if r6 = 0 then RI (d + 1) μX8_wall 42 [(0, .ref 0), (1, .int x1), (2, .int x2)] [.int 0] M5 K else RI (d + 1) μX8_wall 42 [(0, .ref 0), (1, .int x1), (2, .int x2)] [.int 2] M5 K)))))))))) : CI (d + 1) μX8_wall [.ref 0, .int x1, .int x2] M K := by
  show Rn (d + 1) μX8_wall 0 [(0, .ref 0), (1, .int x1), (2, .int x2)] [] M _
  refine rn_aload_n (i := 0) (x := 0) dX8_wall_0 rfl (by simp) ?_
  refine rn_iload_n (i := 1) (x := x1) dX8_wall_1 rfl (by simp) ?_
  refine rn_iload_n (i := 2) (x := x2) dX8_wall_2 rfl (by simp) ?_
  refine rn_callVi (as := [.int x1, .int x2]) (st := []) dX8_wall_3 mf_X8_areTwo lk_X8_147 im_X8_areTwo rfl rfl rfl rfl (Nat.le_of_ble_eq_true rfl) (Nat.le_of_ble_eq_true rfl) rfl (RI.mono h (fun r2 M1 h => ?_))
  refine rn_if_ne (tgt := 11) dX8_wall_6 (by decide) (ite_go h (fun hc h => ?_) (fun hc h => ?_))
  · refine rn_iconst (v := -1) dX8_wall_9 rfl ?_
    exact rn_iret dX8_wall_10 rfl ⟨_, rfl, h⟩
  · refine rn_aload_n (i := 0) (x := 0) dX8_wall_11 rfl (by simp) ?_
    refine rn_getr (t := 27) dX8_wall_12 rfl gf_X8_26 rfl rfl ?_
    refine rn_iload_n (i := 1) (x := x1) dX8_wall_15 rfl (by simp) ?_
    refine rn_iload_n (i := 2) (x := x2) dX8_wall_16 rfl (by simp) ?_
    refine rn_callVi (as := [.int x1, .int x2]) (st := []) dX8_wall_17 mf_X2_meets lk_X8_151 im_X2_meets rfl rfl rfl rfl (Nat.le_of_ble_eq_true rfl) (Nat.le_of_ble_eq_true rfl) rfl (RI.mono h (fun r4 M3 h => ?_))
    refine rn_if_ne (tgt := 25) dX8_wall_20 (by decide) (ite_go h (fun hc h => ?_) (fun hc h => ?_))
    · refine rn_iconst (v := 0) dX8_wall_23 rfl ?_
      exact rn_iret dX8_wall_24 rfl ⟨_, rfl, h⟩
    · refine rn_aload_n (i := 0) (x := 0) dX8_wall_25 rfl (by simp) ?_
      refine rn_getr (t := 27) dX8_wall_26 rfl gf_X8_26 rfl rfl ?_
      refine rn_iload_n (i := 1) (x := x1) dX8_wall_29 rfl (by simp) ?_
      refine rn_iload_n (i := 2) (x := x2) dX8_wall_30 rfl (by simp) ?_
      refine rn_callVi (as := [.int x1, .int x2]) (st := []) dX8_wall_31 mf_X2_flippedEnds lk_X8_154 im_X2_flippedEnds rfl rfl rfl rfl (Nat.le_of_ble_eq_true rfl) (Nat.le_of_ble_eq_true rfl) rfl (RI.mono h (fun r6 M5 h => ?_))
      refine rn_if_eq (tgt := 41) dX8_wall_34 (by decide) (ite_go h (fun hc h => ?_) (fun hc h => ?_))
      · refine rn_iconst (v := 0) dX8_wall_41 rfl ?_
        exact h
      · refine rn_iconst (v := 2) dX8_wall_37 rfl ?_
        refine rn_goto (tgt := 42) dX8_wall_38 (by decide) ?_
        exact h
set_option maxRecDepth 20000 in
theorem sg_X8_wall_42 {d : Nat} {x1 : Int32} {x2 : Int32} {y0 : Int32} {M : Mem} {K : (Int32 → Mem → Prop)}  (h : (CI d μX2_canMerge [.ref 27, .int x1, .int x2] M (fun r2 M1 => (if r2 = 0 then K ((1 + y0) + 0) M1 else K ((1 + y0) + 4) M1)))) : RI (d + 1) μX8_wall 42 [(0, .ref 0), (1, .int x1), (2, .int x2)] [.int y0] M K := by
  show Rn (d + 1) μX8_wall 42 [(0, .ref 0), (1, .int x1), (2, .int x2)] [.int y0] M _
  refine rn_istore_n (lv' := [(0, .ref 0), (1, .int x1), (2, .int x2), (3, .int y0)]) (hd := dX8_wall_42) (i := 3) (hi := rfl) (hn := by decide) (hf := rfl) (hl := rfl) ?_
  refine rn_aload_n (i := 0) (x := 0) dX8_wall_43 rfl (by simp) ?_
  refine rn_getr (t := 27) dX8_wall_44 rfl gf_X8_26 rfl rfl ?_
  refine rn_iload_n (i := 1) (x := x1) dX8_wall_47 rfl (by simp) ?_
  refine rn_iload_n (i := 2) (x := x2) dX8_wall_48 rfl (by simp) ?_
  refine rn_callVi (as := [.int x1, .int x2]) (st := []) dX8_wall_49 mf_X2_canMerge lk_X8_158 im_X2_canMerge rfl rfl rfl rfl (Nat.le_of_ble_eq_true rfl) (Nat.le_of_ble_eq_true rfl) rfl (RI.mono h (fun r2 M1 h => ?_))
  refine rn_if_eq (tgt := 59) dX8_wall_52 (by decide) (ite_go h (fun hc h => ?_) (fun hc h => ?_))
  · refine rn_iconst (v := 0) dX8_wall_59 rfl ?_
    refine rn_istore (lv' := [(0, .ref 0), (1, .int x1), (2, .int x2), (3, .int y0), (4, .int 0)]) (hd := dX8_wall_60) (hn := by decide) (hf := rfl) (hl := rfl) ?_
    refine rn_iconst (v := 1) dX8_wall_62 rfl ?_
    refine rn_iload_n (i := 3) (x := y0) dX8_wall_63 rfl (by simp) ?_
    refine rn_iadd dX8_wall_64 ?_
    refine rn_iload (x := 0) dX8_wall_65 (by simp) ?_
    refine rn_iadd dX8_wall_67 ?_
    exact rn_iret dX8_wall_68 rfl ⟨_, rfl, h⟩
  · refine rn_iconst (v := 4) dX8_wall_55 rfl ?_
    refine rn_goto (tgt := 60) dX8_wall_56 (by decide) ?_
    refine rn_istore (lv' := [(0, .ref 0), (1, .int x1), (2, .int x2), (3, .int y0), (4, .int 4)]) (hd := dX8_wall_60) (hn := by decide) (hf := rfl) (hl := rfl) ?_
    refine rn_iconst (v := 1) dX8_wall_62 rfl ?_
    refine rn_iload_n (i := 3) (x := y0) dX8_wall_63 rfl (by simp) ?_
    refine rn_iadd dX8_wall_64 ?_
    refine rn_iload (x := 4) dX8_wall_65 (by simp) ?_
    refine rn_iadd dX8_wall_67 ?_
    exact rn_iret dX8_wall_68 rfl ⟨_, rfl, h⟩
theorem dX8_thirds_0 : decode μX8_thirds.2.1 0 = .ok (.iconst 0, 1) := by decide +kernel
theorem dX8_thirds_1 : decode μX8_thirds.2.1 1 = .ok (.istore_n 1, 1) := by decide +kernel
theorem dX8_thirds_2 : decode μX8_thirds.2.1 2 = .ok (.iconst 0, 1) := by decide +kernel
theorem dX8_thirds_3 : decode μX8_thirds.2.1 3 = .ok (.istore_n 2, 1) := by decide +kernel
theorem dX8_thirds_4 : decode μX8_thirds.2.1 4 = .ok (.iload_n 2, 1) := by decide +kernel
theorem dX8_thirds_5 : decode μX8_thirds.2.1 5 = .ok (.aload_n 0, 1) := by decide +kernel
theorem dX8_thirds_6 : decode μX8_thirds.2.1 6 = .ok (.getfield 26, 3) := by decide +kernel
theorem dX8_thirds_9 : decode μX8_thirds.2.1 9 = .ok (.getfield 107, 3) := by decide +kernel
theorem dX8_thirds_12 : decode μX8_thirds.2.1 12 = .ok (.if_icmp .ge 28, 3) := by decide +kernel
theorem dX8_thirds_15 : decode μX8_thirds.2.1 15 = .ok (.aload_n 0, 1) := by decide +kernel
theorem dX8_thirds_16 : decode μX8_thirds.2.1 16 = .ok (.getfield 26, 3) := by decide +kernel
theorem dX8_thirds_19 : decode μX8_thirds.2.1 19 = .ok (.getfield 123, 3) := by decide +kernel
theorem dX8_thirds_22 : decode μX8_thirds.2.1 22 = .ok (.iload_n 2, 1) := by decide +kernel
theorem dX8_thirds_23 : decode μX8_thirds.2.1 23 = .ok (.iaload, 1) := by decide +kernel
theorem dX8_thirds_24 : decode μX8_thirds.2.1 24 = .ok (.iconst 3, 1) := by decide +kernel
theorem dX8_thirds_25 : decode μX8_thirds.2.1 25 = .ok (.if_icmp .ne 9, 3) := by decide +kernel
theorem dX8_thirds_28 : decode μX8_thirds.2.1 28 = .ok (.iload_n 1, 1) := by decide +kernel
theorem dX8_thirds_29 : decode μX8_thirds.2.1 29 = .ok (.iconst 1, 1) := by decide +kernel
theorem dX8_thirds_30 : decode μX8_thirds.2.1 30 = .ok (.iload_n 2, 1) := by decide +kernel
theorem dX8_thirds_31 : decode μX8_thirds.2.1 31 = .ok (.ishl, 1) := by decide +kernel
theorem dX8_thirds_32 : decode μX8_thirds.2.1 32 = .ok (.ior, 1) := by decide +kernel
theorem dX8_thirds_33 : decode μX8_thirds.2.1 33 = .ok (.istore_n 1, 1) := by decide +kernel
theorem dX8_thirds_34 : decode μX8_thirds.2.1 34 = .ok (.iinc 2 1, 3) := by decide +kernel
theorem dX8_thirds_37 : decode μX8_thirds.2.1 37 = .ok (.goto (-33), 3) := by decide +kernel
theorem dX8_thirds_40 : decode μX8_thirds.2.1 40 = .ok (.iload_n 1, 1) := by decide +kernel
theorem dX8_thirds_41 : decode μX8_thirds.2.1 41 = .ok (.ireturn, 1) := by decide +kernel
set_option maxRecDepth 20000 in
theorem sg_X8_thirds_0 {d : Nat}  {M : Mem} {K : (Int32 → Mem → Prop)}  (h : RI d μX8_thirds 4 [(0, .ref 0), (1, .int 0), (2, .int 0)] [] M K) : CI d μX8_thirds [.ref 0] M K := by
  show Rn d μX8_thirds 0 [(0, .ref 0)] [] M _
  refine rn_iconst (v := 0) dX8_thirds_0 rfl ?_
  refine rn_istore_n (lv' := [(0, .ref 0), (1, .int 0)]) (hd := dX8_thirds_1) (i := 1) (hi := rfl) (hn := by decide) (hf := rfl) (hl := rfl) ?_
  refine rn_iconst (v := 0) dX8_thirds_2 rfl ?_
  refine rn_istore_n (lv' := [(0, .ref 0), (1, .int 0), (2, .int 0)]) (hd := dX8_thirds_3) (i := 2) (hi := rfl) (hn := by decide) (hf := rfl) (hl := rfl) ?_
  exact h
set_option maxRecDepth 20000 in
theorem sg_X8_thirds_4 {d : Nat} {x1 : Int32} {x2 : Int32} {M : Mem} {K : (Int32 → Mem → Prop)}  (h : (if ri M 27 0 ≤ x2 then K x1 M else (vp_in x2 8 ∧ (if ri M 31 (nx x2) = 3 then RI d μX8_thirds 4 [(0, .ref 0), (1, .int (x1 ||| ((1 : Int32) <<< (x2 &&& 31)))), (2, .int (x2 + 1))] [] M K else RI d μX8_thirds 4 [(0, .ref 0), (1, .int x1), (2, .int (x2 + 1))] [] M K)))) : RI d μX8_thirds 4 [(0, .ref 0), (1, .int x1), (2, .int x2)] [] M K := by
  show Rn d μX8_thirds 4 [(0, .ref 0), (1, .int x1), (2, .int x2)] [] M _
  refine rn_iload_n (i := 2) (x := x2) dX8_thirds_4 rfl (by simp) ?_
  refine rn_aload_n (i := 0) (x := 0) dX8_thirds_5 rfl (by simp) ?_
  refine rn_getr (t := 27) dX8_thirds_6 rfl gf_X8_26 rfl rfl ?_
  refine rn_geti dX8_thirds_9 rfl gf_X8_107 (by decide) ?_
  refine rn_icmp_ge (tgt := 40) dX8_thirds_12 (by decide) (ite_go h (fun hc h => ?_) (fun hc h => ?_))
  · refine rn_iload_n (i := 1) (x := x1) dX8_thirds_40 rfl (by simp) ?_
    exact rn_iret dX8_thirds_41 rfl ⟨_, rfl, h⟩
  · refine rn_aload_n (i := 0) (x := 0) dX8_thirds_15 rfl (by simp) ?_
    refine rn_getr (t := 27) dX8_thirds_16 rfl gf_X8_26 rfl rfl ?_
    refine rn_getr (t := 31) dX8_thirds_19 rfl gf_X8_123 rfl rfl ?_
    refine rn_iload_n (i := 2) (x := x2) dX8_thirds_22 rfl (by simp) ?_
    obtain ⟨hi, h⟩ := h
    refine rn_iaload dX8_thirds_23 rfl hi ?_
    refine rn_iconst (v := 3) dX8_thirds_24 rfl ?_
    refine rn_icmp_ne (tgt := 34) dX8_thirds_25 (by decide) (ite_go h (fun hc h => ?_) (fun hc h => ?_))
    · refine rn_iload_n (i := 1) (x := x1) dX8_thirds_28 rfl (by simp) ?_
      refine rn_iconst (v := 1) dX8_thirds_29 rfl ?_
      refine rn_iload_n (i := 2) (x := x2) dX8_thirds_30 rfl (by simp) ?_
      refine rn_ishl dX8_thirds_31 ?_
      refine rn_ior dX8_thirds_32 ?_
      refine rn_istore_n (lv' := [(0, .ref 0), (1, .int (x1 ||| ((1 : Int32) <<< (x2 &&& 31)))), (2, .int x2)]) (hd := dX8_thirds_33) (i := 1) (hi := rfl) (hn := by decide) (hf := rfl) (hl := rfl) ?_
      refine rn_iinc (x := x2) (v := x2 + 1) (lv' := [(0, .ref 0), (1, .int (x1 ||| ((1 : Int32) <<< (x2 &&& 31)))), (2, .int (x2 + 1))]) dX8_thirds_34 (by simp) rfl (by decide) rfl rfl ?_
      refine rn_goto (tgt := 4) dX8_thirds_37 (by decide) ?_
      exact h
    · refine rn_iinc (x := x2) (v := x2 + 1) (lv' := [(0, .ref 0), (1, .int x1), (2, .int (x2 + 1))]) dX8_thirds_34 (by simp) rfl (by decide) rfl rfl ?_
      refine rn_goto (tgt := 4) dX8_thirds_37 (by decide) ?_
      exact h
theorem dX8_sleepers_0 : decode μX8_sleepers.2.1 0 = .ok (.iconst 0, 1) := by decide +kernel
theorem dX8_sleepers_1 : decode μX8_sleepers.2.1 1 = .ok (.istore_n 1, 1) := by decide +kernel
theorem dX8_sleepers_2 : decode μX8_sleepers.2.1 2 = .ok (.iconst 0, 1) := by decide +kernel
theorem dX8_sleepers_3 : decode μX8_sleepers.2.1 3 = .ok (.istore_n 2, 1) := by decide +kernel
theorem dX8_sleepers_4 : decode μX8_sleepers.2.1 4 = .ok (.iload_n 2, 1) := by decide +kernel
theorem dX8_sleepers_5 : decode μX8_sleepers.2.1 5 = .ok (.aload_n 0, 1) := by decide +kernel
theorem dX8_sleepers_6 : decode μX8_sleepers.2.1 6 = .ok (.getfield 26, 3) := by decide +kernel
theorem dX8_sleepers_9 : decode μX8_sleepers.2.1 9 = .ok (.getfield 107, 3) := by decide +kernel
theorem dX8_sleepers_12 : decode μX8_sleepers.2.1 12 = .ok (.if_icmp .ge 44, 3) := by decide +kernel
theorem dX8_sleepers_15 : decode μX8_sleepers.2.1 15 = .ok (.aload_n 0, 1) := by decide +kernel
theorem dX8_sleepers_16 : decode μX8_sleepers.2.1 16 = .ok (.getfield 26, 3) := by decide +kernel
theorem dX8_sleepers_19 : decode μX8_sleepers.2.1 19 = .ok (.iload_n 2, 1) := by decide +kernel
theorem dX8_sleepers_20 : decode μX8_sleepers.2.1 20 = .ok (.invokevirtual 117, 3) := by decide +kernel
theorem dX8_sleepers_23 : decode μX8_sleepers.2.1 23 = .ok (.ifCond .eq 27, 3) := by decide +kernel
theorem dX8_sleepers_26 : decode μX8_sleepers.2.1 26 = .ok (.aload_n 0, 1) := by decide +kernel
theorem dX8_sleepers_27 : decode μX8_sleepers.2.1 27 = .ok (.getfield 26, 3) := by decide +kernel
theorem dX8_sleepers_30 : decode μX8_sleepers.2.1 30 = .ok (.iload_n 2, 1) := by decide +kernel
theorem dX8_sleepers_31 : decode μX8_sleepers.2.1 31 = .ok (.aload_n 0, 1) := by decide +kernel
theorem dX8_sleepers_32 : decode μX8_sleepers.2.1 32 = .ok (.getfield 19, 3) := by decide +kernel
theorem dX8_sleepers_35 : decode μX8_sleepers.2.1 35 = .ok (.getfield 129, 3) := by decide +kernel
theorem dX8_sleepers_38 : decode μX8_sleepers.2.1 38 = .ok (.invokevirtual 133, 3) := by decide +kernel
theorem dX8_sleepers_41 : decode μX8_sleepers.2.1 41 = .ok (.ifCond .ne 9, 3) := by decide +kernel
theorem dX8_sleepers_44 : decode μX8_sleepers.2.1 44 = .ok (.iload_n 1, 1) := by decide +kernel
theorem dX8_sleepers_45 : decode μX8_sleepers.2.1 45 = .ok (.iconst 1, 1) := by decide +kernel
theorem dX8_sleepers_46 : decode μX8_sleepers.2.1 46 = .ok (.iload_n 2, 1) := by decide +kernel
theorem dX8_sleepers_47 : decode μX8_sleepers.2.1 47 = .ok (.ishl, 1) := by decide +kernel
theorem dX8_sleepers_48 : decode μX8_sleepers.2.1 48 = .ok (.ior, 1) := by decide +kernel
theorem dX8_sleepers_49 : decode μX8_sleepers.2.1 49 = .ok (.istore_n 1, 1) := by decide +kernel
theorem dX8_sleepers_50 : decode μX8_sleepers.2.1 50 = .ok (.iinc 2 1, 3) := by decide +kernel
theorem dX8_sleepers_53 : decode μX8_sleepers.2.1 53 = .ok (.goto (-49), 3) := by decide +kernel
theorem dX8_sleepers_56 : decode μX8_sleepers.2.1 56 = .ok (.iload_n 1, 1) := by decide +kernel
theorem dX8_sleepers_57 : decode μX8_sleepers.2.1 57 = .ok (.ireturn, 1) := by decide +kernel
set_option maxRecDepth 20000 in
theorem sg_X8_sleepers_0 {d : Nat}  {M : Mem} {K : (Int32 → Mem → Prop)}  (h : RI (d + 1) μX8_sleepers 4 [(0, .ref 0), (1, .int 0), (2, .int 0)] [] M K) : CI (d + 1) μX8_sleepers [.ref 0] M K := by
  show Rn (d + 1) μX8_sleepers 0 [(0, .ref 0)] [] M _
  refine rn_iconst (v := 0) dX8_sleepers_0 rfl ?_
  refine rn_istore_n (lv' := [(0, .ref 0), (1, .int 0)]) (hd := dX8_sleepers_1) (i := 1) (hi := rfl) (hn := by decide) (hf := rfl) (hl := rfl) ?_
  refine rn_iconst (v := 0) dX8_sleepers_2 rfl ?_
  refine rn_istore_n (lv' := [(0, .ref 0), (1, .int 0), (2, .int 0)]) (hd := dX8_sleepers_3) (i := 2) (hi := rfl) (hn := by decide) (hf := rfl) (hl := rfl) ?_
  exact h
set_option maxRecDepth 20000 in
theorem sg_X8_sleepers_4 {d : Nat} {x1 : Int32} {x2 : Int32} {M : Mem} {K : (Int32 → Mem → Prop)}  (h : (if ri M 27 0 ≤ x2 then K x1 M else (CI d μX2_isThere [.ref 27, .int x2] M (fun r2 M1 => (if r2 = 0 then RI (d + 1) μX8_sleepers 4 [(0, .ref 0), (1, .int x1), (2, .int (x2 + 1))] [] M1 K else (∃ t3, nx (ri M1 0 1) = t3 ∧ kd t3 = (0, 7) ∧ (CI d μX2_growthOf [.ref 27, .int x2, .ref (t3 + 7)] M1 (fun r5 M4 => (if r5 = 0 then RI (d + 1) μX8_sleepers 4 [(0, .ref 0), (1, .int (x1 ||| ((1 : Int32) <<< (x2 &&& 31)))), (2, .int (x2 + 1))] [] M4 K else RI (d + 1) μX8_sleepers 4 [(0, .ref 0), (1, .int x1), (2, .int (x2 + 1))] [] M4 K))))))))) : RI (d + 1) μX8_sleepers 4 [(0, .ref 0), (1, .int x1), (2, .int x2)] [] M K := by
  show Rn (d + 1) μX8_sleepers 4 [(0, .ref 0), (1, .int x1), (2, .int x2)] [] M _
  refine rn_iload_n (i := 2) (x := x2) dX8_sleepers_4 rfl (by simp) ?_
  refine rn_aload_n (i := 0) (x := 0) dX8_sleepers_5 rfl (by simp) ?_
  refine rn_getr (t := 27) dX8_sleepers_6 rfl gf_X8_26 rfl rfl ?_
  refine rn_geti dX8_sleepers_9 rfl gf_X8_107 (by decide) ?_
  refine rn_icmp_ge (tgt := 56) dX8_sleepers_12 (by decide) (ite_go h (fun hc h => ?_) (fun hc h => ?_))
  · refine rn_iload_n (i := 1) (x := x1) dX8_sleepers_56 rfl (by simp) ?_
    exact rn_iret dX8_sleepers_57 rfl ⟨_, rfl, h⟩
  · refine rn_aload_n (i := 0) (x := 0) dX8_sleepers_15 rfl (by simp) ?_
    refine rn_getr (t := 27) dX8_sleepers_16 rfl gf_X8_26 rfl rfl ?_
    refine rn_iload_n (i := 2) (x := x2) dX8_sleepers_19 rfl (by simp) ?_
    refine rn_callVi (as := [.int x2]) (st := []) dX8_sleepers_20 mf_X2_isThere lk_X8_117 im_X2_isThere rfl rfl rfl rfl (Nat.le_of_ble_eq_true rfl) (Nat.le_of_ble_eq_true rfl) rfl (RI.mono h (fun r2 M1 h => ?_))
    refine rn_if_eq (tgt := 50) dX8_sleepers_23 (by decide) (ite_go h (fun hc h => ?_) (fun hc h => ?_))
    · refine rn_iinc (x := x2) (v := x2 + 1) (lv' := [(0, .ref 0), (1, .int x1), (2, .int (x2 + 1))]) dX8_sleepers_50 (by simp) rfl (by decide) rfl rfl ?_
      refine rn_goto (tgt := 4) dX8_sleepers_53 (by decide) ?_
      exact h
    · refine rn_aload_n (i := 0) (x := 0) dX8_sleepers_26 rfl (by simp) ?_
      refine rn_getr (t := 27) dX8_sleepers_27 rfl gf_X8_26 rfl rfl ?_
      refine rn_iload_n (i := 2) (x := x2) dX8_sleepers_30 rfl (by simp) ?_
      refine rn_aload_n (i := 0) (x := 0) dX8_sleepers_31 rfl (by simp) ?_
      obtain ⟨t3, ht3e, ht3, h⟩ := h
      refine rn_getd dX8_sleepers_32 rfl gf_X8_19 rfl ht3e ?_
      refine rn_getr (t := t3 + 7) dX8_sleepers_35 ht3 gf_X8_129 rfl (telling_refs _ ht3).2.1.1 ?_
      refine rn_callVi (as := [.int x2, .ref (t3 + 7)]) (st := []) dX8_sleepers_38 mf_X2_growthOf lk_X8_133 im_X2_growthOf rfl rfl rfl rfl (Nat.le_of_ble_eq_true rfl) (Nat.le_of_ble_eq_true rfl) rfl (RI.mono h (fun r5 M4 h => ?_))
      refine rn_if_ne (tgt := 50) dX8_sleepers_41 (by decide) (ite_go h (fun hc h => ?_) (fun hc h => ?_))
      · refine rn_iload_n (i := 1) (x := x1) dX8_sleepers_44 rfl (by simp) ?_
        refine rn_iconst (v := 1) dX8_sleepers_45 rfl ?_
        refine rn_iload_n (i := 2) (x := x2) dX8_sleepers_46 rfl (by simp) ?_
        refine rn_ishl dX8_sleepers_47 ?_
        refine rn_ior dX8_sleepers_48 ?_
        refine rn_istore_n (lv' := [(0, .ref 0), (1, .int (x1 ||| ((1 : Int32) <<< (x2 &&& 31)))), (2, .int x2)]) (hd := dX8_sleepers_49) (i := 1) (hi := rfl) (hn := by decide) (hf := rfl) (hl := rfl) ?_
        refine rn_iinc (x := x2) (v := x2 + 1) (lv' := [(0, .ref 0), (1, .int (x1 ||| ((1 : Int32) <<< (x2 &&& 31)))), (2, .int (x2 + 1))]) dX8_sleepers_50 (by simp) rfl (by decide) rfl rfl ?_
        refine rn_goto (tgt := 4) dX8_sleepers_53 (by decide) ?_
        exact h
      · refine rn_iinc (x := x2) (v := x2 + 1) (lv' := [(0, .ref 0), (1, .int x1), (2, .int (x2 + 1))]) dX8_sleepers_50 (by simp) rfl (by decide) rfl rfl ?_
        refine rn_goto (tgt := 4) dX8_sleepers_53 (by decide) ?_
        exact h
theorem dX8_king_0 : decode μX8_king.2.1 0 = .ok (.iconst (-1), 1) := by decide +kernel
theorem dX8_king_1 : decode μX8_king.2.1 1 = .ok (.istore_n 1, 1) := by decide +kernel
theorem dX8_king_2 : decode μX8_king.2.1 2 = .ok (.iconst 0, 1) := by decide +kernel
theorem dX8_king_3 : decode μX8_king.2.1 3 = .ok (.istore_n 2, 1) := by decide +kernel
theorem dX8_king_4 : decode μX8_king.2.1 4 = .ok (.iload_n 2, 1) := by decide +kernel
theorem dX8_king_5 : decode μX8_king.2.1 5 = .ok (.aload_n 0, 1) := by decide +kernel
theorem dX8_king_6 : decode μX8_king.2.1 6 = .ok (.getfield 26, 3) := by decide +kernel
theorem dX8_king_9 : decode μX8_king.2.1 9 = .ok (.getfield 107, 3) := by decide +kernel
theorem dX8_king_12 : decode μX8_king.2.1 12 = .ok (.if_icmp .ge 48, 3) := by decide +kernel
theorem dX8_king_15 : decode μX8_king.2.1 15 = .ok (.aload_n 0, 1) := by decide +kernel
theorem dX8_king_16 : decode μX8_king.2.1 16 = .ok (.getfield 26, 3) := by decide +kernel
theorem dX8_king_19 : decode μX8_king.2.1 19 = .ok (.iload_n 2, 1) := by decide +kernel
theorem dX8_king_20 : decode μX8_king.2.1 20 = .ok (.invokevirtual 117, 3) := by decide +kernel
theorem dX8_king_23 : decode μX8_king.2.1 23 = .ok (.ifCond .eq 31, 3) := by decide +kernel
theorem dX8_king_26 : decode μX8_king.2.1 26 = .ok (.iload_n 1, 1) := by decide +kernel
theorem dX8_king_27 : decode μX8_king.2.1 27 = .ok (.iconst (-1), 1) := by decide +kernel
theorem dX8_king_28 : decode μX8_king.2.1 28 = .ok (.if_icmp .eq 24, 3) := by decide +kernel
theorem dX8_king_31 : decode μX8_king.2.1 31 = .ok (.aload_n 0, 1) := by decide +kernel
theorem dX8_king_32 : decode μX8_king.2.1 32 = .ok (.getfield 26, 3) := by decide +kernel
theorem dX8_king_35 : decode μX8_king.2.1 35 = .ok (.getfield 123, 3) := by decide +kernel
theorem dX8_king_38 : decode μX8_king.2.1 38 = .ok (.iload_n 2, 1) := by decide +kernel
theorem dX8_king_39 : decode μX8_king.2.1 39 = .ok (.iaload, 1) := by decide +kernel
theorem dX8_king_40 : decode μX8_king.2.1 40 = .ok (.aload_n 0, 1) := by decide +kernel
theorem dX8_king_41 : decode μX8_king.2.1 41 = .ok (.getfield 26, 3) := by decide +kernel
theorem dX8_king_44 : decode μX8_king.2.1 44 = .ok (.getfield 123, 3) := by decide +kernel
theorem dX8_king_47 : decode μX8_king.2.1 47 = .ok (.iload_n 1, 1) := by decide +kernel
theorem dX8_king_48 : decode μX8_king.2.1 48 = .ok (.iaload, 1) := by decide +kernel
theorem dX8_king_49 : decode μX8_king.2.1 49 = .ok (.if_icmp .le 5, 3) := by decide +kernel
theorem dX8_king_52 : decode μX8_king.2.1 52 = .ok (.iload_n 2, 1) := by decide +kernel
theorem dX8_king_53 : decode μX8_king.2.1 53 = .ok (.istore_n 1, 1) := by decide +kernel
theorem dX8_king_54 : decode μX8_king.2.1 54 = .ok (.iinc 2 1, 3) := by decide +kernel
theorem dX8_king_57 : decode μX8_king.2.1 57 = .ok (.goto (-53), 3) := by decide +kernel
theorem dX8_king_60 : decode μX8_king.2.1 60 = .ok (.iload_n 1, 1) := by decide +kernel
theorem dX8_king_61 : decode μX8_king.2.1 61 = .ok (.ireturn, 1) := by decide +kernel
set_option maxRecDepth 20000 in
theorem sg_X8_king_0 {d : Nat}  {M : Mem} {K : (Int32 → Mem → Prop)}  (h : RI (d + 1) μX8_king 4 [(0, .ref 0), (1, .int ((-1))), (2, .int 0)] [] M K) : CI (d + 1) μX8_king [.ref 0] M K := by
  show Rn (d + 1) μX8_king 0 [(0, .ref 0)] [] M _
  refine rn_iconst (v := -1) dX8_king_0 rfl ?_
  refine rn_istore_n (lv' := [(0, .ref 0), (1, .int ((-1)))]) (hd := dX8_king_1) (i := 1) (hi := rfl) (hn := by decide) (hf := rfl) (hl := rfl) ?_
  refine rn_iconst (v := 0) dX8_king_2 rfl ?_
  refine rn_istore_n (lv' := [(0, .ref 0), (1, .int ((-1))), (2, .int 0)]) (hd := dX8_king_3) (i := 2) (hi := rfl) (hn := by decide) (hf := rfl) (hl := rfl) ?_
  exact h
set_option maxRecDepth 20000 in
theorem sg_X8_king_4 {d : Nat} {x1 : Int32} {x2 : Int32} {M : Mem} {K : (Int32 → Mem → Prop)}  (h : (if ri M 27 0 ≤ x2 then K x1 M else (CI d μX2_isThere [.ref 27, .int x2] M (fun r2 M1 => (if r2 = 0 then RI (d + 1) μX8_king 4 [(0, .ref 0), (1, .int x1), (2, .int (x2 + 1))] [] M1 K else (if x1 = (-1) then RI (d + 1) μX8_king 4 [(0, .ref 0), (1, .int x2), (2, .int (x2 + 1))] [] M1 K else (vp_in x2 8 ∧ (vp_in x1 8 ∧ (if ri M1 31 (nx x2) ≤ ri M1 31 (nx x1) then RI (d + 1) μX8_king 4 [(0, .ref 0), (1, .int x1), (2, .int (x2 + 1))] [] M1 K else RI (d + 1) μX8_king 4 [(0, .ref 0), (1, .int x2), (2, .int (x2 + 1))] [] M1 K))))))))) : RI (d + 1) μX8_king 4 [(0, .ref 0), (1, .int x1), (2, .int x2)] [] M K := by
  show Rn (d + 1) μX8_king 4 [(0, .ref 0), (1, .int x1), (2, .int x2)] [] M _
  refine rn_iload_n (i := 2) (x := x2) dX8_king_4 rfl (by simp) ?_
  refine rn_aload_n (i := 0) (x := 0) dX8_king_5 rfl (by simp) ?_
  refine rn_getr (t := 27) dX8_king_6 rfl gf_X8_26 rfl rfl ?_
  refine rn_geti dX8_king_9 rfl gf_X8_107 (by decide) ?_
  refine rn_icmp_ge (tgt := 60) dX8_king_12 (by decide) (ite_go h (fun hc h => ?_) (fun hc h => ?_))
  · refine rn_iload_n (i := 1) (x := x1) dX8_king_60 rfl (by simp) ?_
    exact rn_iret dX8_king_61 rfl ⟨_, rfl, h⟩
  · refine rn_aload_n (i := 0) (x := 0) dX8_king_15 rfl (by simp) ?_
    refine rn_getr (t := 27) dX8_king_16 rfl gf_X8_26 rfl rfl ?_
    refine rn_iload_n (i := 2) (x := x2) dX8_king_19 rfl (by simp) ?_
    refine rn_callVi (as := [.int x2]) (st := []) dX8_king_20 mf_X2_isThere lk_X8_117 im_X2_isThere rfl rfl rfl rfl (Nat.le_of_ble_eq_true rfl) (Nat.le_of_ble_eq_true rfl) rfl (RI.mono h (fun r2 M1 h => ?_))
    refine rn_if_eq (tgt := 54) dX8_king_23 (by decide) (ite_go h (fun hc h => ?_) (fun hc h => ?_))
    · refine rn_iinc (x := x2) (v := x2 + 1) (lv' := [(0, .ref 0), (1, .int x1), (2, .int (x2 + 1))]) dX8_king_54 (by simp) rfl (by decide) rfl rfl ?_
      refine rn_goto (tgt := 4) dX8_king_57 (by decide) ?_
      exact h
    · refine rn_iload_n (i := 1) (x := x1) dX8_king_26 rfl (by simp) ?_
      refine rn_iconst (v := -1) dX8_king_27 rfl ?_
      refine rn_icmp_eq (tgt := 52) dX8_king_28 (by decide) (ite_go h (fun hc h => ?_) (fun hc h => ?_))
      · refine rn_iload_n (i := 2) (x := x2) dX8_king_52 rfl (by simp) ?_
        refine rn_istore_n (lv' := [(0, .ref 0), (1, .int x2), (2, .int x2)]) (hd := dX8_king_53) (i := 1) (hi := rfl) (hn := by decide) (hf := rfl) (hl := rfl) ?_
        refine rn_iinc (x := x2) (v := x2 + 1) (lv' := [(0, .ref 0), (1, .int x2), (2, .int (x2 + 1))]) dX8_king_54 (by simp) rfl (by decide) rfl rfl ?_
        refine rn_goto (tgt := 4) dX8_king_57 (by decide) ?_
        exact h
      · refine rn_aload_n (i := 0) (x := 0) dX8_king_31 rfl (by simp) ?_
        refine rn_getr (t := 27) dX8_king_32 rfl gf_X8_26 rfl rfl ?_
        refine rn_getr (t := 31) dX8_king_35 rfl gf_X8_123 rfl rfl ?_
        refine rn_iload_n (i := 2) (x := x2) dX8_king_38 rfl (by simp) ?_
        obtain ⟨hi, h⟩ := h
        refine rn_iaload dX8_king_39 rfl hi ?_
        refine rn_aload_n (i := 0) (x := 0) dX8_king_40 rfl (by simp) ?_
        refine rn_getr (t := 27) dX8_king_41 rfl gf_X8_26 rfl rfl ?_
        refine rn_getr (t := 31) dX8_king_44 rfl gf_X8_123 rfl rfl ?_
        refine rn_iload_n (i := 1) (x := x1) dX8_king_47 rfl (by simp) ?_
        obtain ⟨hi, h⟩ := h
        refine rn_iaload dX8_king_48 rfl hi ?_
        refine rn_icmp_le (tgt := 54) dX8_king_49 (by decide) (ite_go h (fun hc h => ?_) (fun hc h => ?_))
        · refine rn_iinc (x := x2) (v := x2 + 1) (lv' := [(0, .ref 0), (1, .int x1), (2, .int (x2 + 1))]) dX8_king_54 (by simp) rfl (by decide) rfl rfl ?_
          refine rn_goto (tgt := 4) dX8_king_57 (by decide) ?_
          exact h
        · refine rn_iload_n (i := 2) (x := x2) dX8_king_52 rfl (by simp) ?_
          refine rn_istore_n (lv' := [(0, .ref 0), (1, .int x2), (2, .int x2)]) (hd := dX8_king_53) (i := 1) (hi := rfl) (hn := by decide) (hf := rfl) (hl := rfl) ?_
          refine rn_iinc (x := x2) (v := x2 + 1) (lv' := [(0, .ref 0), (1, .int x2), (2, .int (x2 + 1))]) dX8_king_54 (by simp) rfl (by decide) rfl rfl ?_
          refine rn_goto (tgt := 4) dX8_king_57 (by decide) ?_
          exact h
theorem dX8_restless_0 : decode μX8_restless.2.1 0 = .ok (.iconst 0, 1) := by decide +kernel
theorem dX8_restless_1 : decode μX8_restless.2.1 1 = .ok (.istore_n 1, 1) := by decide +kernel
theorem dX8_restless_2 : decode μX8_restless.2.1 2 = .ok (.iconst 0, 1) := by decide +kernel
theorem dX8_restless_3 : decode μX8_restless.2.1 3 = .ok (.istore_n 2, 1) := by decide +kernel
theorem dX8_restless_4 : decode μX8_restless.2.1 4 = .ok (.iload_n 2, 1) := by decide +kernel
theorem dX8_restless_5 : decode μX8_restless.2.1 5 = .ok (.aload_n 0, 1) := by decide +kernel
theorem dX8_restless_6 : decode μX8_restless.2.1 6 = .ok (.getfield 26, 3) := by decide +kernel
theorem dX8_restless_9 : decode μX8_restless.2.1 9 = .ok (.getfield 107, 3) := by decide +kernel
theorem dX8_restless_12 : decode μX8_restless.2.1 12 = .ok (.if_icmp .ge 45, 3) := by decide +kernel
theorem dX8_restless_15 : decode μX8_restless.2.1 15 = .ok (.iload_n 2, 1) := by decide +kernel
theorem dX8_restless_16 : decode μX8_restless.2.1 16 = .ok (.iconst 1, 1) := by decide +kernel
theorem dX8_restless_17 : decode μX8_restless.2.1 17 = .ok (.iadd, 1) := by decide +kernel
theorem dX8_restless_18 : decode μX8_restless.2.1 18 = .ok (.istore_n 3, 1) := by decide +kernel
theorem dX8_restless_19 : decode μX8_restless.2.1 19 = .ok (.iload_n 3, 1) := by decide +kernel
theorem dX8_restless_20 : decode μX8_restless.2.1 20 = .ok (.aload_n 0, 1) := by decide +kernel
theorem dX8_restless_21 : decode μX8_restless.2.1 21 = .ok (.getfield 26, 3) := by decide +kernel
theorem dX8_restless_24 : decode μX8_restless.2.1 24 = .ok (.getfield 107, 3) := by decide +kernel
theorem dX8_restless_27 : decode μX8_restless.2.1 27 = .ok (.if_icmp .ge 24, 3) := by decide +kernel
theorem dX8_restless_30 : decode μX8_restless.2.1 30 = .ok (.aload_n 0, 1) := by decide +kernel
theorem dX8_restless_31 : decode μX8_restless.2.1 31 = .ok (.getfield 26, 3) := by decide +kernel
theorem dX8_restless_34 : decode μX8_restless.2.1 34 = .ok (.iload_n 2, 1) := by decide +kernel
theorem dX8_restless_35 : decode μX8_restless.2.1 35 = .ok (.iload_n 3, 1) := by decide +kernel
theorem dX8_restless_36 : decode μX8_restless.2.1 36 = .ok (.invokevirtual 154, 3) := by decide +kernel
theorem dX8_restless_39 : decode μX8_restless.2.1 39 = .ok (.ifCond .eq 6, 3) := by decide +kernel
theorem dX8_restless_42 : decode μX8_restless.2.1 42 = .ok (.iinc 1 1, 3) := by decide +kernel
theorem dX8_restless_45 : decode μX8_restless.2.1 45 = .ok (.iinc 3 1, 3) := by decide +kernel
theorem dX8_restless_48 : decode μX8_restless.2.1 48 = .ok (.goto (-29), 3) := by decide +kernel
theorem dX8_restless_51 : decode μX8_restless.2.1 51 = .ok (.iinc 2 1, 3) := by decide +kernel
theorem dX8_restless_54 : decode μX8_restless.2.1 54 = .ok (.goto (-50), 3) := by decide +kernel
theorem dX8_restless_57 : decode μX8_restless.2.1 57 = .ok (.iload_n 1, 1) := by decide +kernel
theorem dX8_restless_58 : decode μX8_restless.2.1 58 = .ok (.ireturn, 1) := by decide +kernel
set_option maxRecDepth 20000 in
theorem sg_X8_restless_0 {d : Nat}  {M : Mem} {K : (Int32 → Mem → Prop)}  (h : RI (d + 1) μX8_restless 4 [(0, .ref 0), (1, .int 0), (2, .int 0)] [] M K) : CI (d + 1) μX8_restless [.ref 0] M K := by
  show Rn (d + 1) μX8_restless 0 [(0, .ref 0)] [] M _
  refine rn_iconst (v := 0) dX8_restless_0 rfl ?_
  refine rn_istore_n (lv' := [(0, .ref 0), (1, .int 0)]) (hd := dX8_restless_1) (i := 1) (hi := rfl) (hn := by decide) (hf := rfl) (hl := rfl) ?_
  refine rn_iconst (v := 0) dX8_restless_2 rfl ?_
  refine rn_istore_n (lv' := [(0, .ref 0), (1, .int 0), (2, .int 0)]) (hd := dX8_restless_3) (i := 2) (hi := rfl) (hn := by decide) (hf := rfl) (hl := rfl) ?_
  exact h
set_option maxRecDepth 20000 in
theorem sg_X8_restless_4 {d : Nat} {x1 : Int32} {x2 : Int32} {M : Mem} {K : (Int32 → Mem → Prop)}  (h : (if ri M 27 0 ≤ x2 then K x1 M else RI (d + 1) μX8_restless 19 [(0, .ref 0), (1, .int x1), (2, .int x2), (3, .int (x2 + 1))] [] M K)) : RI (d + 1) μX8_restless 4 [(0, .ref 0), (1, .int x1), (2, .int x2)] [] M K := by
  show Rn (d + 1) μX8_restless 4 [(0, .ref 0), (1, .int x1), (2, .int x2)] [] M _
  refine rn_iload_n (i := 2) (x := x2) dX8_restless_4 rfl (by simp) ?_
  refine rn_aload_n (i := 0) (x := 0) dX8_restless_5 rfl (by simp) ?_
  refine rn_getr (t := 27) dX8_restless_6 rfl gf_X8_26 rfl rfl ?_
  refine rn_geti dX8_restless_9 rfl gf_X8_107 (by decide) ?_
  refine rn_icmp_ge (tgt := 57) dX8_restless_12 (by decide) (ite_go h (fun hc h => ?_) (fun hc h => ?_))
  · refine rn_iload_n (i := 1) (x := x1) dX8_restless_57 rfl (by simp) ?_
    exact rn_iret dX8_restless_58 rfl ⟨_, rfl, h⟩
  · refine rn_iload_n (i := 2) (x := x2) dX8_restless_15 rfl (by simp) ?_
    refine rn_iconst (v := 1) dX8_restless_16 rfl ?_
    refine rn_iadd dX8_restless_17 ?_
    refine rn_istore_n (lv' := [(0, .ref 0), (1, .int x1), (2, .int x2), (3, .int (x2 + 1))]) (hd := dX8_restless_18) (i := 3) (hi := rfl) (hn := by decide) (hf := rfl) (hl := rfl) ?_
    exact h
set_option maxRecDepth 20000 in
theorem sg_X8_restless_19 {d : Nat} {x1 : Int32} {x2 : Int32} {x3 : Int32} {M : Mem} {K : (Int32 → Mem → Prop)}  (h : (if ri M 27 0 ≤ x3 then RI (d + 1) μX8_restless 4 [(0, .ref 0), (1, .int x1), (2, .int (x2 + 1))] [] M K else (CI d μX2_flippedEnds [.ref 27, .int x2, .int x3] M (fun r2 M1 => (if r2 = 0 then RI (d + 1) μX8_restless 19 [(0, .ref 0), (1, .int x1), (2, .int x2), (3, .int (x3 + 1))] [] M1 K else RI (d + 1) μX8_restless 19 [(0, .ref 0), (1, .int (x1 + 1)), (2, .int x2), (3, .int (x3 + 1))] [] M1 K))))) : RI (d + 1) μX8_restless 19 [(0, .ref 0), (1, .int x1), (2, .int x2), (3, .int x3)] [] M K := by
  show Rn (d + 1) μX8_restless 19 [(0, .ref 0), (1, .int x1), (2, .int x2), (3, .int x3)] [] M _
  refine rn_iload_n (i := 3) (x := x3) dX8_restless_19 rfl (by simp) ?_
  refine rn_aload_n (i := 0) (x := 0) dX8_restless_20 rfl (by simp) ?_
  refine rn_getr (t := 27) dX8_restless_21 rfl gf_X8_26 rfl rfl ?_
  refine rn_geti dX8_restless_24 rfl gf_X8_107 (by decide) ?_
  refine rn_icmp_ge (tgt := 51) dX8_restless_27 (by decide) (ite_go h (fun hc h => ?_) (fun hc h => ?_))
  · refine rn_iinc (x := x2) (v := x2 + 1) (lv' := [(0, .ref 0), (1, .int x1), (2, .int (x2 + 1)), (3, .int x3)]) dX8_restless_51 (by simp) rfl (by decide) rfl rfl ?_
    refine rn_goto (tgt := 4) dX8_restless_54 (by decide) ?_
    refine Rn.sub (lv' := [(0, .ref 0), (1, .int x1), (2, .int (x2 + 1))]) (by simp) ?_
    exact h
  · refine rn_aload_n (i := 0) (x := 0) dX8_restless_30 rfl (by simp) ?_
    refine rn_getr (t := 27) dX8_restless_31 rfl gf_X8_26 rfl rfl ?_
    refine rn_iload_n (i := 2) (x := x2) dX8_restless_34 rfl (by simp) ?_
    refine rn_iload_n (i := 3) (x := x3) dX8_restless_35 rfl (by simp) ?_
    refine rn_callVi (as := [.int x2, .int x3]) (st := []) dX8_restless_36 mf_X2_flippedEnds lk_X8_154 im_X2_flippedEnds rfl rfl rfl rfl (Nat.le_of_ble_eq_true rfl) (Nat.le_of_ble_eq_true rfl) rfl (RI.mono h (fun r2 M1 h => ?_))
    refine rn_if_eq (tgt := 45) dX8_restless_39 (by decide) (ite_go h (fun hc h => ?_) (fun hc h => ?_))
    · refine rn_iinc (x := x3) (v := x3 + 1) (lv' := [(0, .ref 0), (1, .int x1), (2, .int x2), (3, .int (x3 + 1))]) dX8_restless_45 (by simp) rfl (by decide) rfl rfl ?_
      refine rn_goto (tgt := 19) dX8_restless_48 (by decide) ?_
      exact h
    · refine rn_iinc (x := x1) (v := x1 + 1) (lv' := [(0, .ref 0), (1, .int (x1 + 1)), (2, .int x2), (3, .int x3)]) dX8_restless_42 (by simp) rfl (by decide) rfl rfl ?_
      refine rn_iinc (x := x3) (v := x3 + 1) (lv' := [(0, .ref 0), (1, .int (x1 + 1)), (2, .int x2), (3, .int (x3 + 1))]) dX8_restless_45 (by simp) rfl (by decide) rfl rfl ?_
      refine rn_goto (tgt := 19) dX8_restless_48 (by decide) ?_
      exact h
theorem dX8_brides_0 : decode μX8_brides.2.1 0 = .ok (.iconst 0, 1) := by decide +kernel
theorem dX8_brides_1 : decode μX8_brides.2.1 1 = .ok (.istore_n 1, 1) := by decide +kernel
theorem dX8_brides_2 : decode μX8_brides.2.1 2 = .ok (.iconst 0, 1) := by decide +kernel
theorem dX8_brides_3 : decode μX8_brides.2.1 3 = .ok (.istore_n 2, 1) := by decide +kernel
theorem dX8_brides_4 : decode μX8_brides.2.1 4 = .ok (.iload_n 2, 1) := by decide +kernel
theorem dX8_brides_5 : decode μX8_brides.2.1 5 = .ok (.aload_n 0, 1) := by decide +kernel
theorem dX8_brides_6 : decode μX8_brides.2.1 6 = .ok (.getfield 26, 3) := by decide +kernel
theorem dX8_brides_9 : decode μX8_brides.2.1 9 = .ok (.getfield 107, 3) := by decide +kernel
theorem dX8_brides_12 : decode μX8_brides.2.1 12 = .ok (.if_icmp .ge 45, 3) := by decide +kernel
theorem dX8_brides_15 : decode μX8_brides.2.1 15 = .ok (.iload_n 2, 1) := by decide +kernel
theorem dX8_brides_16 : decode μX8_brides.2.1 16 = .ok (.iconst 1, 1) := by decide +kernel
theorem dX8_brides_17 : decode μX8_brides.2.1 17 = .ok (.iadd, 1) := by decide +kernel
theorem dX8_brides_18 : decode μX8_brides.2.1 18 = .ok (.istore_n 3, 1) := by decide +kernel
theorem dX8_brides_19 : decode μX8_brides.2.1 19 = .ok (.iload_n 3, 1) := by decide +kernel
theorem dX8_brides_20 : decode μX8_brides.2.1 20 = .ok (.aload_n 0, 1) := by decide +kernel
theorem dX8_brides_21 : decode μX8_brides.2.1 21 = .ok (.getfield 26, 3) := by decide +kernel
theorem dX8_brides_24 : decode μX8_brides.2.1 24 = .ok (.getfield 107, 3) := by decide +kernel
theorem dX8_brides_27 : decode μX8_brides.2.1 27 = .ok (.if_icmp .ge 24, 3) := by decide +kernel
theorem dX8_brides_30 : decode μX8_brides.2.1 30 = .ok (.aload_n 0, 1) := by decide +kernel
theorem dX8_brides_31 : decode μX8_brides.2.1 31 = .ok (.getfield 26, 3) := by decide +kernel
theorem dX8_brides_34 : decode μX8_brides.2.1 34 = .ok (.iload_n 2, 1) := by decide +kernel
theorem dX8_brides_35 : decode μX8_brides.2.1 35 = .ok (.iload_n 3, 1) := by decide +kernel
theorem dX8_brides_36 : decode μX8_brides.2.1 36 = .ok (.invokevirtual 158, 3) := by decide +kernel
theorem dX8_brides_39 : decode μX8_brides.2.1 39 = .ok (.ifCond .eq 6, 3) := by decide +kernel
theorem dX8_brides_42 : decode μX8_brides.2.1 42 = .ok (.iinc 1 1, 3) := by decide +kernel
theorem dX8_brides_45 : decode μX8_brides.2.1 45 = .ok (.iinc 3 1, 3) := by decide +kernel
theorem dX8_brides_48 : decode μX8_brides.2.1 48 = .ok (.goto (-29), 3) := by decide +kernel
theorem dX8_brides_51 : decode μX8_brides.2.1 51 = .ok (.iinc 2 1, 3) := by decide +kernel
theorem dX8_brides_54 : decode μX8_brides.2.1 54 = .ok (.goto (-50), 3) := by decide +kernel
theorem dX8_brides_57 : decode μX8_brides.2.1 57 = .ok (.iload_n 1, 1) := by decide +kernel
theorem dX8_brides_58 : decode μX8_brides.2.1 58 = .ok (.ireturn, 1) := by decide +kernel
set_option maxRecDepth 20000 in
theorem sg_X8_brides_0 {d : Nat}  {M : Mem} {K : (Int32 → Mem → Prop)}  (h : RI (d + 1) μX8_brides 4 [(0, .ref 0), (1, .int 0), (2, .int 0)] [] M K) : CI (d + 1) μX8_brides [.ref 0] M K := by
  show Rn (d + 1) μX8_brides 0 [(0, .ref 0)] [] M _
  refine rn_iconst (v := 0) dX8_brides_0 rfl ?_
  refine rn_istore_n (lv' := [(0, .ref 0), (1, .int 0)]) (hd := dX8_brides_1) (i := 1) (hi := rfl) (hn := by decide) (hf := rfl) (hl := rfl) ?_
  refine rn_iconst (v := 0) dX8_brides_2 rfl ?_
  refine rn_istore_n (lv' := [(0, .ref 0), (1, .int 0), (2, .int 0)]) (hd := dX8_brides_3) (i := 2) (hi := rfl) (hn := by decide) (hf := rfl) (hl := rfl) ?_
  exact h
set_option maxRecDepth 20000 in
theorem sg_X8_brides_4 {d : Nat} {x1 : Int32} {x2 : Int32} {M : Mem} {K : (Int32 → Mem → Prop)}  (h : (if ri M 27 0 ≤ x2 then K x1 M else RI (d + 1) μX8_brides 19 [(0, .ref 0), (1, .int x1), (2, .int x2), (3, .int (x2 + 1))] [] M K)) : RI (d + 1) μX8_brides 4 [(0, .ref 0), (1, .int x1), (2, .int x2)] [] M K := by
  show Rn (d + 1) μX8_brides 4 [(0, .ref 0), (1, .int x1), (2, .int x2)] [] M _
  refine rn_iload_n (i := 2) (x := x2) dX8_brides_4 rfl (by simp) ?_
  refine rn_aload_n (i := 0) (x := 0) dX8_brides_5 rfl (by simp) ?_
  refine rn_getr (t := 27) dX8_brides_6 rfl gf_X8_26 rfl rfl ?_
  refine rn_geti dX8_brides_9 rfl gf_X8_107 (by decide) ?_
  refine rn_icmp_ge (tgt := 57) dX8_brides_12 (by decide) (ite_go h (fun hc h => ?_) (fun hc h => ?_))
  · refine rn_iload_n (i := 1) (x := x1) dX8_brides_57 rfl (by simp) ?_
    exact rn_iret dX8_brides_58 rfl ⟨_, rfl, h⟩
  · refine rn_iload_n (i := 2) (x := x2) dX8_brides_15 rfl (by simp) ?_
    refine rn_iconst (v := 1) dX8_brides_16 rfl ?_
    refine rn_iadd dX8_brides_17 ?_
    refine rn_istore_n (lv' := [(0, .ref 0), (1, .int x1), (2, .int x2), (3, .int (x2 + 1))]) (hd := dX8_brides_18) (i := 3) (hi := rfl) (hn := by decide) (hf := rfl) (hl := rfl) ?_
    exact h
set_option maxRecDepth 20000 in
theorem sg_X8_brides_19 {d : Nat} {x1 : Int32} {x2 : Int32} {x3 : Int32} {M : Mem} {K : (Int32 → Mem → Prop)}  (h : (if ri M 27 0 ≤ x3 then RI (d + 1) μX8_brides 4 [(0, .ref 0), (1, .int x1), (2, .int (x2 + 1))] [] M K else (CI d μX2_canMerge [.ref 27, .int x2, .int x3] M (fun r2 M1 => (if r2 = 0 then RI (d + 1) μX8_brides 19 [(0, .ref 0), (1, .int x1), (2, .int x2), (3, .int (x3 + 1))] [] M1 K else RI (d + 1) μX8_brides 19 [(0, .ref 0), (1, .int (x1 + 1)), (2, .int x2), (3, .int (x3 + 1))] [] M1 K))))) : RI (d + 1) μX8_brides 19 [(0, .ref 0), (1, .int x1), (2, .int x2), (3, .int x3)] [] M K := by
  show Rn (d + 1) μX8_brides 19 [(0, .ref 0), (1, .int x1), (2, .int x2), (3, .int x3)] [] M _
  refine rn_iload_n (i := 3) (x := x3) dX8_brides_19 rfl (by simp) ?_
  refine rn_aload_n (i := 0) (x := 0) dX8_brides_20 rfl (by simp) ?_
  refine rn_getr (t := 27) dX8_brides_21 rfl gf_X8_26 rfl rfl ?_
  refine rn_geti dX8_brides_24 rfl gf_X8_107 (by decide) ?_
  refine rn_icmp_ge (tgt := 51) dX8_brides_27 (by decide) (ite_go h (fun hc h => ?_) (fun hc h => ?_))
  · refine rn_iinc (x := x2) (v := x2 + 1) (lv' := [(0, .ref 0), (1, .int x1), (2, .int (x2 + 1)), (3, .int x3)]) dX8_brides_51 (by simp) rfl (by decide) rfl rfl ?_
    refine rn_goto (tgt := 4) dX8_brides_54 (by decide) ?_
    refine Rn.sub (lv' := [(0, .ref 0), (1, .int x1), (2, .int (x2 + 1))]) (by simp) ?_
    exact h
  · refine rn_aload_n (i := 0) (x := 0) dX8_brides_30 rfl (by simp) ?_
    refine rn_getr (t := 27) dX8_brides_31 rfl gf_X8_26 rfl rfl ?_
    refine rn_iload_n (i := 2) (x := x2) dX8_brides_34 rfl (by simp) ?_
    refine rn_iload_n (i := 3) (x := x3) dX8_brides_35 rfl (by simp) ?_
    refine rn_callVi (as := [.int x2, .int x3]) (st := []) dX8_brides_36 mf_X2_canMerge lk_X8_158 im_X2_canMerge rfl rfl rfl rfl (Nat.le_of_ble_eq_true rfl) (Nat.le_of_ble_eq_true rfl) rfl (RI.mono h (fun r2 M1 h => ?_))
    refine rn_if_eq (tgt := 45) dX8_brides_39 (by decide) (ite_go h (fun hc h => ?_) (fun hc h => ?_))
    · refine rn_iinc (x := x3) (v := x3 + 1) (lv' := [(0, .ref 0), (1, .int x1), (2, .int x2), (3, .int (x3 + 1))]) dX8_brides_45 (by simp) rfl (by decide) rfl rfl ?_
      refine rn_goto (tgt := 19) dX8_brides_48 (by decide) ?_
      exact h
    · refine rn_iinc (x := x1) (v := x1 + 1) (lv' := [(0, .ref 0), (1, .int (x1 + 1)), (2, .int x2), (3, .int x3)]) dX8_brides_42 (by simp) rfl (by decide) rfl rfl ?_
      refine rn_iinc (x := x3) (v := x3 + 1) (lv' := [(0, .ref 0), (1, .int (x1 + 1)), (2, .int x2), (3, .int (x3 + 1))]) dX8_brides_45 (by simp) rfl (by decide) rfl rfl ?_
      refine rn_goto (tgt := 19) dX8_brides_48 (by decide) ?_
      exact h
theorem dX8_acres_0 : decode μX8_acres.2.1 0 = .ok (.iconst 0, 1) := by decide +kernel
theorem dX8_acres_1 : decode μX8_acres.2.1 1 = .ok (.istore_n 1, 1) := by decide +kernel
theorem dX8_acres_2 : decode μX8_acres.2.1 2 = .ok (.iconst 0, 1) := by decide +kernel
theorem dX8_acres_3 : decode μX8_acres.2.1 3 = .ok (.istore_n 2, 1) := by decide +kernel
theorem dX8_acres_4 : decode μX8_acres.2.1 4 = .ok (.iload_n 2, 1) := by decide +kernel
theorem dX8_acres_5 : decode μX8_acres.2.1 5 = .ok (.aload_n 0, 1) := by decide +kernel
theorem dX8_acres_6 : decode μX8_acres.2.1 6 = .ok (.getfield 26, 3) := by decide +kernel
theorem dX8_acres_9 : decode μX8_acres.2.1 9 = .ok (.getfield 107, 3) := by decide +kernel
theorem dX8_acres_12 : decode μX8_acres.2.1 12 = .ok (.if_icmp .ge 21, 3) := by decide +kernel
theorem dX8_acres_15 : decode μX8_acres.2.1 15 = .ok (.iload_n 1, 1) := by decide +kernel
theorem dX8_acres_16 : decode μX8_acres.2.1 16 = .ok (.aload_n 0, 1) := by decide +kernel
theorem dX8_acres_17 : decode μX8_acres.2.1 17 = .ok (.getfield 26, 3) := by decide +kernel
theorem dX8_acres_20 : decode μX8_acres.2.1 20 = .ok (.getfield 120, 3) := by decide +kernel
theorem dX8_acres_23 : decode μX8_acres.2.1 23 = .ok (.iload_n 2, 1) := by decide +kernel
theorem dX8_acres_24 : decode μX8_acres.2.1 24 = .ok (.iaload, 1) := by decide +kernel
theorem dX8_acres_25 : decode μX8_acres.2.1 25 = .ok (.iadd, 1) := by decide +kernel
theorem dX8_acres_26 : decode μX8_acres.2.1 26 = .ok (.istore_n 1, 1) := by decide +kernel
theorem dX8_acres_27 : decode μX8_acres.2.1 27 = .ok (.iinc 2 1, 3) := by decide +kernel
theorem dX8_acres_30 : decode μX8_acres.2.1 30 = .ok (.goto (-26), 3) := by decide +kernel
theorem dX8_acres_33 : decode μX8_acres.2.1 33 = .ok (.iload_n 1, 1) := by decide +kernel
theorem dX8_acres_34 : decode μX8_acres.2.1 34 = .ok (.ireturn, 1) := by decide +kernel
set_option maxRecDepth 20000 in
theorem sg_X8_acres_0 {d : Nat}  {M : Mem} {K : (Int32 → Mem → Prop)}  (h : RI d μX8_acres 4 [(0, .ref 0), (1, .int 0), (2, .int 0)] [] M K) : CI d μX8_acres [.ref 0] M K := by
  show Rn d μX8_acres 0 [(0, .ref 0)] [] M _
  refine rn_iconst (v := 0) dX8_acres_0 rfl ?_
  refine rn_istore_n (lv' := [(0, .ref 0), (1, .int 0)]) (hd := dX8_acres_1) (i := 1) (hi := rfl) (hn := by decide) (hf := rfl) (hl := rfl) ?_
  refine rn_iconst (v := 0) dX8_acres_2 rfl ?_
  refine rn_istore_n (lv' := [(0, .ref 0), (1, .int 0), (2, .int 0)]) (hd := dX8_acres_3) (i := 2) (hi := rfl) (hn := by decide) (hf := rfl) (hl := rfl) ?_
  exact h
set_option maxRecDepth 20000 in
theorem sg_X8_acres_4 {d : Nat} {x1 : Int32} {x2 : Int32} {M : Mem} {K : (Int32 → Mem → Prop)}  (h : (if ri M 27 0 ≤ x2 then K x1 M else (vp_in x2 8 ∧ RI d μX8_acres 4 [(0, .ref 0), (1, .int (x1 + (ri M 28 (nx x2)))), (2, .int (x2 + 1))] [] M K))) : RI d μX8_acres 4 [(0, .ref 0), (1, .int x1), (2, .int x2)] [] M K := by
  show Rn d μX8_acres 4 [(0, .ref 0), (1, .int x1), (2, .int x2)] [] M _
  refine rn_iload_n (i := 2) (x := x2) dX8_acres_4 rfl (by simp) ?_
  refine rn_aload_n (i := 0) (x := 0) dX8_acres_5 rfl (by simp) ?_
  refine rn_getr (t := 27) dX8_acres_6 rfl gf_X8_26 rfl rfl ?_
  refine rn_geti dX8_acres_9 rfl gf_X8_107 (by decide) ?_
  refine rn_icmp_ge (tgt := 33) dX8_acres_12 (by decide) (ite_go h (fun hc h => ?_) (fun hc h => ?_))
  · refine rn_iload_n (i := 1) (x := x1) dX8_acres_33 rfl (by simp) ?_
    exact rn_iret dX8_acres_34 rfl ⟨_, rfl, h⟩
  · refine rn_iload_n (i := 1) (x := x1) dX8_acres_15 rfl (by simp) ?_
    refine rn_aload_n (i := 0) (x := 0) dX8_acres_16 rfl (by simp) ?_
    refine rn_getr (t := 27) dX8_acres_17 rfl gf_X8_26 rfl rfl ?_
    refine rn_getr (t := 28) dX8_acres_20 rfl gf_X8_120 rfl rfl ?_
    refine rn_iload_n (i := 2) (x := x2) dX8_acres_23 rfl (by simp) ?_
    obtain ⟨hi, h⟩ := h
    refine rn_iaload dX8_acres_24 rfl hi ?_
    refine rn_iadd dX8_acres_25 ?_
    refine rn_istore_n (lv' := [(0, .ref 0), (1, .int (x1 + (ri M 28 (nx x2)))), (2, .int x2)]) (hd := dX8_acres_26) (i := 1) (hi := rfl) (hn := by decide) (hf := rfl) (hl := rfl) ?_
    refine rn_iinc (x := x2) (v := x2 + 1) (lv' := [(0, .ref 0), (1, .int (x1 + (ri M 28 (nx x2)))), (2, .int (x2 + 1))]) dX8_acres_27 (by simp) rfl (by decide) rfl rfl ?_
    refine rn_goto (tgt := 4) dX8_acres_30 (by decide) ?_
    exact h
theorem dX8_law_0 : decode μX8_law.2.1 0 = .ok (.iload_n 1, 1) := by decide +kernel
theorem dX8_law_1 : decode μX8_law.2.1 1 = .ok (.ifCond .lt 10, 3) := by decide +kernel
theorem dX8_law_4 : decode μX8_law.2.1 4 = .ok (.iload_n 1, 1) := by decide +kernel
theorem dX8_law_5 : decode μX8_law.2.1 5 = .ok (.sipush 999, 3) := by decide +kernel
theorem dX8_law_8 : decode μX8_law.2.1 8 = .ok (.if_icmp .le 5, 3) := by decide +kernel
theorem dX8_law_11 : decode μX8_law.2.1 11 = .ok (.iconst (-1), 1) := by decide +kernel
theorem dX8_law_12 : decode μX8_law.2.1 12 = .ok (.ireturn, 1) := by decide +kernel
theorem dX8_law_13 : decode μX8_law.2.1 13 = .ok (.iconst 0, 1) := by decide +kernel
theorem dX8_law_14 : decode μX8_law.2.1 14 = .ok (.istore_n 2, 1) := by decide +kernel
theorem dX8_law_15 : decode μX8_law.2.1 15 = .ok (.iconst 0, 1) := by decide +kernel
theorem dX8_law_16 : decode μX8_law.2.1 16 = .ok (.istore_n 3, 1) := by decide +kernel
theorem dX8_law_17 : decode μX8_law.2.1 17 = .ok (.iload_n 3, 1) := by decide +kernel
theorem dX8_law_18 : decode μX8_law.2.1 18 = .ok (.aload_n 0, 1) := by decide +kernel
theorem dX8_law_19 : decode μX8_law.2.1 19 = .ok (.getfield 26, 3) := by decide +kernel
theorem dX8_law_22 : decode μX8_law.2.1 22 = .ok (.getfield 107, 3) := by decide +kernel
theorem dX8_law_25 : decode μX8_law.2.1 25 = .ok (.if_icmp .ge 78, 3) := by decide +kernel
theorem dX8_law_28 : decode μX8_law.2.1 28 = .ok (.iload_n 1, 1) := by decide +kernel
theorem dX8_law_29 : decode μX8_law.2.1 29 = .ok (.aload_n 0, 1) := by decide +kernel
theorem dX8_law_30 : decode μX8_law.2.1 30 = .ok (.getfield 26, 3) := by decide +kernel
theorem dX8_law_33 : decode μX8_law.2.1 33 = .ok (.getfield 126, 3) := by decide +kernel
theorem dX8_law_36 : decode μX8_law.2.1 36 = .ok (.iload_n 3, 1) := by decide +kernel
theorem dX8_law_37 : decode μX8_law.2.1 37 = .ok (.iaload, 1) := by decide +kernel
theorem dX8_law_38 : decode μX8_law.2.1 38 = .ok (.invokestatic 161, 3) := by decide +kernel
theorem dX8_law_41 : decode μX8_law.2.1 41 = .ok (.imul, 1) := by decide +kernel
theorem dX8_law_42 : decode μX8_law.2.1 42 = .ok (.istore 4, 2) := by decide +kernel
theorem dX8_law_44 : decode μX8_law.2.1 44 = .ok (.aload_n 0, 1) := by decide +kernel
theorem dX8_law_45 : decode μX8_law.2.1 45 = .ok (.getfield 26, 3) := by decide +kernel
theorem dX8_law_48 : decode μX8_law.2.1 48 = .ok (.iload_n 3, 1) := by decide +kernel
theorem dX8_law_49 : decode μX8_law.2.1 49 = .ok (.invokevirtual 117, 3) := by decide +kernel
theorem dX8_law_52 : decode μX8_law.2.1 52 = .ok (.ifCond .eq 45, 3) := by decide +kernel
theorem dX8_law_55 : decode μX8_law.2.1 55 = .ok (.aload_n 0, 1) := by decide +kernel
theorem dX8_law_56 : decode μX8_law.2.1 56 = .ok (.getfield 19, 3) := by decide +kernel
theorem dX8_law_59 : decode μX8_law.2.1 59 = .ok (.getfield 129, 3) := by decide +kernel
theorem dX8_law_62 : decode μX8_law.2.1 62 = .ok (.aload_n 0, 1) := by decide +kernel
theorem dX8_law_63 : decode μX8_law.2.1 63 = .ok (.getfield 26, 3) := by decide +kernel
theorem dX8_law_66 : decode μX8_law.2.1 66 = .ok (.getfield 123, 3) := by decide +kernel
theorem dX8_law_69 : decode μX8_law.2.1 69 = .ok (.iload_n 3, 1) := by decide +kernel
theorem dX8_law_70 : decode μX8_law.2.1 70 = .ok (.iaload, 1) := by decide +kernel
theorem dX8_law_71 : decode μX8_law.2.1 71 = .ok (.iload_n 1, 1) := by decide +kernel
theorem dX8_law_72 : decode μX8_law.2.1 72 = .ok (.iload 4, 2) := by decide +kernel
theorem dX8_law_74 : decode μX8_law.2.1 74 = .ok (.aload_n 0, 1) := by decide +kernel
theorem dX8_law_75 : decode μX8_law.2.1 75 = .ok (.getfield 26, 3) := by decide +kernel
theorem dX8_law_78 : decode μX8_law.2.1 78 = .ok (.invokevirtual 166, 3) := by decide +kernel
theorem dX8_law_81 : decode μX8_law.2.1 81 = .ok (.aload_n 0, 1) := by decide +kernel
theorem dX8_law_82 : decode μX8_law.2.1 82 = .ok (.getfield 26, 3) := by decide +kernel
theorem dX8_law_85 : decode μX8_law.2.1 85 = .ok (.getfield 170, 3) := by decide +kernel
theorem dX8_law_88 : decode μX8_law.2.1 88 = .ok (.invokevirtual 173, 3) := by decide +kernel
theorem dX8_law_91 : decode μX8_law.2.1 91 = .ok (.ifCond .le 6, 3) := by decide +kernel
theorem dX8_law_94 : decode μX8_law.2.1 94 = .ok (.iinc 2 1, 3) := by decide +kernel
theorem dX8_law_97 : decode μX8_law.2.1 97 = .ok (.iinc 3 1, 3) := by decide +kernel
theorem dX8_law_100 : decode μX8_law.2.1 100 = .ok (.goto (-83), 3) := by decide +kernel
theorem dX8_law_103 : decode μX8_law.2.1 103 = .ok (.iload_n 2, 1) := by decide +kernel
theorem dX8_law_104 : decode μX8_law.2.1 104 = .ok (.ireturn, 1) := by decide +kernel
set_option maxRecDepth 20000 in
theorem sg_X8_law_0 {d : Nat} {x1 : Int32} {M : Mem} {K : (Int32 → Mem → Prop)}  (h : (if x1 < 0 then K ((-1)) M else (if x1 ≤ 999 then RI (d + 1) μX8_law 17 [(0, .ref 0), (1, .int x1), (2, .int 0), (3, .int 0)] [] M K else K ((-1)) M))) : CI (d + 1) μX8_law [.ref 0, .int x1] M K := by
  show Rn (d + 1) μX8_law 0 [(0, .ref 0), (1, .int x1)] [] M _
  refine rn_iload_n (i := 1) (x := x1) dX8_law_0 rfl (by simp) ?_
  refine rn_if_lt (tgt := 11) dX8_law_1 (by decide) (ite_go h (fun hc h => ?_) (fun hc h => ?_))
  · refine rn_iconst (v := -1) dX8_law_11 rfl ?_
    exact rn_iret dX8_law_12 rfl ⟨_, rfl, h⟩
  · refine rn_iload_n (i := 1) (x := x1) dX8_law_4 rfl (by simp) ?_
    refine rn_sipush (v := 999) dX8_law_5 rfl ?_
    refine rn_icmp_le (tgt := 13) dX8_law_8 (by decide) (ite_go h (fun hc h => ?_) (fun hc h => ?_))
    · refine rn_iconst (v := 0) dX8_law_13 rfl ?_
      refine rn_istore_n (lv' := [(0, .ref 0), (1, .int x1), (2, .int 0)]) (hd := dX8_law_14) (i := 2) (hi := rfl) (hn := by decide) (hf := rfl) (hl := rfl) ?_
      refine rn_iconst (v := 0) dX8_law_15 rfl ?_
      refine rn_istore_n (lv' := [(0, .ref 0), (1, .int x1), (2, .int 0), (3, .int 0)]) (hd := dX8_law_16) (i := 3) (hi := rfl) (hn := by decide) (hf := rfl) (hl := rfl) ?_
      exact h
    · refine rn_iconst (v := -1) dX8_law_11 rfl ?_
      exact rn_iret dX8_law_12 rfl ⟨_, rfl, h⟩
set_option maxRecDepth 20000 in
theorem sg_X8_law_17 {d : Nat} {x1 : Int32} {x2 : Int32} {x3 : Int32} {M : Mem} {K : (Int32 → Mem → Prop)}  (h : (if ri M 27 0 ≤ x3 then K x2 M else (vp_in x3 8 ∧ (CI d μJ6_bitCount_0f7a4 [.int (ri M 30 (nx x3))] M (fun r2 M1 => (CI d μX2_isThere [.ref 27, .int x3] M1 (fun r4 M3 => (if r4 = 0 then RI (d + 1) μX8_law 17 [(0, .ref 0), (1, .int x1), (2, .int x2), (3, .int (x3 + 1))] [] M3 K else (∃ t5, nx (ri M3 0 1) = t5 ∧ kd t5 = (0, 7) ∧ (vp_in x3 8 ∧ (CI d μX2_howManyThere [.ref 27] M3 (fun r7 M6 => (CI d μX1_growth [.ref (t5 + 7), .int (ri M3 31 (nx x3)), .int x1, .int (x1 * r2), .int r7, .int (ri M6 27 2)] M6 (fun r9 M8 => (if r9 ≤ 0 then RI (d + 1) μX8_law 17 [(0, .ref 0), (1, .int x1), (2, .int x2), (3, .int (x3 + 1))] [] M8 K else RI (d + 1) μX8_law 17 [(0, .ref 0), (1, .int x1), (2, .int (x2 + 1)), (3, .int (x3 + 1))] [] M8 K))))))))))))))) : RI (d + 1) μX8_law 17 [(0, .ref 0), (1, .int x1), (2, .int x2), (3, .int x3)] [] M K := by
  show Rn (d + 1) μX8_law 17 [(0, .ref 0), (1, .int x1), (2, .int x2), (3, .int x3)] [] M _
  refine rn_iload_n (i := 3) (x := x3) dX8_law_17 rfl (by simp) ?_
  refine rn_aload_n (i := 0) (x := 0) dX8_law_18 rfl (by simp) ?_
  refine rn_getr (t := 27) dX8_law_19 rfl gf_X8_26 rfl rfl ?_
  refine rn_geti dX8_law_22 rfl gf_X8_107 (by decide) ?_
  refine rn_icmp_ge (tgt := 103) dX8_law_25 (by decide) (ite_go h (fun hc h => ?_) (fun hc h => ?_))
  · refine rn_iload_n (i := 2) (x := x2) dX8_law_103 rfl (by simp) ?_
    exact rn_iret dX8_law_104 rfl ⟨_, rfl, h⟩
  · refine rn_iload_n (i := 1) (x := x1) dX8_law_28 rfl (by simp) ?_
    refine rn_aload_n (i := 0) (x := 0) dX8_law_29 rfl (by simp) ?_
    refine rn_getr (t := 27) dX8_law_30 rfl gf_X8_26 rfl rfl ?_
    refine rn_getr (t := 30) dX8_law_33 rfl gf_X8_126 rfl rfl ?_
    refine rn_iload_n (i := 3) (x := x3) dX8_law_36 rfl (by simp) ?_
    obtain ⟨hi, h⟩ := h
    refine rn_iaload dX8_law_37 rfl hi ?_
    refine rn_callSi (as := [.int (ri M 30 (nx x3))]) (st := [.int x1]) dX8_law_38 mf_J6_bitCount_0f7a4 lk_X8_161 sm_J6_bitCount_0f7a4 rfl (Nat.le_of_ble_eq_true rfl) (Nat.le_of_ble_eq_true rfl) rfl (RI.mono h (fun r2 M1 h => ?_))
    refine rn_imul dX8_law_41 ?_
    refine rn_istore (lv' := [(0, .ref 0), (1, .int x1), (2, .int x2), (3, .int x3), (4, .int (x1 * r2))]) (hd := dX8_law_42) (hn := by decide) (hf := rfl) (hl := rfl) ?_
    refine rn_aload_n (i := 0) (x := 0) dX8_law_44 rfl (by simp) ?_
    refine rn_getr (t := 27) dX8_law_45 rfl gf_X8_26 rfl rfl ?_
    refine rn_iload_n (i := 3) (x := x3) dX8_law_48 rfl (by simp) ?_
    refine rn_callVi (as := [.int x3]) (st := []) dX8_law_49 mf_X2_isThere lk_X8_117 im_X2_isThere rfl rfl rfl rfl (Nat.le_of_ble_eq_true rfl) (Nat.le_of_ble_eq_true rfl) rfl (RI.mono h (fun r4 M3 h => ?_))
    refine rn_if_eq (tgt := 97) dX8_law_52 (by decide) (ite_go h (fun hc h => ?_) (fun hc h => ?_))
    · refine rn_iinc (x := x3) (v := x3 + 1) (lv' := [(0, .ref 0), (1, .int x1), (2, .int x2), (3, .int (x3 + 1)), (4, .int (x1 * r2))]) dX8_law_97 (by simp) rfl (by decide) rfl rfl ?_
      refine rn_goto (tgt := 17) dX8_law_100 (by decide) ?_
      refine Rn.sub (lv' := [(0, .ref 0), (1, .int x1), (2, .int x2), (3, .int (x3 + 1))]) (by simp) ?_
      exact h
    · refine rn_aload_n (i := 0) (x := 0) dX8_law_55 rfl (by simp) ?_
      obtain ⟨t5, ht5e, ht5, h⟩ := h
      refine rn_getd dX8_law_56 rfl gf_X8_19 rfl ht5e ?_
      refine rn_getr (t := t5 + 7) dX8_law_59 ht5 gf_X8_129 rfl (telling_refs _ ht5).2.1.1 ?_
      refine rn_aload_n (i := 0) (x := 0) dX8_law_62 rfl (by simp) ?_
      refine rn_getr (t := 27) dX8_law_63 rfl gf_X8_26 rfl rfl ?_
      refine rn_getr (t := 31) dX8_law_66 rfl gf_X8_123 rfl rfl ?_
      refine rn_iload_n (i := 3) (x := x3) dX8_law_69 rfl (by simp) ?_
      obtain ⟨hi, h⟩ := h
      refine rn_iaload dX8_law_70 rfl hi ?_
      refine rn_iload_n (i := 1) (x := x1) dX8_law_71 rfl (by simp) ?_
      refine rn_iload (x := x1 * r2) dX8_law_72 (by simp) ?_
      refine rn_aload_n (i := 0) (x := 0) dX8_law_74 rfl (by simp) ?_
      refine rn_getr (t := 27) dX8_law_75 rfl gf_X8_26 rfl rfl ?_
      refine rn_callVi (as := []) (st := [.int (x1 * r2), .int x1, .int (ri M3 31 (nx x3)), .ref (t5 + 7)]) dX8_law_78 mf_X2_howManyThere lk_X8_166 im_X2_howManyThere rfl rfl rfl rfl (Nat.le_of_ble_eq_true rfl) (Nat.le_of_ble_eq_true rfl) rfl (RI.mono h (fun r7 M6 h => ?_))
      refine rn_aload_n (i := 0) (x := 0) dX8_law_81 rfl (by simp) ?_
      refine rn_getr (t := 27) dX8_law_82 rfl gf_X8_26 rfl rfl ?_
      refine rn_geti dX8_law_85 rfl gf_X8_170 (by decide) ?_
      refine rn_callVi (as := [.int (ri M3 31 (nx x3)), .int x1, .int (x1 * r2), .int r7, .int (ri M6 27 2)]) (st := []) dX8_law_88 mf_X1_growth lk_X8_173 im_X1_growth (telling_refs _ ht5).2.1.2 rfl rfl rfl (Nat.le_of_ble_eq_true rfl) (Nat.le_of_ble_eq_true rfl) rfl (RI.mono h (fun r9 M8 h => ?_))
      refine rn_if_le (tgt := 97) dX8_law_91 (by decide) (ite_go h (fun hc h => ?_) (fun hc h => ?_))
      · refine rn_iinc (x := x3) (v := x3 + 1) (lv' := [(0, .ref 0), (1, .int x1), (2, .int x2), (3, .int (x3 + 1)), (4, .int (x1 * r2))]) dX8_law_97 (by simp) rfl (by decide) rfl rfl ?_
        refine rn_goto (tgt := 17) dX8_law_100 (by decide) ?_
        refine Rn.sub (lv' := [(0, .ref 0), (1, .int x1), (2, .int x2), (3, .int (x3 + 1))]) (by simp) ?_
        exact h
      · refine rn_iinc (x := x2) (v := x2 + 1) (lv' := [(0, .ref 0), (1, .int x1), (2, .int (x2 + 1)), (3, .int x3), (4, .int (x1 * r2))]) dX8_law_94 (by simp) rfl (by decide) rfl rfl ?_
        refine rn_iinc (x := x3) (v := x3 + 1) (lv' := [(0, .ref 0), (1, .int x1), (2, .int (x2 + 1)), (3, .int (x3 + 1)), (4, .int (x1 * r2))]) dX8_law_97 (by simp) rfl (by decide) rfl rfl ?_
        refine rn_goto (tgt := 17) dX8_law_100 (by decide) ?_
        refine Rn.sub (lv' := [(0, .ref 0), (1, .int x1), (2, .int (x2 + 1)), (3, .int (x3 + 1))]) (by simp) ?_
        exact h
theorem dX8_aunts_0 : decode μX8_aunts.2.1 0 = .ok (.aload_n 0, 1) := by decide +kernel
theorem dX8_aunts_1 : decode μX8_aunts.2.1 1 = .ok (.iload_n 1, 1) := by decide +kernel
theorem dX8_aunts_2 : decode μX8_aunts.2.1 2 = .ok (.iload_n 2, 1) := by decide +kernel
theorem dX8_aunts_3 : decode μX8_aunts.2.1 3 = .ok (.invokevirtual 147, 3) := by decide +kernel
theorem dX8_aunts_6 : decode μX8_aunts.2.1 6 = .ok (.ifCond .ne 5, 3) := by decide +kernel
theorem dX8_aunts_9 : decode μX8_aunts.2.1 9 = .ok (.iconst (-1), 1) := by decide +kernel
theorem dX8_aunts_10 : decode μX8_aunts.2.1 10 = .ok (.ireturn, 1) := by decide +kernel
theorem dX8_aunts_11 : decode μX8_aunts.2.1 11 = .ok (.aload_n 0, 1) := by decide +kernel
theorem dX8_aunts_12 : decode μX8_aunts.2.1 12 = .ok (.getfield 26, 3) := by decide +kernel
theorem dX8_aunts_15 : decode μX8_aunts.2.1 15 = .ok (.getfield 126, 3) := by decide +kernel
theorem dX8_aunts_18 : decode μX8_aunts.2.1 18 = .ok (.iload_n 1, 1) := by decide +kernel
theorem dX8_aunts_19 : decode μX8_aunts.2.1 19 = .ok (.iaload, 1) := by decide +kernel
theorem dX8_aunts_20 : decode μX8_aunts.2.1 20 = .ok (.aload_n 0, 1) := by decide +kernel
theorem dX8_aunts_21 : decode μX8_aunts.2.1 21 = .ok (.getfield 26, 3) := by decide +kernel
theorem dX8_aunts_24 : decode μX8_aunts.2.1 24 = .ok (.getfield 126, 3) := by decide +kernel
theorem dX8_aunts_27 : decode μX8_aunts.2.1 27 = .ok (.iload_n 2, 1) := by decide +kernel
theorem dX8_aunts_28 : decode μX8_aunts.2.1 28 = .ok (.iaload, 1) := by decide +kernel
theorem dX8_aunts_29 : decode μX8_aunts.2.1 29 = .ok (.iand, 1) := by decide +kernel
theorem dX8_aunts_30 : decode μX8_aunts.2.1 30 = .ok (.invokestatic 161, 3) := by decide +kernel
theorem dX8_aunts_33 : decode μX8_aunts.2.1 33 = .ok (.ireturn, 1) := by decide +kernel
set_option maxRecDepth 20000 in
theorem sg_X8_aunts_0 {d : Nat} {x1 : Int32} {x2 : Int32} {M : Mem} {K : (Int32 → Mem → Prop)}  (h : (CI d μX8_areTwo [.ref 0, .int x1, .int x2] M (fun r2 M1 => (if r2 = 0 then K ((-1)) M1 else (vp_in x1 8 ∧ (vp_in x2 8 ∧ (CI d μJ6_bitCount_0f7a4 [.int ((ri M1 30 (nx x1)) &&& (ri M1 30 (nx x2)))] M1 (fun r4 M3 => K r4 M3)))))))) : CI (d + 1) μX8_aunts [.ref 0, .int x1, .int x2] M K := by
  show Rn (d + 1) μX8_aunts 0 [(0, .ref 0), (1, .int x1), (2, .int x2)] [] M _
  refine rn_aload_n (i := 0) (x := 0) dX8_aunts_0 rfl (by simp) ?_
  refine rn_iload_n (i := 1) (x := x1) dX8_aunts_1 rfl (by simp) ?_
  refine rn_iload_n (i := 2) (x := x2) dX8_aunts_2 rfl (by simp) ?_
  refine rn_callVi (as := [.int x1, .int x2]) (st := []) dX8_aunts_3 mf_X8_areTwo lk_X8_147 im_X8_areTwo rfl rfl rfl rfl (Nat.le_of_ble_eq_true rfl) (Nat.le_of_ble_eq_true rfl) rfl (RI.mono h (fun r2 M1 h => ?_))
  refine rn_if_ne (tgt := 11) dX8_aunts_6 (by decide) (ite_go h (fun hc h => ?_) (fun hc h => ?_))
  · refine rn_iconst (v := -1) dX8_aunts_9 rfl ?_
    exact rn_iret dX8_aunts_10 rfl ⟨_, rfl, h⟩
  · refine rn_aload_n (i := 0) (x := 0) dX8_aunts_11 rfl (by simp) ?_
    refine rn_getr (t := 27) dX8_aunts_12 rfl gf_X8_26 rfl rfl ?_
    refine rn_getr (t := 30) dX8_aunts_15 rfl gf_X8_126 rfl rfl ?_
    refine rn_iload_n (i := 1) (x := x1) dX8_aunts_18 rfl (by simp) ?_
    obtain ⟨hi, h⟩ := h
    refine rn_iaload dX8_aunts_19 rfl hi ?_
    refine rn_aload_n (i := 0) (x := 0) dX8_aunts_20 rfl (by simp) ?_
    refine rn_getr (t := 27) dX8_aunts_21 rfl gf_X8_26 rfl rfl ?_
    refine rn_getr (t := 30) dX8_aunts_24 rfl gf_X8_126 rfl rfl ?_
    refine rn_iload_n (i := 2) (x := x2) dX8_aunts_27 rfl (by simp) ?_
    obtain ⟨hi, h⟩ := h
    refine rn_iaload dX8_aunts_28 rfl hi ?_
    refine rn_iand dX8_aunts_29 ?_
    refine rn_callSi (as := [.int ((ri M1 30 (nx x1)) &&& (ri M1 30 (nx x2)))]) (st := []) dX8_aunts_30 mf_J6_bitCount_0f7a4 lk_X8_161 sm_J6_bitCount_0f7a4 rfl (Nat.le_of_ble_eq_true rfl) (Nat.le_of_ble_eq_true rfl) rfl (RI.mono h (fun r4 M3 h => ?_))
    exact rn_iret dX8_aunts_33 rfl ⟨_, rfl, h⟩
theorem dX8_areTwo_0 : decode μX8_areTwo.2.1 0 = .ok (.iload_n 1, 1) := by decide +kernel
theorem dX8_areTwo_1 : decode μX8_areTwo.2.1 1 = .ok (.iload_n 2, 1) := by decide +kernel
theorem dX8_areTwo_2 : decode μX8_areTwo.2.1 2 = .ok (.if_icmp .eq 29, 3) := by decide +kernel
theorem dX8_areTwo_5 : decode μX8_areTwo.2.1 5 = .ok (.aload_n 0, 1) := by decide +kernel
theorem dX8_areTwo_6 : decode μX8_areTwo.2.1 6 = .ok (.getfield 26, 3) := by decide +kernel
theorem dX8_areTwo_9 : decode μX8_areTwo.2.1 9 = .ok (.iload_n 1, 1) := by decide +kernel
theorem dX8_areTwo_10 : decode μX8_areTwo.2.1 10 = .ok (.invokevirtual 117, 3) := by decide +kernel
theorem dX8_areTwo_13 : decode μX8_areTwo.2.1 13 = .ok (.ifCond .eq 18, 3) := by decide +kernel
theorem dX8_areTwo_16 : decode μX8_areTwo.2.1 16 = .ok (.aload_n 0, 1) := by decide +kernel
theorem dX8_areTwo_17 : decode μX8_areTwo.2.1 17 = .ok (.getfield 26, 3) := by decide +kernel
theorem dX8_areTwo_20 : decode μX8_areTwo.2.1 20 = .ok (.iload_n 2, 1) := by decide +kernel
theorem dX8_areTwo_21 : decode μX8_areTwo.2.1 21 = .ok (.invokevirtual 117, 3) := by decide +kernel
theorem dX8_areTwo_24 : decode μX8_areTwo.2.1 24 = .ok (.ifCond .eq 7, 3) := by decide +kernel
theorem dX8_areTwo_27 : decode μX8_areTwo.2.1 27 = .ok (.iconst 1, 1) := by decide +kernel
theorem dX8_areTwo_28 : decode μX8_areTwo.2.1 28 = .ok (.goto 4, 3) := by decide +kernel
theorem dX8_areTwo_31 : decode μX8_areTwo.2.1 31 = .ok (.iconst 0, 1) := by decide +kernel
theorem dX8_areTwo_32 : decode μX8_areTwo.2.1 32 = .ok (.ireturn, 1) := by decide +kernel
set_option maxRecDepth 20000 in
theorem sg_X8_areTwo_0 {d : Nat} {x1 : Int32} {x2 : Int32} {M : Mem} {K : (Int32 → Mem → Prop)}  (h : (if x1 = x2 then K 0 M else (CI d μX2_isThere [.ref 27, .int x1] M (fun r2 M1 => (if r2 = 0 then K 0 M1 else (CI d μX2_isThere [.ref 27, .int x2] M1 (fun r4 M3 => (if r4 = 0 then K 0 M3 else K 1 M3)))))))) : CI (d + 1) μX8_areTwo [.ref 0, .int x1, .int x2] M K := by
  show Rn (d + 1) μX8_areTwo 0 [(0, .ref 0), (1, .int x1), (2, .int x2)] [] M _
  refine rn_iload_n (i := 1) (x := x1) dX8_areTwo_0 rfl (by simp) ?_
  refine rn_iload_n (i := 2) (x := x2) dX8_areTwo_1 rfl (by simp) ?_
  refine rn_icmp_eq (tgt := 31) dX8_areTwo_2 (by decide) (ite_go h (fun hc h => ?_) (fun hc h => ?_))
  · refine rn_iconst (v := 0) dX8_areTwo_31 rfl ?_
    exact rn_zret dX8_areTwo_32 rfl (by decide) ⟨_, rfl, h⟩
  · refine rn_aload_n (i := 0) (x := 0) dX8_areTwo_5 rfl (by simp) ?_
    refine rn_getr (t := 27) dX8_areTwo_6 rfl gf_X8_26 rfl rfl ?_
    refine rn_iload_n (i := 1) (x := x1) dX8_areTwo_9 rfl (by simp) ?_
    refine rn_callVi (as := [.int x1]) (st := []) dX8_areTwo_10 mf_X2_isThere lk_X8_117 im_X2_isThere rfl rfl rfl rfl (Nat.le_of_ble_eq_true rfl) (Nat.le_of_ble_eq_true rfl) rfl (RI.mono h (fun r2 M1 h => ?_))
    refine rn_if_eq (tgt := 31) dX8_areTwo_13 (by decide) (ite_go h (fun hc h => ?_) (fun hc h => ?_))
    · refine rn_iconst (v := 0) dX8_areTwo_31 rfl ?_
      exact rn_zret dX8_areTwo_32 rfl (by decide) ⟨_, rfl, h⟩
    · refine rn_aload_n (i := 0) (x := 0) dX8_areTwo_16 rfl (by simp) ?_
      refine rn_getr (t := 27) dX8_areTwo_17 rfl gf_X8_26 rfl rfl ?_
      refine rn_iload_n (i := 2) (x := x2) dX8_areTwo_20 rfl (by simp) ?_
      refine rn_callVi (as := [.int x2]) (st := []) dX8_areTwo_21 mf_X2_isThere lk_X8_117 im_X2_isThere rfl rfl rfl rfl (Nat.le_of_ble_eq_true rfl) (Nat.le_of_ble_eq_true rfl) rfl (RI.mono h (fun r4 M3 h => ?_))
      refine rn_if_eq (tgt := 31) dX8_areTwo_24 (by decide) (ite_go h (fun hc h => ?_) (fun hc h => ?_))
      · refine rn_iconst (v := 0) dX8_areTwo_31 rfl ?_
        exact rn_zret dX8_areTwo_32 rfl (by decide) ⟨_, rfl, h⟩
      · refine rn_iconst (v := 1) dX8_areTwo_27 rfl ?_
        refine rn_goto (tgt := 32) dX8_areTwo_28 (by decide) ?_
        exact rn_zret dX8_areTwo_32 rfl (by decide) ⟨_, rfl, h⟩
theorem dX8_season_0 : decode μX8_season.2.1 0 = .ok (.aload_n 0, 1) := by decide +kernel
theorem dX8_season_1 : decode μX8_season.2.1 1 = .ok (.getfield 26, 3) := by decide +kernel
theorem dX8_season_4 : decode μX8_season.2.1 4 = .ok (.getfield 170, 3) := by decide +kernel
theorem dX8_season_7 : decode μX8_season.2.1 7 = .ok (.sipush 999, 3) := by decide +kernel
theorem dX8_season_10 : decode μX8_season.2.1 10 = .ok (.if_icmp .lt 5, 3) := by decide +kernel
theorem dX8_season_13 : decode μX8_season.2.1 13 = .ok (.iconst (-1), 1) := by decide +kernel
theorem dX8_season_14 : decode μX8_season.2.1 14 = .ok (.ireturn, 1) := by decide +kernel
theorem dX8_season_15 : decode μX8_season.2.1 15 = .ok (.aload_n 0, 1) := by decide +kernel
theorem dX8_season_16 : decode μX8_season.2.1 16 = .ok (.getfield 26, 3) := by decide +kernel
theorem dX8_season_19 : decode μX8_season.2.1 19 = .ok (.getfield 179, 3) := by decide +kernel
theorem dX8_season_22 : decode μX8_season.2.1 22 = .ok (.istore_n 1, 1) := by decide +kernel
theorem dX8_season_23 : decode μX8_season.2.1 23 = .ok (.aload_n 0, 1) := by decide +kernel
theorem dX8_season_24 : decode μX8_season.2.1 24 = .ok (.getfield 26, 3) := by decide +kernel
theorem dX8_season_27 : decode μX8_season.2.1 27 = .ok (.aload_n 0, 1) := by decide +kernel
theorem dX8_season_28 : decode μX8_season.2.1 28 = .ok (.getfield 19, 3) := by decide +kernel
theorem dX8_season_31 : decode μX8_season.2.1 31 = .ok (.getfield 129, 3) := by decide +kernel
theorem dX8_season_34 : decode μX8_season.2.1 34 = .ok (.aload_n 0, 1) := by decide +kernel
theorem dX8_season_35 : decode μX8_season.2.1 35 = .ok (.getfield 19, 3) := by decide +kernel
theorem dX8_season_38 : decode μX8_season.2.1 38 = .ok (.getfield 182, 3) := by decide +kernel
theorem dX8_season_41 : decode μX8_season.2.1 41 = .ok (.invokevirtual 185, 3) := by decide +kernel
theorem dX8_season_44 : decode μX8_season.2.1 44 = .ok (.aload_n 0, 1) := by decide +kernel
theorem dX8_season_45 : decode μX8_season.2.1 45 = .ok (.getfield 36, 3) := by decide +kernel
theorem dX8_season_48 : decode μX8_season.2.1 48 = .ok (.aload_n 0, 1) := by decide +kernel
theorem dX8_season_49 : decode μX8_season.2.1 49 = .ok (.getfield 26, 3) := by decide +kernel
theorem dX8_season_52 : decode μX8_season.2.1 52 = .ok (.invokevirtual 189, 3) := by decide +kernel
theorem dX8_season_55 : decode μX8_season.2.1 55 = .ok (.iload_n 1, 1) := by decide +kernel
theorem dX8_season_56 : decode μX8_season.2.1 56 = .ok (.aload_n 0, 1) := by decide +kernel
theorem dX8_season_57 : decode μX8_season.2.1 57 = .ok (.getfield 26, 3) := by decide +kernel
theorem dX8_season_60 : decode μX8_season.2.1 60 = .ok (.getfield 179, 3) := by decide +kernel
theorem dX8_season_63 : decode μX8_season.2.1 63 = .ok (.iconst (-1), 1) := by decide +kernel
theorem dX8_season_64 : decode μX8_season.2.1 64 = .ok (.ixor, 1) := by decide +kernel
theorem dX8_season_65 : decode μX8_season.2.1 65 = .ok (.iand, 1) := by decide +kernel
theorem dX8_season_66 : decode μX8_season.2.1 66 = .ok (.ireturn, 1) := by decide +kernel
set_option maxRecDepth 20000 in
theorem sg_X8_season_0 {d : Nat}  {M : Mem} {K : (Int32 → Mem → Prop)}  (h : (if ri M 27 2 < 999 then (∃ t1, nx (ri M 0 1) = t1 ∧ kd t1 = (0, 7) ∧ (∃ t2, nx (ri M 0 1) = t2 ∧ kd t2 = (0, 7) ∧ (CV d μX2_passSeason [.ref 27, .ref (t1 + 7), .int (ri M t2 3)] M (fun M3 => (CV d μX3_keep [.ref 39, .ref 27] M3 (fun M4 => K ((ri M 27 1) &&& ((ri M4 27 1) ^^^ ((-1)))) M4)))))) else K ((-1)) M)) : CI (d + 1) μX8_season [.ref 0] M K := by
  show Rn (d + 1) μX8_season 0 [(0, .ref 0)] [] M _
  refine rn_aload_n (i := 0) (x := 0) dX8_season_0 rfl (by simp) ?_
  refine rn_getr (t := 27) dX8_season_1 rfl gf_X8_26 rfl rfl ?_
  refine rn_geti dX8_season_4 rfl gf_X8_170 (by decide) ?_
  refine rn_sipush (v := 999) dX8_season_7 rfl ?_
  refine rn_icmp_lt (tgt := 15) dX8_season_10 (by decide) (ite_go h (fun hc h => ?_) (fun hc h => ?_))
  · refine rn_aload_n (i := 0) (x := 0) dX8_season_15 rfl (by simp) ?_
    refine rn_getr (t := 27) dX8_season_16 rfl gf_X8_26 rfl rfl ?_
    refine rn_geti dX8_season_19 rfl gf_X8_179 (by decide) ?_
    refine rn_istore_n (lv' := [(0, .ref 0), (1, .int (ri M 27 1))]) (hd := dX8_season_22) (i := 1) (hi := rfl) (hn := by decide) (hf := rfl) (hl := rfl) ?_
    refine rn_aload_n (i := 0) (x := 0) dX8_season_23 rfl (by simp) ?_
    refine rn_getr (t := 27) dX8_season_24 rfl gf_X8_26 rfl rfl ?_
    refine rn_aload_n (i := 0) (x := 0) dX8_season_27 rfl (by simp) ?_
    obtain ⟨t1, ht1e, ht1, h⟩ := h
    refine rn_getd dX8_season_28 rfl gf_X8_19 rfl ht1e ?_
    refine rn_getr (t := t1 + 7) dX8_season_31 ht1 gf_X8_129 rfl (telling_refs _ ht1).2.1.1 ?_
    refine rn_aload_n (i := 0) (x := 0) dX8_season_34 rfl (by simp) ?_
    obtain ⟨t2, ht2e, ht2, h⟩ := h
    refine rn_getd dX8_season_35 rfl gf_X8_19 rfl ht2e ?_
    refine rn_geti dX8_season_38 ht2 gf_X8_182 (by decide) ?_
    refine rn_callVv (as := [.ref (t1 + 7), .int (ri M t2 3)]) (st := []) dX8_season_41 mf_X2_passSeason lk_X8_185 im_X2_passSeason rfl rfl rfl rfl (Nat.le_of_ble_eq_true rfl) (Nat.le_of_ble_eq_true rfl) rfl (RV.mono h (fun M3 h => ?_))
    refine rn_aload_n (i := 0) (x := 0) dX8_season_44 rfl (by simp) ?_
    refine rn_getr (t := 39) dX8_season_45 rfl gf_X8_36 rfl rfl ?_
    refine rn_aload_n (i := 0) (x := 0) dX8_season_48 rfl (by simp) ?_
    refine rn_getr (t := 27) dX8_season_49 rfl gf_X8_26 rfl rfl ?_
    refine rn_callVv (as := [.ref 27]) (st := []) dX8_season_52 mf_X3_keep lk_X8_189 im_X3_keep rfl rfl rfl rfl (Nat.le_of_ble_eq_true rfl) (Nat.le_of_ble_eq_true rfl) rfl (RV.mono h (fun M4 h => ?_))
    refine rn_iload_n (i := 1) (x := ri M 27 1) dX8_season_55 rfl (by simp) ?_
    refine rn_aload_n (i := 0) (x := 0) dX8_season_56 rfl (by simp) ?_
    refine rn_getr (t := 27) dX8_season_57 rfl gf_X8_26 rfl rfl ?_
    refine rn_geti dX8_season_60 rfl gf_X8_179 (by decide) ?_
    refine rn_iconst (v := -1) dX8_season_63 rfl ?_
    refine rn_ixor dX8_season_64 ?_
    refine rn_iand dX8_season_65 ?_
    exact rn_iret dX8_season_66 rfl ⟨_, rfl, h⟩
  · refine rn_iconst (v := -1) dX8_season_13 rfl ?_
    exact rn_iret dX8_season_14 rfl ⟨_, rfl, h⟩
theorem dX8_flip_0 : decode μX8_flip.2.1 0 = .ok (.aload_n 0, 1) := by decide +kernel
theorem dX8_flip_1 : decode μX8_flip.2.1 1 = .ok (.getfield 26, 3) := by decide +kernel
theorem dX8_flip_4 : decode μX8_flip.2.1 4 = .ok (.iload_n 1, 1) := by decide +kernel
theorem dX8_flip_5 : decode μX8_flip.2.1 5 = .ok (.iload_n 2, 1) := by decide +kernel
theorem dX8_flip_6 : decode μX8_flip.2.1 6 = .ok (.invokevirtual 192, 3) := by decide +kernel
theorem dX8_flip_9 : decode μX8_flip.2.1 9 = .ok (.istore_n 3, 1) := by decide +kernel
theorem dX8_flip_10 : decode μX8_flip.2.1 10 = .ok (.iload_n 3, 1) := by decide +kernel
theorem dX8_flip_11 : decode μX8_flip.2.1 11 = .ok (.ifCond .ne 5, 3) := by decide +kernel
theorem dX8_flip_14 : decode μX8_flip.2.1 14 = .ok (.iconst (-1), 1) := by decide +kernel
theorem dX8_flip_15 : decode μX8_flip.2.1 15 = .ok (.ireturn, 1) := by decide +kernel
theorem dX8_flip_16 : decode μX8_flip.2.1 16 = .ok (.aload_n 0, 1) := by decide +kernel
theorem dX8_flip_17 : decode μX8_flip.2.1 17 = .ok (.getfield 36, 3) := by decide +kernel
theorem dX8_flip_20 : decode μX8_flip.2.1 20 = .ok (.aload_n 0, 1) := by decide +kernel
theorem dX8_flip_21 : decode μX8_flip.2.1 21 = .ok (.getfield 26, 3) := by decide +kernel
theorem dX8_flip_24 : decode μX8_flip.2.1 24 = .ok (.invokevirtual 189, 3) := by decide +kernel
theorem dX8_flip_27 : decode μX8_flip.2.1 27 = .ok (.iload_n 3, 1) := by decide +kernel
theorem dX8_flip_28 : decode μX8_flip.2.1 28 = .ok (.invokestatic 143, 3) := by decide +kernel
theorem dX8_flip_31 : decode μX8_flip.2.1 31 = .ok (.bipush 8, 2) := by decide +kernel
theorem dX8_flip_33 : decode μX8_flip.2.1 33 = .ok (.imul, 1) := by decide +kernel
theorem dX8_flip_34 : decode μX8_flip.2.1 34 = .ok (.iload_n 3, 1) := by decide +kernel
theorem dX8_flip_35 : decode μX8_flip.2.1 35 = .ok (.iload_n 3, 1) := by decide +kernel
theorem dX8_flip_36 : decode μX8_flip.2.1 36 = .ok (.iconst 1, 1) := by decide +kernel
theorem dX8_flip_37 : decode μX8_flip.2.1 37 = .ok (.isub, 1) := by decide +kernel
theorem dX8_flip_38 : decode μX8_flip.2.1 38 = .ok (.iand, 1) := by decide +kernel
theorem dX8_flip_39 : decode μX8_flip.2.1 39 = .ok (.invokestatic 143, 3) := by decide +kernel
theorem dX8_flip_42 : decode μX8_flip.2.1 42 = .ok (.iadd, 1) := by decide +kernel
theorem dX8_flip_43 : decode μX8_flip.2.1 43 = .ok (.ireturn, 1) := by decide +kernel
set_option maxRecDepth 20000 in
theorem sg_X8_flip_0 {d : Nat} {x1 : Int32} {x2 : Int32} {M : Mem} {K : (Int32 → Mem → Prop)}  (h : (CI d μX2_turnWall [.ref 27, .int x1, .int x2] M (fun r2 M1 => (if r2 = 0 then K ((-1)) M1 else (CV d μX3_keep [.ref 39, .ref 27] M1 (fun M3 => (CI d μX8_lowest [.int r2] M3 (fun r5 M4 => (CI d μX8_lowest [.int (r2 &&& (r2 - 1))] M4 (fun r7 M6 => K ((r5 * 8) + r7) M6)))))))))) : CI (d + 1) μX8_flip [.ref 0, .int x1, .int x2] M K := by
  show Rn (d + 1) μX8_flip 0 [(0, .ref 0), (1, .int x1), (2, .int x2)] [] M _
  refine rn_aload_n (i := 0) (x := 0) dX8_flip_0 rfl (by simp) ?_
  refine rn_getr (t := 27) dX8_flip_1 rfl gf_X8_26 rfl rfl ?_
  refine rn_iload_n (i := 1) (x := x1) dX8_flip_4 rfl (by simp) ?_
  refine rn_iload_n (i := 2) (x := x2) dX8_flip_5 rfl (by simp) ?_
  refine rn_callVi (as := [.int x1, .int x2]) (st := []) dX8_flip_6 mf_X2_turnWall lk_X8_192 im_X2_turnWall rfl rfl rfl rfl (Nat.le_of_ble_eq_true rfl) (Nat.le_of_ble_eq_true rfl) rfl (RI.mono h (fun r2 M1 h => ?_))
  refine rn_istore_n (lv' := [(0, .ref 0), (1, .int x1), (2, .int x2), (3, .int r2)]) (hd := dX8_flip_9) (i := 3) (hi := rfl) (hn := by decide) (hf := rfl) (hl := rfl) ?_
  refine rn_iload_n (i := 3) (x := r2) dX8_flip_10 rfl (by simp) ?_
  refine rn_if_ne (tgt := 16) dX8_flip_11 (by decide) (ite_go h (fun hc h => ?_) (fun hc h => ?_))
  · refine rn_iconst (v := -1) dX8_flip_14 rfl ?_
    exact rn_iret dX8_flip_15 rfl ⟨_, rfl, h⟩
  · refine rn_aload_n (i := 0) (x := 0) dX8_flip_16 rfl (by simp) ?_
    refine rn_getr (t := 39) dX8_flip_17 rfl gf_X8_36 rfl rfl ?_
    refine rn_aload_n (i := 0) (x := 0) dX8_flip_20 rfl (by simp) ?_
    refine rn_getr (t := 27) dX8_flip_21 rfl gf_X8_26 rfl rfl ?_
    refine rn_callVv (as := [.ref 27]) (st := []) dX8_flip_24 mf_X3_keep lk_X8_189 im_X3_keep rfl rfl rfl rfl (Nat.le_of_ble_eq_true rfl) (Nat.le_of_ble_eq_true rfl) rfl (RV.mono h (fun M3 h => ?_))
    refine rn_iload_n (i := 3) (x := r2) dX8_flip_27 rfl (by simp) ?_
    refine rn_callSi (as := [.int r2]) (st := []) dX8_flip_28 mf_X8_lowest lk_X8_143 sm_X8_lowest rfl (Nat.le_of_ble_eq_true rfl) (Nat.le_of_ble_eq_true rfl) rfl (RI.mono h (fun r5 M4 h => ?_))
    refine rn_bipush (v := 8) dX8_flip_31 rfl ?_
    refine rn_imul dX8_flip_33 ?_
    refine rn_iload_n (i := 3) (x := r2) dX8_flip_34 rfl (by simp) ?_
    refine rn_iload_n (i := 3) (x := r2) dX8_flip_35 rfl (by simp) ?_
    refine rn_iconst (v := 1) dX8_flip_36 rfl ?_
    refine rn_isub dX8_flip_37 ?_
    refine rn_iand dX8_flip_38 ?_
    refine rn_callSi (as := [.int (r2 &&& (r2 - 1))]) (st := [.int (r5 * 8)]) dX8_flip_39 mf_X8_lowest lk_X8_143 sm_X8_lowest rfl (Nat.le_of_ble_eq_true rfl) (Nat.le_of_ble_eq_true rfl) rfl (RI.mono h (fun r7 M6 h => ?_))
    refine rn_iadd dX8_flip_42 ?_
    exact rn_iret dX8_flip_43 rfl ⟨_, rfl, h⟩
theorem dX8_pop_0 : decode μX8_pop.2.1 0 = .ok (.aload_n 0, 1) := by decide +kernel
theorem dX8_pop_1 : decode μX8_pop.2.1 1 = .ok (.getfield 26, 3) := by decide +kernel
theorem dX8_pop_4 : decode μX8_pop.2.1 4 = .ok (.iload_n 1, 1) := by decide +kernel
theorem dX8_pop_5 : decode μX8_pop.2.1 5 = .ok (.iload_n 2, 1) := by decide +kernel
theorem dX8_pop_6 : decode μX8_pop.2.1 6 = .ok (.invokevirtual 195, 3) := by decide +kernel
theorem dX8_pop_9 : decode μX8_pop.2.1 9 = .ok (.ifCond .ne 5, 3) := by decide +kernel
theorem dX8_pop_12 : decode μX8_pop.2.1 12 = .ok (.iconst (-1), 1) := by decide +kernel
theorem dX8_pop_13 : decode μX8_pop.2.1 13 = .ok (.ireturn, 1) := by decide +kernel
theorem dX8_pop_14 : decode μX8_pop.2.1 14 = .ok (.aload_n 0, 1) := by decide +kernel
theorem dX8_pop_15 : decode μX8_pop.2.1 15 = .ok (.getfield 36, 3) := by decide +kernel
theorem dX8_pop_18 : decode μX8_pop.2.1 18 = .ok (.aload_n 0, 1) := by decide +kernel
theorem dX8_pop_19 : decode μX8_pop.2.1 19 = .ok (.getfield 26, 3) := by decide +kernel
theorem dX8_pop_22 : decode μX8_pop.2.1 22 = .ok (.invokevirtual 189, 3) := by decide +kernel
theorem dX8_pop_25 : decode μX8_pop.2.1 25 = .ok (.aload_n 0, 1) := by decide +kernel
theorem dX8_pop_26 : decode μX8_pop.2.1 26 = .ok (.getfield 26, 3) := by decide +kernel
theorem dX8_pop_29 : decode μX8_pop.2.1 29 = .ok (.getfield 120, 3) := by decide +kernel
theorem dX8_pop_32 : decode μX8_pop.2.1 32 = .ok (.iload_n 1, 1) := by decide +kernel
theorem dX8_pop_33 : decode μX8_pop.2.1 33 = .ok (.iaload, 1) := by decide +kernel
theorem dX8_pop_34 : decode μX8_pop.2.1 34 = .ok (.ireturn, 1) := by decide +kernel
set_option maxRecDepth 20000 in
theorem sg_X8_pop_0 {d : Nat} {x1 : Int32} {x2 : Int32} {M : Mem} {K : (Int32 → Mem → Prop)}  (h : (CI d μX2_merge [.ref 27, .int x1, .int x2] M (fun r2 M1 => (if r2 = 0 then K ((-1)) M1 else (CV d μX3_keep [.ref 39, .ref 27] M1 (fun M3 => (vp_in x1 8 ∧ K (ri M3 28 (nx x1)) M3))))))) : CI (d + 1) μX8_pop [.ref 0, .int x1, .int x2] M K := by
  show Rn (d + 1) μX8_pop 0 [(0, .ref 0), (1, .int x1), (2, .int x2)] [] M _
  refine rn_aload_n (i := 0) (x := 0) dX8_pop_0 rfl (by simp) ?_
  refine rn_getr (t := 27) dX8_pop_1 rfl gf_X8_26 rfl rfl ?_
  refine rn_iload_n (i := 1) (x := x1) dX8_pop_4 rfl (by simp) ?_
  refine rn_iload_n (i := 2) (x := x2) dX8_pop_5 rfl (by simp) ?_
  refine rn_callVi (as := [.int x1, .int x2]) (st := []) dX8_pop_6 mf_X2_merge lk_X8_195 im_X2_merge rfl rfl rfl rfl (Nat.le_of_ble_eq_true rfl) (Nat.le_of_ble_eq_true rfl) rfl (RI.mono h (fun r2 M1 h => ?_))
  refine rn_if_ne (tgt := 14) dX8_pop_9 (by decide) (ite_go h (fun hc h => ?_) (fun hc h => ?_))
  · refine rn_iconst (v := -1) dX8_pop_12 rfl ?_
    exact rn_iret dX8_pop_13 rfl ⟨_, rfl, h⟩
  · refine rn_aload_n (i := 0) (x := 0) dX8_pop_14 rfl (by simp) ?_
    refine rn_getr (t := 39) dX8_pop_15 rfl gf_X8_36 rfl rfl ?_
    refine rn_aload_n (i := 0) (x := 0) dX8_pop_18 rfl (by simp) ?_
    refine rn_getr (t := 27) dX8_pop_19 rfl gf_X8_26 rfl rfl ?_
    refine rn_callVv (as := [.ref 27]) (st := []) dX8_pop_22 mf_X3_keep lk_X8_189 im_X3_keep rfl rfl rfl rfl (Nat.le_of_ble_eq_true rfl) (Nat.le_of_ble_eq_true rfl) rfl (RV.mono h (fun M3 h => ?_))
    refine rn_aload_n (i := 0) (x := 0) dX8_pop_25 rfl (by simp) ?_
    refine rn_getr (t := 27) dX8_pop_26 rfl gf_X8_26 rfl rfl ?_
    refine rn_getr (t := 28) dX8_pop_29 rfl gf_X8_120 rfl rfl ?_
    refine rn_iload_n (i := 1) (x := x1) dX8_pop_32 rfl (by simp) ?_
    obtain ⟨hi, h⟩ := h
    refine rn_iaload dX8_pop_33 rfl hi ?_
    exact rn_iret dX8_pop_34 rfl ⟨_, rfl, h⟩
theorem dX8_gift_0 : decode μX8_gift.2.1 0 = .ok (.aload_n 0, 1) := by decide +kernel
theorem dX8_gift_1 : decode μX8_gift.2.1 1 = .ok (.getfield 26, 3) := by decide +kernel
theorem dX8_gift_4 : decode μX8_gift.2.1 4 = .ok (.iload_n 1, 1) := by decide +kernel
theorem dX8_gift_5 : decode μX8_gift.2.1 5 = .ok (.invokevirtual 117, 3) := by decide +kernel
theorem dX8_gift_8 : decode μX8_gift.2.1 8 = .ok (.ifCond .eq 29, 3) := by decide +kernel
theorem dX8_gift_11 : decode μX8_gift.2.1 11 = .ok (.iload_n 2, 1) := by decide +kernel
theorem dX8_gift_12 : decode μX8_gift.2.1 12 = .ok (.iconst 1, 1) := by decide +kernel
theorem dX8_gift_13 : decode μX8_gift.2.1 13 = .ok (.if_icmp .lt 24, 3) := by decide +kernel
theorem dX8_gift_16 : decode μX8_gift.2.1 16 = .ok (.iload_n 2, 1) := by decide +kernel
theorem dX8_gift_17 : decode μX8_gift.2.1 17 = .ok (.bipush 99, 2) := by decide +kernel
theorem dX8_gift_19 : decode μX8_gift.2.1 19 = .ok (.if_icmp .gt 18, 3) := by decide +kernel
theorem dX8_gift_22 : decode μX8_gift.2.1 22 = .ok (.aload_n 0, 1) := by decide +kernel
theorem dX8_gift_23 : decode μX8_gift.2.1 23 = .ok (.getfield 26, 3) := by decide +kernel
theorem dX8_gift_26 : decode μX8_gift.2.1 26 = .ok (.getfield 120, 3) := by decide +kernel
theorem dX8_gift_29 : decode μX8_gift.2.1 29 = .ok (.iload_n 1, 1) := by decide +kernel
theorem dX8_gift_30 : decode μX8_gift.2.1 30 = .ok (.iaload, 1) := by decide +kernel
theorem dX8_gift_31 : decode μX8_gift.2.1 31 = .ok (.sipush 999, 3) := by decide +kernel
theorem dX8_gift_34 : decode μX8_gift.2.1 34 = .ok (.if_icmp .lt 5, 3) := by decide +kernel
theorem dX8_gift_37 : decode μX8_gift.2.1 37 = .ok (.iconst (-1), 1) := by decide +kernel
theorem dX8_gift_38 : decode μX8_gift.2.1 38 = .ok (.ireturn, 1) := by decide +kernel
theorem dX8_gift_39 : decode μX8_gift.2.1 39 = .ok (.aload_n 0, 1) := by decide +kernel
theorem dX8_gift_40 : decode μX8_gift.2.1 40 = .ok (.getfield 26, 3) := by decide +kernel
theorem dX8_gift_43 : decode μX8_gift.2.1 43 = .ok (.getfield 120, 3) := by decide +kernel
theorem dX8_gift_46 : decode μX8_gift.2.1 46 = .ok (.iload_n 1, 1) := by decide +kernel
theorem dX8_gift_47 : decode μX8_gift.2.1 47 = .ok (.sipush 999, 3) := by decide +kernel
theorem dX8_gift_50 : decode μX8_gift.2.1 50 = .ok (.aload_n 0, 1) := by decide +kernel
theorem dX8_gift_51 : decode μX8_gift.2.1 51 = .ok (.getfield 26, 3) := by decide +kernel
theorem dX8_gift_54 : decode μX8_gift.2.1 54 = .ok (.getfield 120, 3) := by decide +kernel
theorem dX8_gift_57 : decode μX8_gift.2.1 57 = .ok (.iload_n 1, 1) := by decide +kernel
theorem dX8_gift_58 : decode μX8_gift.2.1 58 = .ok (.iaload, 1) := by decide +kernel
theorem dX8_gift_59 : decode μX8_gift.2.1 59 = .ok (.iload_n 2, 1) := by decide +kernel
theorem dX8_gift_60 : decode μX8_gift.2.1 60 = .ok (.iadd, 1) := by decide +kernel
theorem dX8_gift_61 : decode μX8_gift.2.1 61 = .ok (.invokestatic 198, 3) := by decide +kernel
theorem dX8_gift_64 : decode μX8_gift.2.1 64 = .ok (.iastore, 1) := by decide +kernel
theorem dX8_gift_65 : decode μX8_gift.2.1 65 = .ok (.aload_n 0, 1) := by decide +kernel
theorem dX8_gift_66 : decode μX8_gift.2.1 66 = .ok (.getfield 36, 3) := by decide +kernel
theorem dX8_gift_69 : decode μX8_gift.2.1 69 = .ok (.aload_n 0, 1) := by decide +kernel
theorem dX8_gift_70 : decode μX8_gift.2.1 70 = .ok (.getfield 26, 3) := by decide +kernel
theorem dX8_gift_73 : decode μX8_gift.2.1 73 = .ok (.invokevirtual 189, 3) := by decide +kernel
theorem dX8_gift_76 : decode μX8_gift.2.1 76 = .ok (.aload_n 0, 1) := by decide +kernel
theorem dX8_gift_77 : decode μX8_gift.2.1 77 = .ok (.getfield 26, 3) := by decide +kernel
theorem dX8_gift_80 : decode μX8_gift.2.1 80 = .ok (.getfield 120, 3) := by decide +kernel
theorem dX8_gift_83 : decode μX8_gift.2.1 83 = .ok (.iload_n 1, 1) := by decide +kernel
theorem dX8_gift_84 : decode μX8_gift.2.1 84 = .ok (.iaload, 1) := by decide +kernel
theorem dX8_gift_85 : decode μX8_gift.2.1 85 = .ok (.ireturn, 1) := by decide +kernel
set_option maxRecDepth 20000 in
theorem sg_X8_gift_0 {d : Nat} {x1 : Int32} {x2 : Int32} {M : Mem} {K : (Int32 → Mem → Prop)}  (h : (CI d μX2_isThere [.ref 27, .int x1] M (fun r2 M1 => (if r2 = 0 then K ((-1)) M1 else (if x2 < 1 then K ((-1)) M1 else (if 99 < x2 then K ((-1)) M1 else (vp_in x1 8 ∧ (if ri M1 28 (nx x1) < 999 then (vp_in x1 8 ∧ (vp_in x1 8 ∧ ∀ M3, M3 = wi M1 28 (nx x1) (if (ri M1 28 (nx x1)) + x2 < 999 then (ri M1 28 (nx x1)) + x2 else 999) → (CV d μX3_keep [.ref 39, .ref 27] M3 (fun M4 => (vp_in x1 8 ∧ K (ri M4 28 (nx x1)) M4))))) else K ((-1)) M1)))))))) : CI (d + 1) μX8_gift [.ref 0, .int x1, .int x2] M K := by
  show Rn (d + 1) μX8_gift 0 [(0, .ref 0), (1, .int x1), (2, .int x2)] [] M _
  refine rn_aload_n (i := 0) (x := 0) dX8_gift_0 rfl (by simp) ?_
  refine rn_getr (t := 27) dX8_gift_1 rfl gf_X8_26 rfl rfl ?_
  refine rn_iload_n (i := 1) (x := x1) dX8_gift_4 rfl (by simp) ?_
  refine rn_callVi (as := [.int x1]) (st := []) dX8_gift_5 mf_X2_isThere lk_X8_117 im_X2_isThere rfl rfl rfl rfl (Nat.le_of_ble_eq_true rfl) (Nat.le_of_ble_eq_true rfl) rfl (RI.mono h (fun r2 M1 h => ?_))
  refine rn_if_eq (tgt := 37) dX8_gift_8 (by decide) (ite_go h (fun hc h => ?_) (fun hc h => ?_))
  · refine rn_iconst (v := -1) dX8_gift_37 rfl ?_
    exact rn_iret dX8_gift_38 rfl ⟨_, rfl, h⟩
  · refine rn_iload_n (i := 2) (x := x2) dX8_gift_11 rfl (by simp) ?_
    refine rn_iconst (v := 1) dX8_gift_12 rfl ?_
    refine rn_icmp_lt (tgt := 37) dX8_gift_13 (by decide) (ite_go h (fun hc h => ?_) (fun hc h => ?_))
    · refine rn_iconst (v := -1) dX8_gift_37 rfl ?_
      exact rn_iret dX8_gift_38 rfl ⟨_, rfl, h⟩
    · refine rn_iload_n (i := 2) (x := x2) dX8_gift_16 rfl (by simp) ?_
      refine rn_bipush (v := 99) dX8_gift_17 rfl ?_
      refine rn_icmp_gt (tgt := 37) dX8_gift_19 (by decide) (ite_go h (fun hc h => ?_) (fun hc h => ?_))
      · refine rn_iconst (v := -1) dX8_gift_37 rfl ?_
        exact rn_iret dX8_gift_38 rfl ⟨_, rfl, h⟩
      · refine rn_aload_n (i := 0) (x := 0) dX8_gift_22 rfl (by simp) ?_
        refine rn_getr (t := 27) dX8_gift_23 rfl gf_X8_26 rfl rfl ?_
        refine rn_getr (t := 28) dX8_gift_26 rfl gf_X8_120 rfl rfl ?_
        refine rn_iload_n (i := 1) (x := x1) dX8_gift_29 rfl (by simp) ?_
        obtain ⟨hi, h⟩ := h
        refine rn_iaload dX8_gift_30 rfl hi ?_
        refine rn_sipush (v := 999) dX8_gift_31 rfl ?_
        refine rn_icmp_lt (tgt := 39) dX8_gift_34 (by decide) (ite_go h (fun hc h => ?_) (fun hc h => ?_))
        · refine rn_aload_n (i := 0) (x := 0) dX8_gift_39 rfl (by simp) ?_
          refine rn_getr (t := 27) dX8_gift_40 rfl gf_X8_26 rfl rfl ?_
          refine rn_getr (t := 28) dX8_gift_43 rfl gf_X8_120 rfl rfl ?_
          refine rn_iload_n (i := 1) (x := x1) dX8_gift_46 rfl (by simp) ?_
          refine rn_sipush (v := 999) dX8_gift_47 rfl ?_
          refine rn_aload_n (i := 0) (x := 0) dX8_gift_50 rfl (by simp) ?_
          refine rn_getr (t := 27) dX8_gift_51 rfl gf_X8_26 rfl rfl ?_
          refine rn_getr (t := 28) dX8_gift_54 rfl gf_X8_120 rfl rfl ?_
          refine rn_iload_n (i := 1) (x := x1) dX8_gift_57 rfl (by simp) ?_
          obtain ⟨hi, h⟩ := h
          refine rn_iaload dX8_gift_58 rfl hi ?_
          refine rn_iload_n (i := 2) (x := x2) dX8_gift_59 rfl (by simp) ?_
          refine rn_iadd dX8_gift_60 ?_
          refine rn_mmin dX8_gift_61 mi_X8_198 (Nat.le_of_ble_eq_true rfl) ?_
          obtain ⟨hi, h⟩ := h
          have h := h _ rfl
          refine rn_iastore dX8_gift_64 rfl hi ?_
          generalize wi M1 28 (nx x1) (if (ri M1 28 (nx x1)) + x2 < 999 then (ri M1 28 (nx x1)) + x2 else 999) = M3 at h ⊢
          refine rn_aload_n (i := 0) (x := 0) dX8_gift_65 rfl (by simp) ?_
          refine rn_getr (t := 39) dX8_gift_66 rfl gf_X8_36 rfl rfl ?_
          refine rn_aload_n (i := 0) (x := 0) dX8_gift_69 rfl (by simp) ?_
          refine rn_getr (t := 27) dX8_gift_70 rfl gf_X8_26 rfl rfl ?_
          refine rn_callVv (as := [.ref 27]) (st := []) dX8_gift_73 mf_X3_keep lk_X8_189 im_X3_keep rfl rfl rfl rfl (Nat.le_of_ble_eq_true rfl) (Nat.le_of_ble_eq_true rfl) rfl (RV.mono h (fun M4 h => ?_))
          refine rn_aload_n (i := 0) (x := 0) dX8_gift_76 rfl (by simp) ?_
          refine rn_getr (t := 27) dX8_gift_77 rfl gf_X8_26 rfl rfl ?_
          refine rn_getr (t := 28) dX8_gift_80 rfl gf_X8_120 rfl rfl ?_
          refine rn_iload_n (i := 1) (x := x1) dX8_gift_83 rfl (by simp) ?_
          obtain ⟨hi, h⟩ := h
          refine rn_iaload dX8_gift_84 rfl hi ?_
          exact rn_iret dX8_gift_85 rfl ⟨_, rfl, h⟩
        · refine rn_iconst (v := -1) dX8_gift_37 rfl ?_
          exact rn_iret dX8_gift_38 rfl ⟨_, rfl, h⟩
theorem dX8_undo_0 : decode μX8_undo.2.1 0 = .ok (.aload_n 0, 1) := by decide +kernel
theorem dX8_undo_1 : decode μX8_undo.2.1 1 = .ok (.getfield 36, 3) := by decide +kernel
theorem dX8_undo_4 : decode μX8_undo.2.1 4 = .ok (.aload_n 0, 1) := by decide +kernel
theorem dX8_undo_5 : decode μX8_undo.2.1 5 = .ok (.getfield 26, 3) := by decide +kernel
theorem dX8_undo_8 : decode μX8_undo.2.1 8 = .ok (.invokevirtual 203, 3) := by decide +kernel
theorem dX8_undo_11 : decode μX8_undo.2.1 11 = .ok (.ireturn, 1) := by decide +kernel
set_option maxRecDepth 20000 in
theorem sg_X8_undo_0 {d : Nat}  {M : Mem} {K : (Int32 → Mem → Prop)}  (h : (CI d μX3_stepBack [.ref 39, .ref 27] M (fun r2 M1 => ((r2 = 0 ∨ r2 = 1) ∧ K r2 M1)))) : CI (d + 1) μX8_undo [.ref 0] M K := by
  show Rn (d + 1) μX8_undo 0 [(0, .ref 0)] [] M _
  refine rn_aload_n (i := 0) (x := 0) dX8_undo_0 rfl (by simp) ?_
  refine rn_getr (t := 39) dX8_undo_1 rfl gf_X8_36 rfl rfl ?_
  refine rn_aload_n (i := 0) (x := 0) dX8_undo_4 rfl (by simp) ?_
  refine rn_getr (t := 27) dX8_undo_5 rfl gf_X8_26 rfl rfl ?_
  refine rn_callVi (as := [.ref 27]) (st := []) dX8_undo_8 mf_X3_stepBack lk_X8_203 im_X3_stepBack rfl rfl rfl rfl (Nat.le_of_ble_eq_true rfl) (Nat.le_of_ble_eq_true rfl) rfl (RI.mono h (fun r2 M1 h => ?_))
  exact rn_zret dX8_undo_11 rfl h.1 ⟨_, rfl, h.2⟩
theorem dX8_redo_0 : decode μX8_redo.2.1 0 = .ok (.aload_n 0, 1) := by decide +kernel
theorem dX8_redo_1 : decode μX8_redo.2.1 1 = .ok (.getfield 36, 3) := by decide +kernel
theorem dX8_redo_4 : decode μX8_redo.2.1 4 = .ok (.aload_n 0, 1) := by decide +kernel
theorem dX8_redo_5 : decode μX8_redo.2.1 5 = .ok (.getfield 26, 3) := by decide +kernel
theorem dX8_redo_8 : decode μX8_redo.2.1 8 = .ok (.invokevirtual 207, 3) := by decide +kernel
theorem dX8_redo_11 : decode μX8_redo.2.1 11 = .ok (.ireturn, 1) := by decide +kernel
set_option maxRecDepth 20000 in
theorem sg_X8_redo_0 {d : Nat}  {M : Mem} {K : (Int32 → Mem → Prop)}  (h : (CI d μX3_stepOn [.ref 39, .ref 27] M (fun r2 M1 => ((r2 = 0 ∨ r2 = 1) ∧ K r2 M1)))) : CI (d + 1) μX8_redo [.ref 0] M K := by
  show Rn (d + 1) μX8_redo 0 [(0, .ref 0)] [] M _
  refine rn_aload_n (i := 0) (x := 0) dX8_redo_0 rfl (by simp) ?_
  refine rn_getr (t := 39) dX8_redo_1 rfl gf_X8_36 rfl rfl ?_
  refine rn_aload_n (i := 0) (x := 0) dX8_redo_4 rfl (by simp) ?_
  refine rn_getr (t := 27) dX8_redo_5 rfl gf_X8_26 rfl rfl ?_
  refine rn_callVi (as := [.ref 27]) (st := []) dX8_redo_8 mf_X3_stepOn lk_X8_207 im_X3_stepOn rfl rfl rfl rfl (Nat.le_of_ble_eq_true rfl) (Nat.le_of_ble_eq_true rfl) rfl (RI.mono h (fun r2 M1 h => ?_))
  exact rn_zret dX8_redo_11 rfl h.1 ⟨_, rfl, h.2⟩
theorem dX8_image_0 : decode μX8_image.2.1 0 = .ok (.iload_n 1, 1) := by decide +kernel
theorem dX8_image_1 : decode μX8_image.2.1 1 = .ok (.ifCond .lt 8, 3) := by decide +kernel
theorem dX8_image_4 : decode μX8_image.2.1 4 = .ok (.iload_n 1, 1) := by decide +kernel
theorem dX8_image_5 : decode μX8_image.2.1 5 = .ok (.iconst 3, 1) := by decide +kernel
theorem dX8_image_6 : decode μX8_image.2.1 6 = .ok (.if_icmp .lt 5, 3) := by decide +kernel
theorem dX8_image_9 : decode μX8_image.2.1 9 = .ok (.iconst (-1), 1) := by decide +kernel
theorem dX8_image_10 : decode μX8_image.2.1 10 = .ok (.ireturn, 1) := by decide +kernel
theorem dX8_image_11 : decode μX8_image.2.1 11 = .ok (.aload_n 0, 1) := by decide +kernel
theorem dX8_image_12 : decode μX8_image.2.1 12 = .ok (.getfield 26, 3) := by decide +kernel
theorem dX8_image_15 : decode μX8_image.2.1 15 = .ok (.aload_n 0, 1) := by decide +kernel
theorem dX8_image_16 : decode μX8_image.2.1 16 = .ok (.getfield 40, 3) := by decide +kernel
theorem dX8_image_19 : decode μX8_image.2.1 19 = .ok (.iload_n 1, 1) := by decide +kernel
theorem dX8_image_20 : decode μX8_image.2.1 20 = .ok (.bipush 24, 2) := by decide +kernel
theorem dX8_image_22 : decode μX8_image.2.1 22 = .ok (.imul, 1) := by decide +kernel
theorem dX8_image_23 : decode μX8_image.2.1 23 = .ok (.invokevirtual 210, 3) := by decide +kernel
theorem dX8_image_26 : decode μX8_image.2.1 26 = .ok (.aload_n 0, 1) := by decide +kernel
theorem dX8_image_27 : decode μX8_image.2.1 27 = .ok (.dup, 1) := by decide +kernel
theorem dX8_image_28 : decode μX8_image.2.1 28 = .ok (.getfield 44, 3) := by decide +kernel
theorem dX8_image_31 : decode μX8_image.2.1 31 = .ok (.iconst 1, 1) := by decide +kernel
theorem dX8_image_32 : decode μX8_image.2.1 32 = .ok (.iload_n 1, 1) := by decide +kernel
theorem dX8_image_33 : decode μX8_image.2.1 33 = .ok (.ishl, 1) := by decide +kernel
theorem dX8_image_34 : decode μX8_image.2.1 34 = .ok (.ior, 1) := by decide +kernel
theorem dX8_image_35 : decode μX8_image.2.1 35 = .ok (.putfield 44, 3) := by decide +kernel
theorem dX8_image_38 : decode μX8_image.2.1 38 = .ok (.aload_n 0, 1) := by decide +kernel
theorem dX8_image_39 : decode μX8_image.2.1 39 = .ok (.getfield 26, 3) := by decide +kernel
theorem dX8_image_42 : decode μX8_image.2.1 42 = .ok (.getfield 170, 3) := by decide +kernel
theorem dX8_image_45 : decode μX8_image.2.1 45 = .ok (.ireturn, 1) := by decide +kernel
set_option maxRecDepth 20000 in
theorem sg_X8_image_0 {d : Nat} {x1 : Int32} {M : Mem} {K : (Int32 → Mem → Prop)}  (h : (if x1 < 0 then K ((-1)) M else (if x1 < 3 then (CV d μX2_writeTo [.ref 27, .ref 41, .int (x1 * 24)] M (fun M1 => (∀ M2, M2 = wi M1 0 6 ((ri M1 0 6) ||| ((1 : Int32) <<< (x1 &&& 31))) → K (ri M2 27 2) M2))) else K ((-1)) M))) : CI (d + 1) μX8_image [.ref 0, .int x1] M K := by
  show Rn (d + 1) μX8_image 0 [(0, .ref 0), (1, .int x1)] [] M _
  refine rn_iload_n (i := 1) (x := x1) dX8_image_0 rfl (by simp) ?_
  refine rn_if_lt (tgt := 9) dX8_image_1 (by decide) (ite_go h (fun hc h => ?_) (fun hc h => ?_))
  · refine rn_iconst (v := -1) dX8_image_9 rfl ?_
    exact rn_iret dX8_image_10 rfl ⟨_, rfl, h⟩
  · refine rn_iload_n (i := 1) (x := x1) dX8_image_4 rfl (by simp) ?_
    refine rn_iconst (v := 3) dX8_image_5 rfl ?_
    refine rn_icmp_lt (tgt := 11) dX8_image_6 (by decide) (ite_go h (fun hc h => ?_) (fun hc h => ?_))
    · refine rn_aload_n (i := 0) (x := 0) dX8_image_11 rfl (by simp) ?_
      refine rn_getr (t := 27) dX8_image_12 rfl gf_X8_26 rfl rfl ?_
      refine rn_aload_n (i := 0) (x := 0) dX8_image_15 rfl (by simp) ?_
      refine rn_getr (t := 41) dX8_image_16 rfl gf_X8_40 rfl rfl ?_
      refine rn_iload_n (i := 1) (x := x1) dX8_image_19 rfl (by simp) ?_
      refine rn_bipush (v := 24) dX8_image_20 rfl ?_
      refine rn_imul dX8_image_22 ?_
      refine rn_callVv (as := [.ref 41, .int (x1 * 24)]) (st := []) dX8_image_23 mf_X2_writeTo lk_X8_210 im_X2_writeTo rfl rfl rfl rfl (Nat.le_of_ble_eq_true rfl) (Nat.le_of_ble_eq_true rfl) rfl (RV.mono h (fun M1 h => ?_))
      refine rn_aload_n (i := 0) (x := 0) dX8_image_26 rfl (by simp) ?_
      refine rn_dup dX8_image_27 rfl ?_
      refine rn_geti dX8_image_28 rfl gf_X8_44 (by decide) ?_
      refine rn_iconst (v := 1) dX8_image_31 rfl ?_
      refine rn_iload_n (i := 1) (x := x1) dX8_image_32 rfl (by simp) ?_
      refine rn_ishl dX8_image_33 ?_
      refine rn_ior dX8_image_34 ?_
      have h := h _ rfl
      refine rn_puti dX8_image_35 rfl pf_X8_44 (by decide) rfl rfl ?_
      generalize wi M1 0 6 ((ri M1 0 6) ||| ((1 : Int32) <<< (x1 &&& 31))) = M2 at h ⊢
      refine rn_aload_n (i := 0) (x := 0) dX8_image_38 rfl (by simp) ?_
      refine rn_getr (t := 27) dX8_image_39 rfl gf_X8_26 rfl rfl ?_
      refine rn_geti dX8_image_42 rfl gf_X8_170 (by decide) ?_
      exact rn_iret dX8_image_45 rfl ⟨_, rfl, h⟩
    · refine rn_iconst (v := -1) dX8_image_9 rfl ?_
      exact rn_iret dX8_image_10 rfl ⟨_, rfl, h⟩
