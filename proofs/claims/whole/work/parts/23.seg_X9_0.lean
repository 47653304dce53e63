theorem dX9_feed_0 : decode μX9_feed.2.1 0 = .ok (.aload_n 0, 1) := by decide +kernel
theorem dX9_feed_1 : decode μX9_feed.2.1 1 = .ok (.getfield 103, 3) := by decide +kernel
theorem dX9_feed_4 : decode μX9_feed.2.1 4 = .ok (.bipush 20, 2) := by decide +kernel
theorem dX9_feed_6 : decode μX9_feed.2.1 6 = .ok (.iadd, 1) := by decide +kernel
theorem dX9_feed_7 : decode μX9_feed.2.1 7 = .ok (.sipush 1600, 3) := by decide +kernel
theorem dX9_feed_10 : decode μX9_feed.2.1 10 = .ok (.if_icmp .le 5, 3) := by decide +kernel
theorem dX9_feed_13 : decode μX9_feed.2.1 13 = .ok (.iconst (-1), 1) := by decide +kernel
theorem dX9_feed_14 : decode μX9_feed.2.1 14 = .ok (.ireturn, 1) := by decide +kernel
theorem dX9_feed_15 : decode μX9_feed.2.1 15 = .ok (.aload_n 0, 1) := by decide +kernel
theorem dX9_feed_16 : decode μX9_feed.2.1 16 = .ok (.iload_n 1, 1) := by decide +kernel
theorem dX9_feed_17 : decode μX9_feed.2.1 17 = .ok (.invokevirtual 106, 3) := by decide +kernel
theorem dX9_feed_20 : decode μX9_feed.2.1 20 = .ok (.aload_n 0, 1) := by decide +kernel
theorem dX9_feed_21 : decode μX9_feed.2.1 21 = .ok (.iload_n 2, 1) := by decide +kernel
theorem dX9_feed_22 : decode μX9_feed.2.1 22 = .ok (.invokevirtual 106, 3) := by decide +kernel
theorem dX9_feed_25 : decode μX9_feed.2.1 25 = .ok (.aload_n 0, 1) := by decide +kernel
theorem dX9_feed_26 : decode μX9_feed.2.1 26 = .ok (.iload_n 3, 1) := by decide +kernel
theorem dX9_feed_27 : decode μX9_feed.2.1 27 = .ok (.invokevirtual 106, 3) := by decide +kernel
theorem dX9_feed_30 : decode μX9_feed.2.1 30 = .ok (.aload_n 0, 1) := by decide +kernel
theorem dX9_feed_31 : decode μX9_feed.2.1 31 = .ok (.iload 4, 2) := by decide +kernel
theorem dX9_feed_33 : decode μX9_feed.2.1 33 = .ok (.invokevirtual 106, 3) := by decide +kernel
theorem dX9_feed_36 : decode μX9_feed.2.1 36 = .ok (.aload_n 0, 1) := by decide +kernel
theorem dX9_feed_37 : decode μX9_feed.2.1 37 = .ok (.iload 5, 2) := by decide +kernel
theorem dX9_feed_39 : decode μX9_feed.2.1 39 = .ok (.invokevirtual 106, 3) := by decide +kernel
theorem dX9_feed_42 : decode μX9_feed.2.1 42 = .ok (.aload_n 0, 1) := by decide +kernel
theorem dX9_feed_43 : decode μX9_feed.2.1 43 = .ok (.getfield 103, 3) := by decide +kernel
theorem dX9_feed_46 : decode μX9_feed.2.1 46 = .ok (.ireturn, 1) := by decide +kernel
set_option maxRecDepth 20000 in
theorem sg_X9_feed_0 {d : Nat} {x1 : Int32} {x2 : Int32} {x3 : Int32} {x4 : Int32} {x5 : Int32} {M : Mem} {K : (Int32 → Mem → Prop)}  (h : (if (ri M 58 1) + 20 ≤ 1600 then (CV d μX9_four [.ref 58, .int x1] M (fun M1 => (CV d μX9_four [.ref 58, .int x2] M1 (fun M2 => (CV d μX9_four [.ref 58, .int x3] M2 (fun M3 => (CV d μX9_four [.ref 58, .int x4] M3 (fun M4 => (CV d μX9_four [.ref 58, .int x5] M4 (fun M5 => K (ri M5 58 1) M5)))))))))) else K ((-1)) M)) : CI (d + 1) μX9_feed [.ref 58, .int x1, .int x2, .int x3, .int x4, .int x5] M K := by
  show Rn (d + 1) μX9_feed 0 [(0, .ref 58), (1, .int x1), (2, .int x2), (3, .int x3), (4, .int x4), (5, .int x5)] [] M _
  refine rn_aload_n (i := 0) (x := 58) dX9_feed_0 rfl (by simp) ?_
  refine rn_geti dX9_feed_1 rfl gf_X9_103 (by decide) ?_
  refine rn_bipush (v := 20) dX9_feed_4 rfl ?_
  refine rn_iadd dX9_feed_6 ?_
  refine rn_sipush (v := 1600) dX9_feed_7 rfl ?_
  refine rn_icmp_le (tgt := 15) dX9_feed_10 (by decide) (ite_go h (fun hc h => ?_) (fun hc h => ?_))
  · refine rn_aload_n (i := 0) (x := 58) dX9_feed_15 rfl (by simp) ?_
    refine rn_iload_n (i := 1) (x := x1) dX9_feed_16 rfl (by simp) ?_
    refine rn_callVv (as := [.int x1]) (st := []) dX9_feed_17 mf_X9_four lk_X9_106 im_X9_four rfl rfl rfl rfl (Nat.le_of_ble_eq_true rfl) (Nat.le_of_ble_eq_true rfl) rfl (RV.mono h (fun M1 h => ?_))
    refine rn_aload_n (i := 0) (x := 58) dX9_feed_20 rfl (by simp) ?_
    refine rn_iload_n (i := 2) (x := x2) dX9_feed_21 rfl (by simp) ?_
    refine rn_callVv (as := [.int x2]) (st := []) dX9_feed_22 mf_X9_four lk_X9_106 im_X9_four rfl rfl rfl rfl (Nat.le_of_ble_eq_true rfl) (Nat.le_of_ble_eq_true rfl) rfl (RV.mono h (fun M2 h => ?_))
    refine rn_aload_n (i := 0) (x := 58) dX9_feed_25 rfl (by simp) ?_
    refine rn_iload_n (i := 3) (x := x3) dX9_feed_26 rfl (by simp) ?_
    refine rn_callVv (as := [.int x3]) (st := []) dX9_feed_27 mf_X9_four lk_X9_106 im_X9_four rfl rfl rfl rfl (Nat.le_of_ble_eq_true rfl) (Nat.le_of_ble_eq_true rfl) rfl (RV.mono h (fun M3 h => ?_))
    refine rn_aload_n (i := 0) (x := 58) dX9_feed_30 rfl (by simp) ?_
    refine rn_iload (x := x4) dX9_feed_31 (by simp) ?_
    refine rn_callVv (as := [.int x4]) (st := []) dX9_feed_33 mf_X9_four lk_X9_106 im_X9_four rfl rfl rfl rfl (Nat.le_of_ble_eq_true rfl) (Nat.le_of_ble_eq_true rfl) rfl (RV.mono h (fun M4 h => ?_))
    refine rn_aload_n (i := 0) (x := 58) dX9_feed_36 rfl (by simp) ?_
    refine rn_iload (x := x5) dX9_feed_37 (by simp) ?_
    refine rn_callVv (as := [.int x5]) (st := []) dX9_feed_39 mf_X9_four lk_X9_106 im_X9_four rfl rfl rfl rfl (Nat.le_of_ble_eq_true rfl) (Nat.le_of_ble_eq_true rfl) rfl (RV.mono h (fun M5 h => ?_))
    refine rn_aload_n (i := 0) (x := 58) dX9_feed_42 rfl (by simp) ?_
    refine rn_geti dX9_feed_43 rfl gf_X9_103 (by decide) ?_
    exact rn_iret dX9_feed_46 rfl ⟨_, rfl, h⟩
  · refine rn_iconst (v := -1) dX9_feed_13 rfl ?_
    exact rn_iret dX9_feed_14 rfl ⟨_, rfl, h⟩
theorem dX9_four_0 : decode μX9_four.2.1 0 = .ok (.bipush 24, 2) := by decide +kernel
theorem dX9_four_2 : decode μX9_four.2.1 2 = .ok (.istore_n 2, 1) := by decide +kernel
theorem dX9_four_3 : decode μX9_four.2.1 3 = .ok (.iload_n 2, 1) := by decide +kernel
theorem dX9_four_4 : decode μX9_four.2.1 4 = .ok (.ifCond .lt 35, 3) := by decide +kernel
theorem dX9_four_7 : decode μX9_four.2.1 7 = .ok (.aload_n 0, 1) := by decide +kernel
theorem dX9_four_8 : decode μX9_four.2.1 8 = .ok (.getfield 7, 3) := by decide +kernel
theorem dX9_four_11 : decode μX9_four.2.1 11 = .ok (.aload_n 0, 1) := by decide +kernel
theorem dX9_four_12 : decode μX9_four.2.1 12 = .ok (.getfield 103, 3) := by decide +kernel
theorem dX9_four_15 : decode μX9_four.2.1 15 = .ok (.iload_n 1, 1) := by decide +kernel
theorem dX9_four_16 : decode μX9_four.2.1 16 = .ok (.iload_n 2, 1) := by decide +kernel
theorem dX9_four_17 : decode μX9_four.2.1 17 = .ok (.ishr, 1) := by decide +kernel
theorem dX9_four_18 : decode μX9_four.2.1 18 = .ok (.sipush 255, 3) := by decide +kernel
theorem dX9_four_21 : decode μX9_four.2.1 21 = .ok (.iand, 1) := by decide +kernel
theorem dX9_four_22 : decode μX9_four.2.1 22 = .ok (.iastore, 1) := by decide +kernel
theorem dX9_four_23 : decode μX9_four.2.1 23 = .ok (.aload_n 0, 1) := by decide +kernel
theorem dX9_four_24 : decode μX9_four.2.1 24 = .ok (.dup, 1) := by decide +kernel
theorem dX9_four_25 : decode μX9_four.2.1 25 = .ok (.getfield 103, 3) := by decide +kernel
theorem dX9_four_28 : decode μX9_four.2.1 28 = .ok (.iconst 1, 1) := by decide +kernel
theorem dX9_four_29 : decode μX9_four.2.1 29 = .ok (.iadd, 1) := by decide +kernel
theorem dX9_four_30 : decode μX9_four.2.1 30 = .ok (.putfield 103, 3) := by decide +kernel
theorem dX9_four_33 : decode μX9_four.2.1 33 = .ok (.iinc 2 (-8), 3) := by decide +kernel
theorem dX9_four_36 : decode μX9_four.2.1 36 = .ok (.goto (-33), 3) := by decide +kernel
theorem dX9_four_39 : decode μX9_four.2.1 39 = .ok (.return_, 1) := by decide +kernel
set_option maxRecDepth 20000 in
theorem sg_X9_four_0 {d : Nat} {x1 : Int32} {M : Mem} {K : (Mem → Prop)}  (h : RV d μX9_four 3 [(0, .ref 58), (1, .int x1), (2, .int 24)] [] M K) : CV d μX9_four [.ref 58, .int x1] M K := by
  show Rn d μX9_four 0 [(0, .ref 58), (1, .int x1)] [] M _
  refine rn_bipush (v := 24) dX9_four_0 rfl ?_
  refine rn_istore_n (lv' := [(0, .ref 58), (1, .int x1), (2, .int 24)]) (hd := dX9_four_2) (i := 2) (hi := rfl) (hn := by decide) (hf := rfl) (hl := rfl) ?_
  exact h
set_option maxRecDepth 20000 in
theorem sg_X9_four_3 {d : Nat} {x1 : Int32} {x2 : Int32} {M : Mem} {K : (Mem → Prop)}  (h : (if x2 < 0 then K M else (vp_in (ri M 58 1) 1600 ∧ ∀ M1, M1 = wi M 59 (nx (ri M 58 1)) ((x1 >>> (x2 &&& 31)) &&& 255) → (∀ M2, M2 = wi M1 58 1 ((ri M1 58 1) + 1) → RV d μX9_four 3 [(0, .ref 58), (1, .int x1), (2, .int (x2 + (-8)))] [] M2 K)))) : RV d μX9_four 3 [(0, .ref 58), (1, .int x1), (2, .int x2)] [] M K := by
  show Rn d μX9_four 3 [(0, .ref 58), (1, .int x1), (2, .int x2)] [] M _
  refine rn_iload_n (i := 2) (x := x2) dX9_four_3 rfl (by simp) ?_
  refine rn_if_lt (tgt := 39) dX9_four_4 (by decide) (ite_go h (fun hc h => ?_) (fun hc h => ?_))
  · exact rn_ret dX9_four_39 rfl ⟨rfl, h⟩
  · refine rn_aload_n (i := 0) (x := 58) dX9_four_7 rfl (by simp) ?_
    refine rn_getr (t := 59) dX9_four_8 rfl gf_X9_7 rfl rfl ?_
    refine rn_aload_n (i := 0) (x := 58) dX9_four_11 rfl (by simp) ?_
    refine rn_geti dX9_four_12 rfl gf_X9_103 (by decide) ?_
    refine rn_iload_n (i := 1) (x := x1) dX9_four_15 rfl (by simp) ?_
    refine rn_iload_n (i := 2) (x := x2) dX9_four_16 rfl (by simp) ?_
    refine rn_ishr dX9_four_17 ?_
    refine rn_sipush (v := 255) dX9_four_18 rfl ?_
    refine rn_iand dX9_four_21 ?_
    obtain ⟨hi, h⟩ := h
    have h := h _ rfl
    refine rn_iastore dX9_four_22 rfl hi ?_
    generalize wi M 59 (nx (ri M 58 1)) ((x1 >>> (x2 &&& 31)) &&& 255) = M1 at h ⊢
    refine rn_aload_n (i := 0) (x := 58) dX9_four_23 rfl (by simp) ?_
    refine rn_dup dX9_four_24 rfl ?_
    refine rn_geti dX9_four_25 rfl gf_X9_103 (by decide) ?_
    refine rn_iconst (v := 1) dX9_four_28 rfl ?_
    refine rn_iadd dX9_four_29 ?_
    have h := h _ rfl
    refine rn_puti dX9_four_30 rfl pf_X9_103 (by decide) rfl rfl ?_
    generalize wi M1 58 1 ((ri M1 58 1) + 1) = M2 at h ⊢
    refine rn_iinc (x := x2) (v := x2 + (-8)) (lv' := [(0, .ref 58), (1, .int x1), (2, .int (x2 + (-8)))]) dX9_four_33 (by simp) rfl (by decide) rfl rfl ?_
    refine rn_goto (tgt := 3) dX9_four_36 (by decide) ?_
    exact h
theorem dX9_end_0 : decode μX9_end.2.1 0 = .ok (.iload_n 1, 1) := by decide +kernel
theorem dX9_end_1 : decode μX9_end.2.1 1 = .ok (.ifCond .lt 11, 3) := by decide +kernel
theorem dX9_end_4 : decode μX9_end.2.1 4 = .ok (.iload_n 1, 1) := by decide +kernel
theorem dX9_end_5 : decode μX9_end.2.1 5 = .ok (.aload_n 0, 1) := by decide +kernel
theorem dX9_end_6 : decode μX9_end.2.1 6 = .ok (.getfield 103, 3) := by decide +kernel
theorem dX9_end_9 : decode μX9_end.2.1 9 = .ok (.if_icmp .le 5, 3) := by decide +kernel
theorem dX9_end_12 : decode μX9_end.2.1 12 = .ok (.iconst (-1), 1) := by decide +kernel
theorem dX9_end_13 : decode μX9_end.2.1 13 = .ok (.ireturn, 1) := by decide +kernel
theorem dX9_end_14 : decode μX9_end.2.1 14 = .ok (.aload_n 0, 1) := by decide +kernel
theorem dX9_end_15 : decode μX9_end.2.1 15 = .ok (.iload_n 1, 1) := by decide +kernel
theorem dX9_end_16 : decode μX9_end.2.1 16 = .ok (.putfield 103, 3) := by decide +kernel
theorem dX9_end_19 : decode μX9_end.2.1 19 = .ok (.iload_n 1, 1) := by decide +kernel
theorem dX9_end_20 : decode μX9_end.2.1 20 = .ok (.ireturn, 1) := by decide +kernel
set_option maxRecDepth 20000 in
theorem sg_X9_end_0 {d : Nat} {x1 : Int32} {M : Mem} {K : (Int32 → Mem → Prop)}  (h : (if x1 < 0 then K ((-1)) M else (if x1 ≤ ri M 58 1 then (∀ M1, M1 = wi M 58 1 x1 → K x1 M1) else K ((-1)) M))) : CI d μX9_end [.ref 58, .int x1] M K := by
  show Rn d μX9_end 0 [(0, .ref 58), (1, .int x1)] [] M _
  refine rn_iload_n (i := 1) (x := x1) dX9_end_0 rfl (by simp) ?_
  refine rn_if_lt (tgt := 12) dX9_end_1 (by decide) (ite_go h (fun hc h => ?_) (fun hc h => ?_))
  · refine rn_iconst (v := -1) dX9_end_12 rfl ?_
    exact rn_iret dX9_end_13 rfl ⟨_, rfl, h⟩
  · refine rn_iload_n (i := 1) (x := x1) dX9_end_4 rfl (by simp) ?_
    refine rn_aload_n (i := 0) (x := 58) dX9_end_5 rfl (by simp) ?_
    refine rn_geti dX9_end_6 rfl gf_X9_103 (by decide) ?_
    refine rn_icmp_le (tgt := 14) dX9_end_9 (by decide) (ite_go h (fun hc h => ?_) (fun hc h => ?_))
    · refine rn_aload_n (i := 0) (x := 58) dX9_end_14 rfl (by simp) ?_
      refine rn_iload_n (i := 1) (x := x1) dX9_end_15 rfl (by simp) ?_
      have h := h _ rfl
      refine rn_puti dX9_end_16 rfl pf_X9_103 (by decide) rfl rfl ?_
      generalize wi M 58 1 x1 = M1 at h ⊢
      refine rn_iload_n (i := 1) (x := x1) dX9_end_19 rfl (by simp) ?_
      exact rn_iret dX9_end_20 rfl ⟨_, rfl, h⟩
    · refine rn_iconst (v := -1) dX9_end_12 rfl ?_
      exact rn_iret dX9_end_13 rfl ⟨_, rfl, h⟩
theorem dX9_here_0 : decode μX9_here.2.1 0 = .ok (.aload_n 0, 1) := by decide +kernel
theorem dX9_here_1 : decode μX9_here.2.1 1 = .ok (.getfield 110, 3) := by decide +kernel
theorem dX9_here_4 : decode μX9_here.2.1 4 = .ok (.iload_n 1, 1) := by decide +kernel
theorem dX9_here_5 : decode μX9_here.2.1 5 = .ok (.iadd, 1) := by decide +kernel
theorem dX9_here_6 : decode μX9_here.2.1 6 = .ok (.aload_n 0, 1) := by decide +kernel
theorem dX9_here_7 : decode μX9_here.2.1 7 = .ok (.getfield 113, 3) := by decide +kernel
theorem dX9_here_10 : decode μX9_here.2.1 10 = .ok (.if_icmp .ge 17, 3) := by decide +kernel
theorem dX9_here_13 : decode μX9_here.2.1 13 = .ok (.aload_n 0, 1) := by decide +kernel
theorem dX9_here_14 : decode μX9_here.2.1 14 = .ok (.getfield 7, 3) := by decide +kernel
theorem dX9_here_17 : decode μX9_here.2.1 17 = .ok (.aload_n 0, 1) := by decide +kernel
theorem dX9_here_18 : decode μX9_here.2.1 18 = .ok (.getfield 110, 3) := by decide +kernel
theorem dX9_here_21 : decode μX9_here.2.1 21 = .ok (.iload_n 1, 1) := by decide +kernel
theorem dX9_here_22 : decode μX9_here.2.1 22 = .ok (.iadd, 1) := by decide +kernel
theorem dX9_here_23 : decode μX9_here.2.1 23 = .ok (.iaload, 1) := by decide +kernel
theorem dX9_here_24 : decode μX9_here.2.1 24 = .ok (.goto 4, 3) := by decide +kernel
theorem dX9_here_27 : decode μX9_here.2.1 27 = .ok (.iconst (-1), 1) := by decide +kernel
theorem dX9_here_28 : decode μX9_here.2.1 28 = .ok (.ireturn, 1) := by decide +kernel
set_option maxRecDepth 20000 in
theorem sg_X9_here_0 {d : Nat} {x1 : Int32} {M : Mem} {K : (Int32 → Mem → Prop)}  (h : (if ri M 58 5 ≤ (ri M 58 4) + x1 then K ((-1)) M else (vp_in ((ri M 58 4) + x1) 1600 ∧ K (ri M 59 (nx ((ri M 58 4) + x1))) M))) : CI d μX9_here [.ref 58, .int x1] M K := by
  show Rn d μX9_here 0 [(0, .ref 58), (1, .int x1)] [] M _
  refine rn_aload_n (i := 0) (x := 58) dX9_here_0 rfl (by simp) ?_
  refine rn_geti dX9_here_1 rfl gf_X9_110 (by decide) ?_
  refine rn_iload_n (i := 1) (x := x1) dX9_here_4 rfl (by simp) ?_
  refine rn_iadd dX9_here_5 ?_
  refine rn_aload_n (i := 0) (x := 58) dX9_here_6 rfl (by simp) ?_
  refine rn_geti dX9_here_7 rfl gf_X9_113 (by decide) ?_
  refine rn_icmp_ge (tgt := 27) dX9_here_10 (by decide) (ite_go h (fun hc h => ?_) (fun hc h => ?_))
  · refine rn_iconst (v := -1) dX9_here_27 rfl ?_
    exact rn_iret dX9_here_28 rfl ⟨_, rfl, h⟩
  · refine rn_aload_n (i := 0) (x := 58) dX9_here_13 rfl (by simp) ?_
    refine rn_getr (t := 59) dX9_here_14 rfl gf_X9_7 rfl rfl ?_
    refine rn_aload_n (i := 0) (x := 58) dX9_here_17 rfl (by simp) ?_
    refine rn_geti dX9_here_18 rfl gf_X9_110 (by decide) ?_
    refine rn_iload_n (i := 1) (x := x1) dX9_here_21 rfl (by simp) ?_
    refine rn_iadd dX9_here_22 ?_
    obtain ⟨hi, h⟩ := h
    refine rn_iaload dX9_here_23 rfl hi ?_
    refine rn_goto (tgt := 28) dX9_here_24 (by decide) ?_
    exact rn_iret dX9_here_28 rfl ⟨_, rfl, h⟩
theorem dX9_isLetter_0 : decode μX9_isLetter.2.1 0 = .ok (.iload_n 0, 1) := by decide +kernel
theorem dX9_isLetter_1 : decode μX9_isLetter.2.1 1 = .ok (.bipush 97, 2) := by decide +kernel
theorem dX9_isLetter_3 : decode μX9_isLetter.2.1 3 = .ok (.if_icmp .lt 13, 3) := by decide +kernel
theorem dX9_isLetter_6 : decode μX9_isLetter.2.1 6 = .ok (.iload_n 0, 1) := by decide +kernel
theorem dX9_isLetter_7 : decode μX9_isLetter.2.1 7 = .ok (.bipush 122, 2) := by decide +kernel
theorem dX9_isLetter_9 : decode μX9_isLetter.2.1 9 = .ok (.if_icmp .gt 7, 3) := by decide +kernel
theorem dX9_isLetter_12 : decode μX9_isLetter.2.1 12 = .ok (.iconst 1, 1) := by decide +kernel
theorem dX9_isLetter_13 : decode μX9_isLetter.2.1 13 = .ok (.goto 4, 3) := by decide +kernel
theorem dX9_isLetter_16 : decode μX9_isLetter.2.1 16 = .ok (.iconst 0, 1) := by decide +kernel
theorem dX9_isLetter_17 : decode μX9_isLetter.2.1 17 = .ok (.ireturn, 1) := by decide +kernel
set_option maxRecDepth 20000 in
theorem sg_X9_isLetter_0 {d : Nat} {x0 : Int32} {M : Mem} {K : (Int32 → Mem → Prop)}  (h : (if x0 < 97 then K 0 M else (if 122 < x0 then K 0 M else K 1 M))) : CI d μX9_isLetter [.int x0] M K := by
  show Rn d μX9_isLetter 0 [(0, .int x0)] [] M _
  refine rn_iload_n (i := 0) (x := x0) dX9_isLetter_0 rfl (by simp) ?_
  refine rn_bipush (v := 97) dX9_isLetter_1 rfl ?_
  refine rn_icmp_lt (tgt := 16) dX9_isLetter_3 (by decide) (ite_go h (fun hc h => ?_) (fun hc h => ?_))
  · refine rn_iconst (v := 0) dX9_isLetter_16 rfl ?_
    exact rn_zret dX9_isLetter_17 rfl (by decide) ⟨_, rfl, h⟩
  · refine rn_iload_n (i := 0) (x := x0) dX9_isLetter_6 rfl (by simp) ?_
    refine rn_bipush (v := 122) dX9_isLetter_7 rfl ?_
    refine rn_icmp_gt (tgt := 16) dX9_isLetter_9 (by decide) (ite_go h (fun hc h => ?_) (fun hc h => ?_))
    · refine rn_iconst (v := 0) dX9_isLetter_16 rfl ?_
      exact rn_zret dX9_isLetter_17 rfl (by decide) ⟨_, rfl, h⟩
    · refine rn_iconst (v := 1) dX9_isLetter_12 rfl ?_
      refine rn_goto (tgt := 17) dX9_isLetter_13 (by decide) ?_
      exact rn_zret dX9_isLetter_17 rfl (by decide) ⟨_, rfl, h⟩
theorem dX9_isDigit_0 : decode μX9_isDigit.2.1 0 = .ok (.iload_n 0, 1) := by decide +kernel
theorem dX9_isDigit_1 : decode μX9_isDigit.2.1 1 = .ok (.bipush 48, 2) := by decide +kernel
theorem dX9_isDigit_3 : decode μX9_isDigit.2.1 3 = .ok (.if_icmp .lt 13, 3) := by decide +kernel
theorem dX9_isDigit_6 : decode μX9_isDigit.2.1 6 = .ok (.iload_n 0, 1) := by decide +kernel
theorem dX9_isDigit_7 : decode μX9_isDigit.2.1 7 = .ok (.bipush 57, 2) := by decide +kernel
theorem dX9_isDigit_9 : decode μX9_isDigit.2.1 9 = .ok (.if_icmp .gt 7, 3) := by decide +kernel
theorem dX9_isDigit_12 : decode μX9_isDigit.2.1 12 = .ok (.iconst 1, 1) := by decide +kernel
theorem dX9_isDigit_13 : decode μX9_isDigit.2.1 13 = .ok (.goto 4, 3) := by decide +kernel
theorem dX9_isDigit_16 : decode μX9_isDigit.2.1 16 = .ok (.iconst 0, 1) := by decide +kernel
theorem dX9_isDigit_17 : decode μX9_isDigit.2.1 17 = .ok (.ireturn, 1) := by decide +kernel
set_option maxRecDepth 20000 in
theorem sg_X9_isDigit_0 {d : Nat} {x0 : Int32} {M : Mem} {K : (Int32 → Mem → Prop)}  (h : (if x0 < 48 then K 0 M else (if 57 < x0 then K 0 M else K 1 M))) : CI d μX9_isDigit [.int x0] M K := by
  show Rn d μX9_isDigit 0 [(0, .int x0)] [] M _
  refine rn_iload_n (i := 0) (x := x0) dX9_isDigit_0 rfl (by simp) ?_
  refine rn_bipush (v := 48) dX9_isDigit_1 rfl ?_
  refine rn_icmp_lt (tgt := 16) dX9_isDigit_3 (by decide) (ite_go h (fun hc h => ?_) (fun hc h => ?_))
  · refine rn_iconst (v := 0) dX9_isDigit_16 rfl ?_
    exact rn_zret dX9_isDigit_17 rfl (by decide) ⟨_, rfl, h⟩
  · refine rn_iload_n (i := 0) (x := x0) dX9_isDigit_6 rfl (by simp) ?_
    refine rn_bipush (v := 57) dX9_isDigit_7 rfl ?_
    refine rn_icmp_gt (tgt := 16) dX9_isDigit_9 (by decide) (ite_go h (fun hc h => ?_) (fun hc h => ?_))
    · refine rn_iconst (v := 0) dX9_isDigit_16 rfl ?_
      exact rn_zret dX9_isDigit_17 rfl (by decide) ⟨_, rfl, h⟩
    · refine rn_iconst (v := 1) dX9_isDigit_12 rfl ?_
      refine rn_goto (tgt := 17) dX9_isDigit_13 (by decide) ?_
      exact rn_zret dX9_isDigit_17 rfl (by decide) ⟨_, rfl, h⟩
theorem dX9_isSign_0 : decode μX9_isSign.2.1 0 = .ok (.iload_n 0, 1) := by decide +kernel
theorem dX9_isSign_1 : decode μX9_isSign.2.1 1 = .ok (.bipush 59, 2) := by decide +kernel
theorem dX9_isSign_3 : decode μX9_isSign.2.1 3 = .ok (.if_icmp .eq 63, 3) := by decide +kernel
theorem dX9_isSign_6 : decode μX9_isSign.2.1 6 = .ok (.iload_n 0, 1) := by decide +kernel
theorem dX9_isSign_7 : decode μX9_isSign.2.1 7 = .ok (.bipush 40, 2) := by decide +kernel
theorem dX9_isSign_9 : decode μX9_isSign.2.1 9 = .ok (.if_icmp .eq 57, 3) := by decide +kernel
theorem dX9_isSign_12 : decode μX9_isSign.2.1 12 = .ok (.iload_n 0, 1) := by decide +kernel
theorem dX9_isSign_13 : decode μX9_isSign.2.1 13 = .ok (.bipush 41, 2) := by decide +kernel
theorem dX9_isSign_15 : decode μX9_isSign.2.1 15 = .ok (.if_icmp .eq 51, 3) := by decide +kernel
theorem dX9_isSign_18 : decode μX9_isSign.2.1 18 = .ok (.iload_n 0, 1) := by decide +kernel
theorem dX9_isSign_19 : decode μX9_isSign.2.1 19 = .ok (.bipush 60, 2) := by decide +kernel
theorem dX9_isSign_21 : decode μX9_isSign.2.1 21 = .ok (.if_icmp .eq 45, 3) := by decide +kernel
theorem dX9_isSign_24 : decode μX9_isSign.2.1 24 = .ok (.iload_n 0, 1) := by decide +kernel
theorem dX9_isSign_25 : decode μX9_isSign.2.1 25 = .ok (.bipush 62, 2) := by decide +kernel
theorem dX9_isSign_27 : decode μX9_isSign.2.1 27 = .ok (.if_icmp .eq 39, 3) := by decide +kernel
theorem dX9_isSign_30 : decode μX9_isSign.2.1 30 = .ok (.iload_n 0, 1) := by decide +kernel
theorem dX9_isSign_31 : decode μX9_isSign.2.1 31 = .ok (.bipush 61, 2) := by decide +kernel
theorem dX9_isSign_33 : decode μX9_isSign.2.1 33 = .ok (.if_icmp .eq 33, 3) := by decide +kernel
theorem dX9_isSign_36 : decode μX9_isSign.2.1 36 = .ok (.iload_n 0, 1) := by decide +kernel
theorem dX9_isSign_37 : decode μX9_isSign.2.1 37 = .ok (.bipush 43, 2) := by decide +kernel
theorem dX9_isSign_39 : decode μX9_isSign.2.1 39 = .ok (.if_icmp .eq 27, 3) := by decide +kernel
theorem dX9_isSign_42 : decode μX9_isSign.2.1 42 = .ok (.iload_n 0, 1) := by decide +kernel
theorem dX9_isSign_43 : decode μX9_isSign.2.1 43 = .ok (.bipush 45, 2) := by decide +kernel
theorem dX9_isSign_45 : decode μX9_isSign.2.1 45 = .ok (.if_icmp .eq 21, 3) := by decide +kernel
theorem dX9_isSign_48 : decode μX9_isSign.2.1 48 = .ok (.iload_n 0, 1) := by decide +kernel
theorem dX9_isSign_49 : decode μX9_isSign.2.1 49 = .ok (.bipush 42, 2) := by decide +kernel
theorem dX9_isSign_51 : decode μX9_isSign.2.1 51 = .ok (.if_icmp .eq 15, 3) := by decide +kernel
theorem dX9_isSign_54 : decode μX9_isSign.2.1 54 = .ok (.iload_n 0, 1) := by decide +kernel
theorem dX9_isSign_55 : decode μX9_isSign.2.1 55 = .ok (.bipush 47, 2) := by decide +kernel
theorem dX9_isSign_57 : decode μX9_isSign.2.1 57 = .ok (.if_icmp .eq 9, 3) := by decide +kernel
theorem dX9_isSign_60 : decode μX9_isSign.2.1 60 = .ok (.iload_n 0, 1) := by decide +kernel
theorem dX9_isSign_61 : decode μX9_isSign.2.1 61 = .ok (.bipush 37, 2) := by decide +kernel
theorem dX9_isSign_63 : decode μX9_isSign.2.1 63 = .ok (.if_icmp .ne 7, 3) := by decide +kernel
theorem dX9_isSign_66 : decode μX9_isSign.2.1 66 = .ok (.iconst 1, 1) := by decide +kernel
theorem dX9_isSign_67 : decode μX9_isSign.2.1 67 = .ok (.goto 4, 3) := by decide +kernel
theorem dX9_isSign_70 : decode μX9_isSign.2.1 70 = .ok (.iconst 0, 1) := by decide +kernel
theorem dX9_isSign_71 : decode μX9_isSign.2.1 71 = .ok (.ireturn, 1) := by decide +kernel
set_option maxRecDepth 20000 in
theorem sg_X9_isSign_0 {d : Nat} {x0 : Int32} {M : Mem} {K : (Int32 → Mem → Prop)}  (h : (if x0 = 59 then K 1 M else (if x0 = 40 then K 1 M else (if x0 = 41 then K 1 M else (if x0 = 60 then K 1 M else (if x0 = 62 then K 1 M else (if x0 = 61 then K 1 M else (if x0 = 43 then K 1 M else (if x0 = 45 then K 1 M else (if x0 = 42 then K 1 M else (if x0 = 47 then K 1 M else (if x0 = 37 then K 1 M else K 0 M)))))))))))) : CI d μX9_isSign [.int x0] M K := by
  show Rn d μX9_isSign 0 [(0, .int x0)] [] M _
  refine rn_iload_n (i := 0) (x := x0) dX9_isSign_0 rfl (by simp) ?_
  refine rn_bipush (v := 59) dX9_isSign_1 rfl ?_
  refine rn_icmp_eq (tgt := 66) dX9_isSign_3 (by decide) (ite_go h (fun hc h => ?_) (fun hc h => ?_))
  · refine rn_iconst (v := 1) dX9_isSign_66 rfl ?_
    refine rn_goto (tgt := 71) dX9_isSign_67 (by decide) ?_
    exact rn_zret dX9_isSign_71 rfl (by decide) ⟨_, rfl, h⟩
  · refine rn_iload_n (i := 0) (x := x0) dX9_isSign_6 rfl (by simp) ?_
    refine rn_bipush (v := 40) dX9_isSign_7 rfl ?_
    refine rn_icmp_eq (tgt := 66) dX9_isSign_9 (by decide) (ite_go h (fun hc h => ?_) (fun hc h => ?_))
    · refine rn_iconst (v := 1) dX9_isSign_66 rfl ?_
      refine rn_goto (tgt := 71) dX9_isSign_67 (by decide) ?_
      exact rn_zret dX9_isSign_71 rfl (by decide) ⟨_, rfl, h⟩
    · refine rn_iload_n (i := 0) (x := x0) dX9_isSign_12 rfl (by simp) ?_
      refine rn_bipush (v := 41) dX9_isSign_13 rfl ?_
      refine rn_icmp_eq (tgt := 66) dX9_isSign_15 (by decide) (ite_go h (fun hc h => ?_) (fun hc h => ?_))
      · refine rn_iconst (v := 1) dX9_isSign_66 rfl ?_
        refine rn_goto (tgt := 71) dX9_isSign_67 (by decide) ?_
        exact rn_zret dX9_isSign_71 rfl (by decide) ⟨_, rfl, h⟩
      · refine rn_iload_n (i := 0) (x := x0) dX9_isSign_18 rfl (by simp) ?_
        refine rn_bipush (v := 60) dX9_isSign_19 rfl ?_
        refine rn_icmp_eq (tgt := 66) dX9_isSign_21 (by decide) (ite_go h (fun hc h => ?_) (fun hc h => ?_))
        · refine rn_iconst (v := 1) dX9_isSign_66 rfl ?_
          refine rn_goto (tgt := 71) dX9_isSign_67 (by decide) ?_
          exact rn_zret dX9_isSign_71 rfl (by decide) ⟨_, rfl, h⟩
        · refine rn_iload_n (i := 0) (x := x0) dX9_isSign_24 rfl (by simp) ?_
          refine rn_bipush (v := 62) dX9_isSign_25 rfl ?_
          refine rn_icmp_eq (tgt := 66) dX9_isSign_27 (by decide) (ite_go h (fun hc h => ?_) (fun hc h => ?_))
          · refine rn_iconst (v := 1) dX9_isSign_66 rfl ?_
            refine rn_goto (tgt := 71) dX9_isSign_67 (by decide) ?_
            exact rn_zret dX9_isSign_71 rfl (by decide) ⟨_, rfl, h⟩
          · refine rn_iload_n (i := 0) (x := x0) dX9_isSign_30 rfl (by simp) ?_
            refine rn_bipush (v := 61) dX9_isSign_31 rfl ?_
            refine rn_icmp_eq (tgt := 66) dX9_isSign_33 (by decide) (ite_go h (fun hc h => ?_) (fun hc h => ?_))
            · refine rn_iconst (v := 1) dX9_isSign_66 rfl ?_
              refine rn_goto (tgt := 71) dX9_isSign_67 (by decide) ?_
              exact rn_zret dX9_isSign_71 rfl (by decide) ⟨_, rfl, h⟩
            · refine rn_iload_n (i := 0) (x := x0) dX9_isSign_36 rfl (by simp) ?_
              refine rn_bipush (v := 43) dX9_isSign_37 rfl ?_
              refine rn_icmp_eq (tgt := 66) dX9_isSign_39 (by decide) (ite_go h (fun hc h => ?_) (fun hc h => ?_))
              · refine rn_iconst (v := 1) dX9_isSign_66 rfl ?_
                refine rn_goto (tgt := 71) dX9_isSign_67 (by decide) ?_
                exact rn_zret dX9_isSign_71 rfl (by decide) ⟨_, rfl, h⟩
              · refine rn_iload_n (i := 0) (x := x0) dX9_isSign_42 rfl (by simp) ?_
                refine rn_bipush (v := 45) dX9_isSign_43 rfl ?_
                refine rn_icmp_eq (tgt := 66) dX9_isSign_45 (by decide) (ite_go h (fun hc h => ?_) (fun hc h => ?_))
                · refine rn_iconst (v := 1) dX9_isSign_66 rfl ?_
                  refine rn_goto (tgt := 71) dX9_isSign_67 (by decide) ?_
                  exact rn_zret dX9_isSign_71 rfl (by decide) ⟨_, rfl, h⟩
                · refine rn_iload_n (i := 0) (x := x0) dX9_isSign_48 rfl (by simp) ?_
                  refine rn_bipush (v := 42) dX9_isSign_49 rfl ?_
                  refine rn_icmp_eq (tgt := 66) dX9_isSign_51 (by decide) (ite_go h (fun hc h => ?_) (fun hc h => ?_))
                  · refine rn_iconst (v := 1) dX9_isSign_66 rfl ?_
                    refine rn_goto (tgt := 71) dX9_isSign_67 (by decide) ?_
                    exact rn_zret dX9_isSign_71 rfl (by decide) ⟨_, rfl, h⟩
                  · refine rn_iload_n (i := 0) (x := x0) dX9_isSign_54 rfl (by simp) ?_
                    refine rn_bipush (v := 47) dX9_isSign_55 rfl ?_
                    refine rn_icmp_eq (tgt := 66) dX9_isSign_57 (by decide) (ite_go h (fun hc h => ?_) (fun hc h => ?_))
                    · refine rn_iconst (v := 1) dX9_isSign_66 rfl ?_
                      refine rn_goto (tgt := 71) dX9_isSign_67 (by decide) ?_
                      exact rn_zret dX9_isSign_71 rfl (by decide) ⟨_, rfl, h⟩
                    · refine rn_iload_n (i := 0) (x := x0) dX9_isSign_60 rfl (by simp) ?_
                      refine rn_bipush (v := 37) dX9_isSign_61 rfl ?_
                      refine rn_icmp_ne (tgt := 70) dX9_isSign_63 (by decide) (ite_go h (fun hc h => ?_) (fun hc h => ?_))
                      · refine rn_iconst (v := 1) dX9_isSign_66 rfl ?_
                        refine rn_goto (tgt := 71) dX9_isSign_67 (by decide) ?_
                        exact rn_zret dX9_isSign_71 rfl (by decide) ⟨_, rfl, h⟩
                      · refine rn_iconst (v := 0) dX9_isSign_70 rfl ?_
                        exact rn_zret dX9_isSign_71 rfl (by decide) ⟨_, rfl, h⟩
theorem dX9_token_0 : decode μX9_token.2.1 0 = .ok (.aload_n 0, 1) := by decide +kernel
theorem dX9_token_1 : decode μX9_token.2.1 1 = .ok (.iconst 0, 1) := by decide +kernel
theorem dX9_token_2 : decode μX9_token.2.1 2 = .ok (.invokevirtual 116, 3) := by decide +kernel
theorem dX9_token_5 : decode μX9_token.2.1 5 = .ok (.bipush 32, 2) := by decide +kernel
theorem dX9_token_7 : decode μX9_token.2.1 7 = .ok (.if_icmp .eq 13, 3) := by decide +kernel
theorem dX9_token_10 : decode μX9_token.2.1 10 = .ok (.aload_n 0, 1) := by decide +kernel
theorem dX9_token_11 : decode μX9_token.2.1 11 = .ok (.iconst 0, 1) := by decide +kernel
theorem dX9_token_12 : decode μX9_token.2.1 12 = .ok (.invokevirtual 116, 3) := by decide +kernel
theorem dX9_token_15 : decode μX9_token.2.1 15 = .ok (.bipush 10, 2) := by decide +kernel
theorem dX9_token_17 : decode μX9_token.2.1 17 = .ok (.if_icmp .ne 16, 3) := by decide +kernel
theorem dX9_token_20 : decode μX9_token.2.1 20 = .ok (.aload_n 0, 1) := by decide +kernel
theorem dX9_token_21 : decode μX9_token.2.1 21 = .ok (.dup, 1) := by decide +kernel
theorem dX9_token_22 : decode μX9_token.2.1 22 = .ok (.getfield 110, 3) := by decide +kernel
theorem dX9_token_25 : decode μX9_token.2.1 25 = .ok (.iconst 1, 1) := by decide +kernel
theorem dX9_token_26 : decode μX9_token.2.1 26 = .ok (.iadd, 1) := by decide +kernel
theorem dX9_token_27 : decode μX9_token.2.1 27 = .ok (.putfield 110, 3) := by decide +kernel
theorem dX9_token_30 : decode μX9_token.2.1 30 = .ok (.goto (-30), 3) := by decide +kernel
theorem dX9_token_33 : decode μX9_token.2.1 33 = .ok (.aload_n 0, 1) := by decide +kernel
theorem dX9_token_34 : decode μX9_token.2.1 34 = .ok (.aload_n 0, 1) := by decide +kernel
theorem dX9_token_35 : decode μX9_token.2.1 35 = .ok (.getfield 110, 3) := by decide +kernel
theorem dX9_token_38 : decode μX9_token.2.1 38 = .ok (.putfield 120, 3) := by decide +kernel
theorem dX9_token_41 : decode μX9_token.2.1 41 = .ok (.aload_n 0, 1) := by decide +kernel
theorem dX9_token_42 : decode μX9_token.2.1 42 = .ok (.iconst 0, 1) := by decide +kernel
theorem dX9_token_43 : decode μX9_token.2.1 43 = .ok (.invokevirtual 116, 3) := by decide +kernel
theorem dX9_token_46 : decode μX9_token.2.1 46 = .ok (.istore_n 1, 1) := by decide +kernel
theorem dX9_token_47 : decode μX9_token.2.1 47 = .ok (.iconst 0, 1) := by decide +kernel
theorem dX9_token_48 : decode μX9_token.2.1 48 = .ok (.istore_n 2, 1) := by decide +kernel
theorem dX9_token_49 : decode μX9_token.2.1 49 = .ok (.aload_n 0, 1) := by decide +kernel
theorem dX9_token_50 : decode μX9_token.2.1 50 = .ok (.lconst 0, 1) := by decide +kernel
theorem dX9_token_51 : decode μX9_token.2.1 51 = .ok (.putfield 123, 3) := by decide +kernel
theorem dX9_token_54 : decode μX9_token.2.1 54 = .ok (.aload_n 0, 1) := by decide +kernel
theorem dX9_token_55 : decode μX9_token.2.1 55 = .ok (.iconst 0, 1) := by decide +kernel
theorem dX9_token_56 : decode μX9_token.2.1 56 = .ok (.putfield 127, 3) := by decide +kernel
theorem dX9_token_59 : decode μX9_token.2.1 59 = .ok (.iload_n 1, 1) := by decide +kernel
theorem dX9_token_60 : decode μX9_token.2.1 60 = .ok (.ifCond .ge 11, 3) := by decide +kernel
theorem dX9_token_63 : decode μX9_token.2.1 63 = .ok (.aload_n 0, 1) := by decide +kernel
theorem dX9_token_64 : decode μX9_token.2.1 64 = .ok (.iconst 0, 1) := by decide +kernel
theorem dX9_token_65 : decode μX9_token.2.1 65 = .ok (.putfield 130, 3) := by decide +kernel
theorem dX9_token_68 : decode μX9_token.2.1 68 = .ok (.goto 164, 3) := by decide +kernel
theorem dX9_token_71 : decode μX9_token.2.1 71 = .ok (.iload_n 1, 1) := by decide +kernel
theorem dX9_token_72 : decode μX9_token.2.1 72 = .ok (.invokestatic 133, 3) := by decide +kernel
theorem dX9_token_75 : decode μX9_token.2.1 75 = .ok (.ifCond .eq 62, 3) := by decide +kernel
theorem dX9_token_78 : decode μX9_token.2.1 78 = .ok (.aload_n 0, 1) := by decide +kernel
theorem dX9_token_79 : decode μX9_token.2.1 79 = .ok (.iload_n 2, 1) := by decide +kernel
theorem dX9_token_80 : decode μX9_token.2.1 80 = .ok (.invokevirtual 116, 3) := by decide +kernel
theorem dX9_token_83 : decode μX9_token.2.1 83 = .ok (.invokestatic 133, 3) := by decide +kernel
theorem dX9_token_86 : decode μX9_token.2.1 86 = .ok (.ifCond .eq 33, 3) := by decide +kernel
theorem dX9_token_89 : decode μX9_token.2.1 89 = .ok (.iload_n 2, 1) := by decide +kernel
theorem dX9_token_90 : decode μX9_token.2.1 90 = .ok (.bipush 8, 2) := by decide +kernel
theorem dX9_token_92 : decode μX9_token.2.1 92 = .ok (.if_icmp .ge 21, 3) := by decide +kernel
theorem dX9_token_95 : decode μX9_token.2.1 95 = .ok (.aload_n 0, 1) := by decide +kernel
theorem dX9_token_96 : decode μX9_token.2.1 96 = .ok (.aload_n 0, 1) := by decide +kernel
theorem dX9_token_97 : decode μX9_token.2.1 97 = .ok (.getfield 123, 3) := by decide +kernel
theorem dX9_token_100 : decode μX9_token.2.1 100 = .ok (.bipush 8, 2) := by decide +kernel
theorem dX9_token_102 : decode μX9_token.2.1 102 = .ok (.lshl, 1) := by decide +kernel
theorem dX9_token_103 : decode μX9_token.2.1 103 = .ok (.aload_n 0, 1) := by decide +kernel
theorem dX9_token_104 : decode μX9_token.2.1 104 = .ok (.iload_n 2, 1) := by decide +kernel
theorem dX9_token_105 : decode μX9_token.2.1 105 = .ok (.invokevirtual 116, 3) := by decide +kernel
theorem dX9_token_108 : decode μX9_token.2.1 108 = .ok (.i2l, 1) := by decide +kernel
theorem dX9_token_109 : decode μX9_token.2.1 109 = .ok (.lor, 1) := by decide +kernel
theorem dX9_token_110 : decode μX9_token.2.1 110 = .ok (.putfield 123, 3) := by decide +kernel
theorem dX9_token_113 : decode μX9_token.2.1 113 = .ok (.iinc 2 1, 3) := by decide +kernel
theorem dX9_token_116 : decode μX9_token.2.1 116 = .ok (.goto (-38), 3) := by decide +kernel
theorem dX9_token_119 : decode μX9_token.2.1 119 = .ok (.aload_n 0, 1) := by decide +kernel
theorem dX9_token_120 : decode μX9_token.2.1 120 = .ok (.iload_n 2, 1) := by decide +kernel
theorem dX9_token_121 : decode μX9_token.2.1 121 = .ok (.bipush 8, 2) := by decide +kernel
theorem dX9_token_123 : decode μX9_token.2.1 123 = .ok (.if_icmp .le 7, 3) := by decide +kernel
theorem dX9_token_126 : decode μX9_token.2.1 126 = .ok (.iconst 3, 1) := by decide +kernel
theorem dX9_token_127 : decode μX9_token.2.1 127 = .ok (.goto 4, 3) := by decide +kernel
theorem dX9_token_130 : decode μX9_token.2.1 130 = .ok (.iconst 1, 1) := by decide +kernel
theorem dX9_token_131 : decode μX9_token.2.1 131 = .ok (.putfield 130, 3) := by decide +kernel
theorem dX9_token_134 : decode μX9_token.2.1 134 = .ok (.goto 98, 3) := by decide +kernel
theorem dX9_token_137 : decode μX9_token.2.1 137 = .ok (.iload_n 1, 1) := by decide +kernel
theorem dX9_token_138 : decode μX9_token.2.1 138 = .ok (.invokestatic 137, 3) := by decide +kernel
theorem dX9_token_141 : decode μX9_token.2.1 141 = .ok (.ifCond .eq 73, 3) := by decide +kernel
theorem dX9_token_144 : decode μX9_token.2.1 144 = .ok (.aload_n 0, 1) := by decide +kernel
theorem dX9_token_145 : decode μX9_token.2.1 145 = .ok (.iload_n 2, 1) := by decide +kernel
theorem dX9_token_146 : decode μX9_token.2.1 146 = .ok (.invokevirtual 116, 3) := by decide +kernel
theorem dX9_token_149 : decode μX9_token.2.1 149 = .ok (.invokestatic 137, 3) := by decide +kernel
theorem dX9_token_152 : decode μX9_token.2.1 152 = .ok (.ifCond .eq 34, 3) := by decide +kernel
theorem dX9_token_155 : decode μX9_token.2.1 155 = .ok (.iload_n 2, 1) := by decide +kernel
theorem dX9_token_156 : decode μX9_token.2.1 156 = .ok (.iconst 4, 1) := by decide +kernel
theorem dX9_token_157 : decode μX9_token.2.1 157 = .ok (.if_icmp .ge 23, 3) := by decide +kernel
theorem dX9_token_160 : decode μX9_token.2.1 160 = .ok (.aload_n 0, 1) := by decide +kernel
theorem dX9_token_161 : decode μX9_token.2.1 161 = .ok (.bipush 10, 2) := by decide +kernel
theorem dX9_token_163 : decode μX9_token.2.1 163 = .ok (.aload_n 0, 1) := by decide +kernel
theorem dX9_token_164 : decode μX9_token.2.1 164 = .ok (.getfield 127, 3) := by decide +kernel
theorem dX9_token_167 : decode μX9_token.2.1 167 = .ok (.imul, 1) := by decide +kernel
theorem dX9_token_168 : decode μX9_token.2.1 168 = .ok (.aload_n 0, 1) := by decide +kernel
theorem dX9_token_169 : decode μX9_token.2.1 169 = .ok (.iload_n 2, 1) := by decide +kernel
theorem dX9_token_170 : decode μX9_token.2.1 170 = .ok (.invokevirtual 116, 3) := by decide +kernel
theorem dX9_token_173 : decode μX9_token.2.1 173 = .ok (.iadd, 1) := by decide +kernel
theorem dX9_token_174 : decode μX9_token.2.1 174 = .ok (.bipush 48, 2) := by decide +kernel
theorem dX9_token_176 : decode μX9_token.2.1 176 = .ok (.isub, 1) := by decide +kernel
theorem dX9_token_177 : decode μX9_token.2.1 177 = .ok (.putfield 127, 3) := by decide +kernel
theorem dX9_token_180 : decode μX9_token.2.1 180 = .ok (.iinc 2 1, 3) := by decide +kernel
theorem dX9_token_183 : decode μX9_token.2.1 183 = .ok (.goto (-39), 3) := by decide +kernel
theorem dX9_token_186 : decode μX9_token.2.1 186 = .ok (.aload_n 0, 1) := by decide +kernel
theorem dX9_token_187 : decode μX9_token.2.1 187 = .ok (.iload_n 2, 1) := by decide +kernel
theorem dX9_token_188 : decode μX9_token.2.1 188 = .ok (.iconst 4, 1) := by decide +kernel
theorem dX9_token_189 : decode μX9_token.2.1 189 = .ok (.if_icmp .gt 14, 3) := by decide +kernel
theorem dX9_token_192 : decode μX9_token.2.1 192 = .ok (.aload_n 0, 1) := by decide +kernel
theorem dX9_token_193 : decode μX9_token.2.1 193 = .ok (.iload_n 2, 1) := by decide +kernel
theorem dX9_token_194 : decode μX9_token.2.1 194 = .ok (.invokevirtual 116, 3) := by decide +kernel
theorem dX9_token_197 : decode μX9_token.2.1 197 = .ok (.invokestatic 133, 3) := by decide +kernel
theorem dX9_token_200 : decode μX9_token.2.1 200 = .ok (.ifCond .eq 7, 3) := by decide +kernel
theorem dX9_token_203 : decode μX9_token.2.1 203 = .ok (.iconst 3, 1) := by decide +kernel
theorem dX9_token_204 : decode μX9_token.2.1 204 = .ok (.goto 4, 3) := by decide +kernel
theorem dX9_token_207 : decode μX9_token.2.1 207 = .ok (.iconst 2, 1) := by decide +kernel
theorem dX9_token_208 : decode μX9_token.2.1 208 = .ok (.putfield 130, 3) := by decide +kernel
theorem dX9_token_211 : decode μX9_token.2.1 211 = .ok (.goto 21, 3) := by decide +kernel
theorem dX9_token_214 : decode μX9_token.2.1 214 = .ok (.iconst 1, 1) := by decide +kernel
theorem dX9_token_215 : decode μX9_token.2.1 215 = .ok (.istore_n 2, 1) := by decide +kernel
theorem dX9_token_216 : decode μX9_token.2.1 216 = .ok (.aload_n 0, 1) := by decide +kernel
theorem dX9_token_217 : decode μX9_token.2.1 217 = .ok (.iload_n 1, 1) := by decide +kernel
theorem dX9_token_218 : decode μX9_token.2.1 218 = .ok (.invokestatic 140, 3) := by decide +kernel
theorem dX9_token_221 : decode μX9_token.2.1 221 = .ok (.ifCond .eq 7, 3) := by decide +kernel
theorem dX9_token_224 : decode μX9_token.2.1 224 = .ok (.iload_n 1, 1) := by decide +kernel
theorem dX9_token_225 : decode μX9_token.2.1 225 = .ok (.goto 4, 3) := by decide +kernel
theorem dX9_token_228 : decode μX9_token.2.1 228 = .ok (.iconst 3, 1) := by decide +kernel
theorem dX9_token_229 : decode μX9_token.2.1 229 = .ok (.putfield 130, 3) := by decide +kernel
theorem dX9_token_232 : decode μX9_token.2.1 232 = .ok (.aload_n 0, 1) := by decide +kernel
theorem dX9_token_233 : decode μX9_token.2.1 233 = .ok (.getfield 130, 3) := by decide +kernel
theorem dX9_token_236 : decode μX9_token.2.1 236 = .ok (.iconst 3, 1) := by decide +kernel
theorem dX9_token_237 : decode μX9_token.2.1 237 = .ok (.if_icmp .eq 13, 3) := by decide +kernel
theorem dX9_token_240 : decode μX9_token.2.1 240 = .ok (.aload_n 0, 1) := by decide +kernel
theorem dX9_token_241 : decode μX9_token.2.1 241 = .ok (.dup, 1) := by decide +kernel
theorem dX9_token_242 : decode μX9_token.2.1 242 = .ok (.getfield 110, 3) := by decide +kernel
theorem dX9_token_245 : decode μX9_token.2.1 245 = .ok (.iload_n 2, 1) := by decide +kernel
theorem dX9_token_246 : decode μX9_token.2.1 246 = .ok (.iadd, 1) := by decide +kernel
theorem dX9_token_247 : decode μX9_token.2.1 247 = .ok (.putfield 110, 3) := by decide +kernel
theorem dX9_token_250 : decode μX9_token.2.1 250 = .ok (.return_, 1) := by decide +kernel
set_option maxRecDepth 20000 in
theorem sg_X9_token_0 {d : Nat}  {M : Mem} {K : (Mem → Prop)}  (h : (CI d μX9_here [.ref 58, .int 0] M (fun r2 M1 => (if r2 = 32 then (∀ M3, M3 = wi M1 58 4 ((ri M1 58 4) + 1) → RV (d + 1) μX9_token 0 [(0, .ref 58)] [] M3 K) else (CI d μX9_here [.ref 58, .int 0] M1 (fun r5 M4 => (if r5 = 10 then (∀ M6, M6 = wi M4 58 4 ((ri M4 58 4) + 1) → RV (d + 1) μX9_token 0 [(0, .ref 58)] [] M6 K) else (∀ M7, M7 = wi M4 58 7 (ri M4 58 4) → (CI d μX9_here [.ref 58, .int 0] M7 (fun r9 M8 => (∀ M10, M10 = wl M8 58 9 0 → (∀ M11, M11 = wi M10 58 8 0 → (if 0 ≤ r9 then (CI d μX9_isLetter [.int r9] M11 (fun r13 M12 => (if r13 = 0 then (CI d μX9_isDigit [.int r9] M12 (fun r15 M14 => (if r15 = 0 then (CI d μX9_isSign [.int r9] M14 (fun r17 M16 => (if r17 = 0 then (∀ M18, M18 = wi M16 58 6 3 → (if ri M18 58 6 = 3 then K M18 else (∀ M19, M19 = wi M18 58 4 ((ri M18 58 4) + 1) → K M19))) else (∀ M20, M20 = wi M16 58 6 r9 → (if ri M20 58 6 = 3 then K M20 else (∀ M21, M21 = wi M20 58 4 ((ri M20 58 4) + 1) → K M21)))))) else RV (d + 1) μX9_token 144 [(0, .ref 58), (1, .int r9), (2, .int 0)] [] M14 K))) else RV (d + 1) μX9_token 78 [(0, .ref 58), (1, .int r9), (2, .int 0)] [] M12 K))) else (∀ M22, M22 = wi M11 58 6 0 → (if ri M22 58 6 = 3 then K M22 else (∀ M23, M23 = wi M22 58 4 ((ri M22 58 4) + 0) → K M23)))))))))))))))) : CV (d + 1) μX9_token [.ref 58] M K := by
  show Rn (d + 1) μX9_token 0 [(0, .ref 58)] [] M _
  refine rn_aload_n (i := 0) (x := 58) dX9_token_0 rfl (by simp) ?_
  refine rn_iconst (v := 0) dX9_token_1 rfl ?_
  refine rn_callVi (as := [.int 0]) (st := []) dX9_token_2 mf_X9_here lk_X9_116 im_X9_here rfl rfl rfl rfl (Nat.le_of_ble_eq_true rfl) (Nat.le_of_ble_eq_true rfl) rfl (RI.mono h (fun r2 M1 h => ?_))
  refine rn_bipush (v := 32) dX9_token_5 rfl ?_
  refine rn_icmp_eq (tgt := 20) dX9_token_7 (by decide) (ite_go h (fun hc h => ?_) (fun hc h => ?_))
  · refine rn_aload_n (i := 0) (x := 58) dX9_token_20 rfl (by simp) ?_
    refine rn_dup dX9_token_21 rfl ?_
    refine rn_geti dX9_token_22 rfl gf_X9_110 (by decide) ?_
    refine rn_iconst (v := 1) dX9_token_25 rfl ?_
    refine rn_iadd dX9_token_26 ?_
    have h := h _ rfl
    refine rn_puti dX9_token_27 rfl pf_X9_110 (by decide) rfl rfl ?_
    generalize wi M1 58 4 ((ri M1 58 4) + 1) = M3 at h ⊢
    refine rn_goto (tgt := 0) dX9_token_30 (by decide) ?_
    exact h
  · refine rn_aload_n (i := 0) (x := 58) dX9_token_10 rfl (by simp) ?_
    refine rn_iconst (v := 0) dX9_token_11 rfl ?_
    refine rn_callVi (as := [.int 0]) (st := []) dX9_token_12 mf_X9_here lk_X9_116 im_X9_here rfl rfl rfl rfl (Nat.le_of_ble_eq_true rfl) (Nat.le_of_ble_eq_true rfl) rfl (RI.mono h (fun r5 M4 h => ?_))
    refine rn_bipush (v := 10) dX9_token_15 rfl ?_
    refine rn_icmp_ne (tgt := 33) dX9_token_17 (by decide) (ite_go h (fun hc h => ?_) (fun hc h => ?_))
    · refine rn_aload_n (i := 0) (x := 58) dX9_token_20 rfl (by simp) ?_
      refine rn_dup dX9_token_21 rfl ?_
      refine rn_geti dX9_token_22 rfl gf_X9_110 (by decide) ?_
      refine rn_iconst (v := 1) dX9_token_25 rfl ?_
      refine rn_iadd dX9_token_26 ?_
      have h := h _ rfl
      refine rn_puti dX9_token_27 rfl pf_X9_110 (by decide) rfl rfl ?_
      generalize wi M4 58 4 ((ri M4 58 4) + 1) = M6 at h ⊢
      refine rn_goto (tgt := 0) dX9_token_30 (by decide) ?_
      exact h
    · refine rn_aload_n (i := 0) (x := 58) dX9_token_33 rfl (by simp) ?_
      refine rn_aload_n (i := 0) (x := 58) dX9_token_34 rfl (by simp) ?_
      refine rn_geti dX9_token_35 rfl gf_X9_110 (by decide) ?_
      have h := h _ rfl
      refine rn_puti dX9_token_38 rfl pf_X9_120 (by decide) rfl rfl ?_
      generalize wi M4 58 7 (ri M4 58 4) = M7 at h ⊢
      refine rn_aload_n (i := 0) (x := 58) dX9_token_41 rfl (by simp) ?_
      refine rn_iconst (v := 0) dX9_token_42 rfl ?_
      refine rn_callVi (as := [.int 0]) (st := []) dX9_token_43 mf_X9_here lk_X9_116 im_X9_here rfl rfl rfl rfl (Nat.le_of_ble_eq_true rfl) (Nat.le_of_ble_eq_true rfl) rfl (RI.mono h (fun r9 M8 h => ?_))
      refine rn_istore_n (lv' := [(0, .ref 58), (1, .int r9)]) (hd := dX9_token_46) (i := 1) (hi := rfl) (hn := by decide) (hf := rfl) (hl := rfl) ?_
      refine rn_iconst (v := 0) dX9_token_47 rfl ?_
      refine rn_istore_n (lv' := [(0, .ref 58), (1, .int r9), (2, .int 0)]) (hd := dX9_token_48) (i := 2) (hi := rfl) (hn := by decide) (hf := rfl) (hl := rfl) ?_
      refine rn_aload_n (i := 0) (x := 58) dX9_token_49 rfl (by simp) ?_
      refine rn_lconst (v := 0) dX9_token_50 rfl ?_
      have h := h _ rfl
      refine rn_putl dX9_token_51 rfl pf_X9_123 rfl ?_
      generalize wl M8 58 9 0 = M10 at h ⊢
      refine rn_aload_n (i := 0) (x := 58) dX9_token_54 rfl (by simp) ?_
      refine rn_iconst (v := 0) dX9_token_55 rfl ?_
      have h := h _ rfl
      refine rn_puti dX9_token_56 rfl pf_X9_127 (by decide) rfl rfl ?_
      generalize wi M10 58 8 0 = M11 at h ⊢
      refine rn_iload_n (i := 1) (x := r9) dX9_token_59 rfl (by simp) ?_
      refine rn_if_ge (tgt := 71) dX9_token_60 (by decide) (ite_go h (fun hc h => ?_) (fun hc h => ?_))
      · refine rn_iload_n (i := 1) (x := r9) dX9_token_71 rfl (by simp) ?_
        refine rn_callSi (as := [.int r9]) (st := []) dX9_token_72 mf_X9_isLetter lk_X9_133 sm_X9_isLetter rfl (Nat.le_of_ble_eq_true rfl) (Nat.le_of_ble_eq_true rfl) rfl (RI.mono h (fun r13 M12 h => ?_))
        refine rn_if_eq (tgt := 137) dX9_token_75 (by decide) (ite_go h (fun hc h => ?_) (fun hc h => ?_))
        · refine rn_iload_n (i := 1) (x := r9) dX9_token_137 rfl (by simp) ?_
          refine rn_callSi (as := [.int r9]) (st := []) dX9_token_138 mf_X9_isDigit lk_X9_137 sm_X9_isDigit rfl (Nat.le_of_ble_eq_true rfl) (Nat.le_of_ble_eq_true rfl) rfl (RI.mono h (fun r15 M14 h => ?_))
          refine rn_if_eq (tgt := 214) dX9_token_141 (by decide) (ite_go h (fun hc h => ?_) (fun hc h => ?_))
          · refine rn_iconst (v := 1) dX9_token_214 rfl ?_
            refine rn_istore_n (lv' := [(0, .ref 58), (1, .int r9), (2, .int 1)]) (hd := dX9_token_215) (i := 2) (hi := rfl) (hn := by decide) (hf := rfl) (hl := rfl) ?_
            refine rn_aload_n (i := 0) (x := 58) dX9_token_216 rfl (by simp) ?_
            refine rn_iload_n (i := 1) (x := r9) dX9_token_217 rfl (by simp) ?_
            refine rn_callSi (as := [.int r9]) (st := [.ref 58]) dX9_token_218 mf_X9_isSign lk_X9_140 sm_X9_isSign rfl (Nat.le_of_ble_eq_true rfl) (Nat.le_of_ble_eq_true rfl) rfl (RI.mono h (fun r17 M16 h => ?_))
            refine rn_if_eq (tgt := 228) dX9_token_221 (by decide) (ite_go h (fun hc h => ?_) (fun hc h => ?_))
            · refine rn_iconst (v := 3) dX9_token_228 rfl ?_
              have h := h _ rfl
              refine rn_puti dX9_token_229 rfl pf_X9_130 (by decide) rfl rfl ?_
              generalize wi M16 58 6 3 = M18 at h ⊢
              refine rn_aload_n (i := 0) (x := 58) dX9_token_232 rfl (by simp) ?_
              refine rn_geti dX9_token_233 rfl gf_X9_130 (by decide) ?_
              refine rn_iconst (v := 3) dX9_token_236 rfl ?_
              refine rn_icmp_eq (tgt := 250) dX9_token_237 (by decide) (ite_go h (fun hc h => ?_) (fun hc h => ?_))
              · exact rn_ret dX9_token_250 rfl ⟨rfl, h⟩
              · refine rn_aload_n (i := 0) (x := 58) dX9_token_240 rfl (by simp) ?_
                refine rn_dup dX9_token_241 rfl ?_
                refine rn_geti dX9_token_242 rfl gf_X9_110 (by decide) ?_
                refine rn_iload_n (i := 2) (x := 1) dX9_token_245 rfl (by simp) ?_
                refine rn_iadd dX9_token_246 ?_
                have h := h _ rfl
                refine rn_puti dX9_token_247 rfl pf_X9_110 (by decide) rfl rfl ?_
                generalize wi M18 58 4 ((ri M18 58 4) + 1) = M19 at h ⊢
                exact rn_ret dX9_token_250 rfl ⟨rfl, h⟩
            · refine rn_iload_n (i := 1) (x := r9) dX9_token_224 rfl (by simp) ?_
              refine rn_goto (tgt := 229) dX9_token_225 (by decide) ?_
              have h := h _ rfl
              refine rn_puti dX9_token_229 rfl pf_X9_130 (by decide) rfl rfl ?_
              generalize wi M16 58 6 r9 = M20 at h ⊢
              refine rn_aload_n (i := 0) (x := 58) dX9_token_232 rfl (by simp) ?_
              refine rn_geti dX9_token_233 rfl gf_X9_130 (by decide) ?_
              refine rn_iconst (v := 3) dX9_token_236 rfl ?_
              refine rn_icmp_eq (tgt := 250) dX9_token_237 (by decide) (ite_go h (fun hc h => ?_) (fun hc h => ?_))
              · exact rn_ret dX9_token_250 rfl ⟨rfl, h⟩
              · refine rn_aload_n (i := 0) (x := 58) dX9_token_240 rfl (by simp) ?_
                refine rn_dup dX9_token_241 rfl ?_
                refine rn_geti dX9_token_242 rfl gf_X9_110 (by decide) ?_
                refine rn_iload_n (i := 2) (x := 1) dX9_token_245 rfl (by simp) ?_
                refine rn_iadd dX9_token_246 ?_
                have h := h _ rfl
                refine rn_puti dX9_token_247 rfl pf_X9_110 (by decide) rfl rfl ?_
                generalize wi M20 58 4 ((ri M20 58 4) + 1) = M21 at h ⊢
                exact rn_ret dX9_token_250 rfl ⟨rfl, h⟩
          · exact h
        · exact h
      · refine rn_aload_n (i := 0) (x := 58) dX9_token_63 rfl (by simp) ?_
        refine rn_iconst (v := 0) dX9_token_64 rfl ?_
        have h := h _ rfl
        refine rn_puti dX9_token_65 rfl pf_X9_130 (by decide) rfl rfl ?_
        generalize wi M11 58 6 0 = M22 at h ⊢
        refine rn_goto (tgt := 232) dX9_token_68 (by decide) ?_
        refine rn_aload_n (i := 0) (x := 58) dX9_token_232 rfl (by simp) ?_
        refine rn_geti dX9_token_233 rfl gf_X9_130 (by decide) ?_
        refine rn_iconst (v := 3) dX9_token_236 rfl ?_
        refine rn_icmp_eq (tgt := 250) dX9_token_237 (by decide) (ite_go h (fun hc h => ?_) (fun hc h => ?_))
        · exact rn_ret dX9_token_250 rfl ⟨rfl, h⟩
        · refine rn_aload_n (i := 0) (x := 58) dX9_token_240 rfl (by simp) ?_
          refine rn_dup dX9_token_241 rfl ?_
          refine rn_geti dX9_token_242 rfl gf_X9_110 (by decide) ?_
          refine rn_iload_n (i := 2) (x := 0) dX9_token_245 rfl (by simp) ?_
          refine rn_iadd dX9_token_246 ?_
          have h := h _ rfl
          refine rn_puti dX9_token_247 rfl pf_X9_110 (by decide) rfl rfl ?_
          generalize wi M22 58 4 ((ri M22 58 4) + 0) = M23 at h ⊢
          exact rn_ret dX9_token_250 rfl ⟨rfl, h⟩
set_option maxRecDepth 20000 in
theorem sg_X9_token_78 {d : Nat} {x1 : Int32} {x2 : Int32} {M : Mem} {K : (Mem → Prop)}  (h : (CI d μX9_here [.ref 58, .int x2] M (fun r2 M1 => (CI d μX9_isLetter [.int r2] M1 (fun r4 M3 => (if r4 = 0 then (if x2 ≤ 8 then (∀ M5, M5 = wi M3 58 6 1 → (if ri M5 58 6 = 3 then K M5 else (∀ M6, M6 = wi M5 58 4 ((ri M5 58 4) + x2) → K M6))) else (∀ M7, M7 = wi M3 58 6 3 → (if ri M7 58 6 = 3 then K M7 else (∀ M8, M8 = wi M7 58 4 ((ri M7 58 4) + x2) → K M8)))) else (if 8 ≤ x2 then RV (d + 1) μX9_token 78 [(0, .ref 58), (1, .int x1), (2, .int (x2 + 1))] [] M3 K else (CI d μX9_here [.ref 58, .int x2] M3 (fun r10 M9 => (∀ M11, M11 = wl M9 58 9 (((rl M3 58 9) <<< (Int32.toInt64 8 &&& 63)) ||| (Int32.toInt64 r10)) → RV (d + 1) μX9_token 78 [(0, .ref 58), (1, .int x1), (2, .int (x2 + 1))] [] M11 K)))))))))) : RV (d + 1) μX9_token 78 [(0, .ref 58), (1, .int x1), (2, .int x2)] [] M K := by
  show Rn (d + 1) μX9_token 78 [(0, .ref 58), (1, .int x1), (2, .int x2)] [] M _
  refine rn_aload_n (i := 0) (x := 58) dX9_token_78 rfl (by simp) ?_
  refine rn_iload_n (i := 2) (x := x2) dX9_token_79 rfl (by simp) ?_
  refine rn_callVi (as := [.int x2]) (st := []) dX9_token_80 mf_X9_here lk_X9_116 im_X9_here rfl rfl rfl rfl (Nat.le_of_ble_eq_true rfl) (Nat.le_of_ble_eq_true rfl) rfl (RI.mono h (fun r2 M1 h => ?_))
  refine rn_callSi (as := [.int r2]) (st := []) dX9_token_83 mf_X9_isLetter lk_X9_133 sm_X9_isLetter rfl (Nat.le_of_ble_eq_true rfl) (Nat.le_of_ble_eq_true rfl) rfl (RI.mono h (fun r4 M3 h => ?_))
  refine rn_if_eq (tgt := 119) dX9_token_86 (by decide) (ite_go h (fun hc h => ?_) (fun hc h => ?_))
  · refine rn_aload_n (i := 0) (x := 58) dX9_token_119 rfl (by simp) ?_
    refine rn_iload_n (i := 2) (x := x2) dX9_token_120 rfl (by simp) ?_
    refine rn_bipush (v := 8) dX9_token_121 rfl ?_
    refine rn_icmp_le (tgt := 130) dX9_token_123 (by decide) (ite_go h (fun hc h => ?_) (fun hc h => ?_))
    · refine rn_iconst (v := 1) dX9_token_130 rfl ?_
      have h := h _ rfl
      refine rn_puti dX9_token_131 rfl pf_X9_130 (by decide) rfl rfl ?_
      generalize wi M3 58 6 1 = M5 at h ⊢
      refine rn_goto (tgt := 232) dX9_token_134 (by decide) ?_
      refine rn_aload_n (i := 0) (x := 58) dX9_token_232 rfl (by simp) ?_
      refine rn_geti dX9_token_233 rfl gf_X9_130 (by decide) ?_
      refine rn_iconst (v := 3) dX9_token_236 rfl ?_
      refine rn_icmp_eq (tgt := 250) dX9_token_237 (by decide) (ite_go h (fun hc h => ?_) (fun hc h => ?_))
      · exact rn_ret dX9_token_250 rfl ⟨rfl, h⟩
      · refine rn_aload_n (i := 0) (x := 58) dX9_token_240 rfl (by simp) ?_
        refine rn_dup dX9_token_241 rfl ?_
        refine rn_geti dX9_token_242 rfl gf_X9_110 (by decide) ?_
        refine rn_iload_n (i := 2) (x := x2) dX9_token_245 rfl (by simp) ?_
        refine rn_iadd dX9_token_246 ?_
        have h := h _ rfl
        refine rn_puti dX9_token_247 rfl pf_X9_110 (by decide) rfl rfl ?_
        generalize wi M5 58 4 ((ri M5 58 4) + x2) = M6 at h ⊢
        exact rn_ret dX9_token_250 rfl ⟨rfl, h⟩
    · refine rn_iconst (v := 3) dX9_token_126 rfl ?_
      refine rn_goto (tgt := 131) dX9_token_127 (by decide) ?_
      have h := h _ rfl
      refine rn_puti dX9_token_131 rfl pf_X9_130 (by decide) rfl rfl ?_
      generalize wi M3 58 6 3 = M7 at h ⊢
      refine rn_goto (tgt := 232) dX9_token_134 (by decide) ?_
      refine rn_aload_n (i := 0) (x := 58) dX9_token_232 rfl (by simp) ?_
      refine rn_geti dX9_token_233 rfl gf_X9_130 (by decide) ?_
      refine rn_iconst (v := 3) dX9_token_236 rfl ?_
      refine rn_icmp_eq (tgt := 250) dX9_token_237 (by decide) (ite_go h (fun hc h => ?_) (fun hc h => ?_))
      · exact rn_ret dX9_token_250 rfl ⟨rfl, h⟩
      · refine rn_aload_n (i := 0) (x := 58) dX9_token_240 rfl (by simp) ?_
        refine rn_dup dX9_token_241 rfl ?_
        refine rn_geti dX9_token_242 rfl gf_X9_110 (by decide) ?_
        refine rn_iload_n (i := 2) (x := x2) dX9_token_245 rfl (by simp) ?_
        refine rn_iadd dX9_token_246 ?_
        have h := h _ rfl
        refine rn_puti dX9_token_247 rfl pf_X9_110 (by decide) rfl rfl ?_
        generalize wi M7 58 4 ((ri M7 58 4) + x2) = M8 at h ⊢
        exact rn_ret dX9_token_250 rfl ⟨rfl, h⟩
  · refine rn_iload_n (i := 2) (x := x2) dX9_token_89 rfl (by simp) ?_
    refine rn_bipush (v := 8) dX9_token_90 rfl ?_
    refine rn_icmp_ge (tgt := 113) dX9_token_92 (by decide) (ite_go h (fun hc h => ?_) (fun hc h => ?_))
    · refine rn_iinc (x := x2) (v := x2 + 1) (lv' := [(0, .ref 58), (1, .int x1), (2, .int (x2 + 1))]) dX9_token_113 (by simp) rfl (by decide) rfl rfl ?_
      refine rn_goto (tgt := 78) dX9_token_116 (by decide) ?_
      exact h
    · refine rn_aload_n (i := 0) (x := 58) dX9_token_95 rfl (by simp) ?_
      refine rn_aload_n (i := 0) (x := 58) dX9_token_96 rfl (by simp) ?_
      refine rn_getl dX9_token_97 rfl gf_X9_123 rfl ?_
      refine rn_bipush (v := 8) dX9_token_100 rfl ?_
      refine rn_lshl dX9_token_102 ?_
      refine rn_aload_n (i := 0) (x := 58) dX9_token_103 rfl (by simp) ?_
      refine rn_iload_n (i := 2) (x := x2) dX9_token_104 rfl (by simp) ?_
      refine rn_callVi (as := [.int x2]) (st := [.long ((rl M3 58 9) <<< (Int32.toInt64 8 &&& 63)), .ref 58]) dX9_token_105 mf_X9_here lk_X9_116 im_X9_here rfl rfl rfl rfl (Nat.le_of_ble_eq_true rfl) (Nat.le_of_ble_eq_true rfl) rfl (RI.mono h (fun r10 M9 h => ?_))
      refine rn_i2l dX9_token_108 ?_
      refine rn_lor dX9_token_109 ?_
      have h := h _ rfl
      refine rn_putl dX9_token_110 rfl pf_X9_123 rfl ?_
      generalize wl M9 58 9 (((rl M3 58 9) <<< (Int32.toInt64 8 &&& 63)) ||| (Int32.toInt64 r10)) = M11 at h ⊢
      refine rn_iinc (x := x2) (v := x2 + 1) (lv' := [(0, .ref 58), (1, .int x1), (2, .int (x2 + 1))]) dX9_token_113 (by simp) rfl (by decide) rfl rfl ?_
      refine rn_goto (tgt := 78) dX9_token_116 (by decide) ?_
      exact h
set_option maxRecDepth 20000 in
theorem sg_X9_token_144 {d : Nat} {x1 : Int32} {x2 : Int32} {M : Mem} {K : (Mem → Prop)}  (h : (CI d μX9_here [.ref 58, .int x2] M (fun r2 M1 => (CI d μX9_isDigit [.int r2] M1 (fun r4 M3 => (if r4 = 0 then (if 4 < x2 then RV (d + 1) μX9_token 203 [(0, .ref 58), (1, .int x1), (2, .int x2)] [.ref 58] M3 K else (CI d μX9_here [.ref 58, .int x2] M3 (fun r6 M5 => (CI d μX9_isLetter [.int r6] M5 (fun r8 M7 => (if r8 = 0 then (∀ M9, M9 = wi M7 58 6 2 → (if ri M9 58 6 = 3 then K M9 else (∀ M10, M10 = wi M9 58 4 ((ri M9 58 4) + x2) → K M10))) else RV (d + 1) μX9_token 203 [(0, .ref 58), (1, .int x1), (2, .int x2)] [.ref 58] M7 K)))))) else (if 4 ≤ x2 then RV (d + 1) μX9_token 144 [(0, .ref 58), (1, .int x1), (2, .int (x2 + 1))] [] M3 K else (CI d μX9_here [.ref 58, .int x2] M3 (fun r12 M11 => (∀ M13, M13 = wi M11 58 8 (((10 * (ri M3 58 8)) + r12) - 48) → RV (d + 1) μX9_token 144 [(0, .ref 58), (1, .int x1), (2, .int (x2 + 1))] [] M13 K)))))))))) : RV (d + 1) μX9_token 144 [(0, .ref 58), (1, .int x1), (2, .int x2)] [] M K := by
  show Rn (d + 1) μX9_token 144 [(0, .ref 58), (1, .int x1), (2, .int x2)] [] M _
  refine rn_aload_n (i := 0) (x := 58) dX9_token_144 rfl (by simp) ?_
  refine rn_iload_n (i := 2) (x := x2) dX9_token_145 rfl (by simp) ?_
  refine rn_callVi (as := [.int x2]) (st := []) dX9_token_146 mf_X9_here lk_X9_116 im_X9_here rfl rfl rfl rfl (Nat.le_of_ble_eq_true rfl) (Nat.le_of_ble_eq_true rfl) rfl (RI.mono h (fun r2 M1 h => ?_))
  refine rn_callSi (as := [.int r2]) (st := []) dX9_token_149 mf_X9_isDigit lk_X9_137 sm_X9_isDigit rfl (Nat.le_of_ble_eq_true rfl) (Nat.le_of_ble_eq_true rfl) rfl (RI.mono h (fun r4 M3 h => ?_))
  refine rn_if_eq (tgt := 186) dX9_token_152 (by decide) (ite_go h (fun hc h => ?_) (fun hc h => ?_))
  · refine rn_aload_n (i := 0) (x := 58) dX9_token_186 rfl (by simp) ?_
    refine rn_iload_n (i := 2) (x := x2) dX9_token_187 rfl (by simp) ?_
    refine rn_iconst (v := 4) dX9_token_188 rfl ?_
    refine rn_icmp_gt (tgt := 203) dX9_token_189 (by decide) (ite_go h (fun hc h => ?_) (fun hc h => ?_))
    · exact h
    · refine rn_aload_n (i := 0) (x := 58) dX9_token_192 rfl (by simp) ?_
      refine rn_iload_n (i := 2) (x := x2) dX9_token_193 rfl (by simp) ?_
      refine rn_callVi (as := [.int x2]) (st := [.ref 58]) dX9_token_194 mf_X9_here lk_X9_116 im_X9_here rfl rfl rfl rfl (Nat.le_of_ble_eq_true rfl) (Nat.le_of_ble_eq_true rfl) rfl (RI.mono h (fun r6 M5 h => ?_))
      refine rn_callSi (as := [.int r6]) (st := [.ref 58]) dX9_token_197 mf_X9_isLetter lk_X9_133 sm_X9_isLetter rfl (Nat.le_of_ble_eq_true rfl) (Nat.le_of_ble_eq_true rfl) rfl (RI.mono h (fun r8 M7 h => ?_))
      refine rn_if_eq (tgt := 207) dX9_token_200 (by decide) (ite_go h (fun hc h => ?_) (fun hc h => ?_))
      · refine rn_iconst (v := 2) dX9_token_207 rfl ?_
        have h := h _ rfl
        refine rn_puti dX9_token_208 rfl pf_X9_130 (by decide) rfl rfl ?_
        generalize wi M7 58 6 2 = M9 at h ⊢
        refine rn_goto (tgt := 232) dX9_token_211 (by decide) ?_
        refine rn_aload_n (i := 0) (x := 58) dX9_token_232 rfl (by simp) ?_
        refine rn_geti dX9_token_233 rfl gf_X9_130 (by decide) ?_
        refine rn_iconst (v := 3) dX9_token_236 rfl ?_
        refine rn_icmp_eq (tgt := 250) dX9_token_237 (by decide) (ite_go h (fun hc h => ?_) (fun hc h => ?_))
        · exact rn_ret dX9_token_250 rfl ⟨rfl, h⟩
        · refine rn_aload_n (i := 0) (x := 58) dX9_token_240 rfl (by simp) ?_
          refine rn_dup dX9_token_241 rfl ?_
          refine rn_geti dX9_token_242 rfl gf_X9_110 (by decide) ?_
          refine rn_iload_n (i := 2) (x := x2) dX9_token_245 rfl (by simp) ?_
          refine rn_iadd dX9_token_246 ?_
          have h := h _ rfl
          refine rn_puti dX9_token_247 rfl pf_X9_110 (by decide) rfl rfl ?_
          generalize wi M9 58 4 ((ri M9 58 4) + x2) = M10 at h ⊢
          exact rn_ret dX9_token_250 rfl ⟨rfl, h⟩
      · exact h
  · refine rn_iload_n (i := 2) (x := x2) dX9_token_155 rfl (by simp) ?_
    refine rn_iconst (v := 4) dX9_token_156 rfl ?_
    refine rn_icmp_ge (tgt := 180) dX9_token_157 (by decide) (ite_go h (fun hc h => ?_) (fun hc h => ?_))
    · refine rn_iinc (x := x2) (v := x2 + 1) (lv' := [(0, .ref 58), (1, .int x1), (2, .int (x2 + 1))]) dX9_token_180 (by simp) rfl (by decide) rfl rfl ?_
      refine rn_goto (tgt := 144) dX9_token_183 (by decide) ?_
      exact h
    · refine rn_aload_n (i := 0) (x := 58) dX9_token_160 rfl (by simp) ?_
      refine rn_bipush (v := 10) dX9_token_161 rfl ?_
      refine rn_aload_n (i := 0) (x := 58) dX9_token_163 rfl (by simp) ?_
      refine rn_geti dX9_token_164 rfl gf_X9_127 (by decide) ?_
      refine rn_imul dX9_token_167 ?_
      refine rn_aload_n (i := 0) (x := 58) dX9_token_168 rfl (by simp) ?_
      refine rn_iload_n (i := 2) (x := x2) dX9_token_169 rfl (by simp) ?_
      refine rn_callVi (as := [.int x2]) (st := [.int (10 * (ri M3 58 8)), .ref 58]) dX9_token_170 mf_X9_here lk_X9_116 im_X9_here rfl rfl rfl rfl (Nat.le_of_ble_eq_true rfl) (Nat.le_of_ble_eq_true rfl) rfl (RI.mono h (fun r12 M11 h => ?_))
      refine rn_iadd dX9_token_173 ?_
      refine rn_bipush (v := 48) dX9_token_174 rfl ?_
      refine rn_isub dX9_token_176 ?_
      have h := h _ rfl
      refine rn_puti dX9_token_177 rfl pf_X9_127 (by decide) rfl rfl ?_
      generalize wi M11 58 8 (((10 * (ri M3 58 8)) + r12) - 48) = M13 at h ⊢
      refine rn_iinc (x := x2) (v := x2 + 1) (lv' := [(0, .ref 58), (1, .int x1), (2, .int (x2 + 1))]) dX9_token_180 (by simp) rfl (by decide) rfl rfl ?_
      refine rn_goto (tgt := 144) dX9_token_183 (by decide) ?_
      exact h
set_option maxRecDepth 20000 in
theorem sg_X9_token_203 {d : Nat} {x1 : Int32} {x2 : Int32} {M : Mem} {K : (Mem → Prop)}  (h : (∀ M1, M1 = wi M 58 6 3 → (if ri M1 58 6 = 3 then K M1 else (∀ M2, M2 = wi M1 58 4 ((ri M1 58 4) + x2) → K M2)))) : RV (d + 1) μX9_token 203 [(0, .ref 58), (1, .int x1), (2, .int x2)] [.ref 58] M K := by
  show Rn (d + 1) μX9_token 203 [(0, .ref 58), (1, .int x1), (2, .int x2)] [.ref 58] M _
  refine rn_iconst (v := 3) dX9_token_203 rfl ?_
  refine rn_goto (tgt := 208) dX9_token_204 (by decide) ?_
  have h := h _ rfl
  refine rn_puti dX9_token_208 rfl pf_X9_130 (by decide) rfl rfl ?_
  generalize wi M 58 6 3 = M1 at h ⊢
  refine rn_goto (tgt := 232) dX9_token_211 (by decide) ?_
  refine rn_aload_n (i := 0) (x := 58) dX9_token_232 rfl (by simp) ?_
  refine rn_geti dX9_token_233 rfl gf_X9_130 (by decide) ?_
  refine rn_iconst (v := 3) dX9_token_236 rfl ?_
  refine rn_icmp_eq (tgt := 250) dX9_token_237 (by decide) (ite_go h (fun hc h => ?_) (fun hc h => ?_))
  · exact rn_ret dX9_token_250 rfl ⟨rfl, h⟩
  · refine rn_aload_n (i := 0) (x := 58) dX9_token_240 rfl (by simp) ?_
    refine rn_dup dX9_token_241 rfl ?_
    refine rn_geti dX9_token_242 rfl gf_X9_110 (by decide) ?_
    refine rn_iload_n (i := 2) (x := x2) dX9_token_245 rfl (by simp) ?_
    refine rn_iadd dX9_token_246 ?_
    have h := h _ rfl
    refine rn_puti dX9_token_247 rfl pf_X9_110 (by decide) rfl rfl ?_
    generalize wi M1 58 4 ((ri M1 58 4) + x2) = M2 at h ⊢
    exact rn_ret dX9_token_250 rfl ⟨rfl, h⟩
theorem dX9_wrong_0 : decode μX9_wrong.2.1 0 = .ok (.aload_n 0, 1) := by decide +kernel
theorem dX9_wrong_1 : decode μX9_wrong.2.1 1 = .ok (.getfield 143, 3) := by decide +kernel
theorem dX9_wrong_4 : decode μX9_wrong.2.1 4 = .ok (.ifCond .le 4, 3) := by decide +kernel
theorem dX9_wrong_7 : decode μX9_wrong.2.1 7 = .ok (.return_, 1) := by decide +kernel
theorem dX9_wrong_8 : decode μX9_wrong.2.1 8 = .ok (.aload_n 0, 1) := by decide +kernel
theorem dX9_wrong_9 : decode μX9_wrong.2.1 9 = .ok (.aload_n 0, 1) := by decide +kernel
theorem dX9_wrong_10 : decode μX9_wrong.2.1 10 = .ok (.getfield 130, 3) := by decide +kernel
theorem dX9_wrong_13 : decode μX9_wrong.2.1 13 = .ok (.iconst 3, 1) := by decide +kernel
theorem dX9_wrong_14 : decode μX9_wrong.2.1 14 = .ok (.if_icmp .ne 7, 3) := by decide +kernel
theorem dX9_wrong_17 : decode μX9_wrong.2.1 17 = .ok (.iconst 1, 1) := by decide +kernel
theorem dX9_wrong_18 : decode μX9_wrong.2.1 18 = .ok (.goto 4, 3) := by decide +kernel
theorem dX9_wrong_21 : decode μX9_wrong.2.1 21 = .ok (.iload_n 1, 1) := by decide +kernel
theorem dX9_wrong_22 : decode μX9_wrong.2.1 22 = .ok (.putfield 143, 3) := by decide +kernel
theorem dX9_wrong_25 : decode μX9_wrong.2.1 25 = .ok (.aload_n 0, 1) := by decide +kernel
theorem dX9_wrong_26 : decode μX9_wrong.2.1 26 = .ok (.aload_n 0, 1) := by decide +kernel
theorem dX9_wrong_27 : decode μX9_wrong.2.1 27 = .ok (.getfield 120, 3) := by decide +kernel
theorem dX9_wrong_30 : decode μX9_wrong.2.1 30 = .ok (.putfield 13, 3) := by decide +kernel
theorem dX9_wrong_33 : decode μX9_wrong.2.1 33 = .ok (.return_, 1) := by decide +kernel
set_option maxRecDepth 20000 in
theorem sg_X9_wrong_0 {d : Nat} {x1 : Int32} {M : Mem} {K : (Mem → Prop)}  (h : (if ri M 58 2 ≤ 0 then (if ri M 58 6 = 3 then (∀ M1, M1 = wi M 58 2 1 → (∀ M2, M2 = wi M1 58 3 (ri M1 58 7) → K M2)) else (∀ M3, M3 = wi M 58 2 x1 → (∀ M4, M4 = wi M3 58 3 (ri M3 58 7) → K M4))) else K M)) : CV d μX9_wrong [.ref 58, .int x1] M K := by
  show Rn d μX9_wrong 0 [(0, .ref 58), (1, .int x1)] [] M _
  refine rn_aload_n (i := 0) (x := 58) dX9_wrong_0 rfl (by simp) ?_
  refine rn_geti dX9_wrong_1 rfl gf_X9_143 (by decide) ?_
  refine rn_if_le (tgt := 8) dX9_wrong_4 (by decide) (ite_go h (fun hc h => ?_) (fun hc h => ?_))
  · refine rn_aload_n (i := 0) (x := 58) dX9_wrong_8 rfl (by simp) ?_
    refine rn_aload_n (i := 0) (x := 58) dX9_wrong_9 rfl (by simp) ?_
    refine rn_geti dX9_wrong_10 rfl gf_X9_130 (by decide) ?_
    refine rn_iconst (v := 3) dX9_wrong_13 rfl ?_
    refine rn_icmp_ne (tgt := 21) dX9_wrong_14 (by decide) (ite_go h (fun hc h => ?_) (fun hc h => ?_))
    · refine rn_iconst (v := 1) dX9_wrong_17 rfl ?_
      refine rn_goto (tgt := 22) dX9_wrong_18 (by decide) ?_
      have h := h _ rfl
      refine rn_puti dX9_wrong_22 rfl pf_X9_143 (by decide) rfl rfl ?_
      generalize wi M 58 2 1 = M1 at h ⊢
      refine rn_aload_n (i := 0) (x := 58) dX9_wrong_25 rfl (by simp) ?_
      refine rn_aload_n (i := 0) (x := 58) dX9_wrong_26 rfl (by simp) ?_
      refine rn_geti dX9_wrong_27 rfl gf_X9_120 (by decide) ?_
      have h := h _ rfl
      refine rn_puti dX9_wrong_30 rfl pf_X9_13 (by decide) rfl rfl ?_
      generalize wi M1 58 3 (ri M1 58 7) = M2 at h ⊢
      exact rn_ret dX9_wrong_33 rfl ⟨rfl, h⟩
    · refine rn_iload_n (i := 1) (x := x1) dX9_wrong_21 rfl (by simp) ?_
      have h := h _ rfl
      refine rn_puti dX9_wrong_22 rfl pf_X9_143 (by decide) rfl rfl ?_
      generalize wi M 58 2 x1 = M3 at h ⊢
      refine rn_aload_n (i := 0) (x := 58) dX9_wrong_25 rfl (by simp) ?_
      refine rn_aload_n (i := 0) (x := 58) dX9_wrong_26 rfl (by simp) ?_
      refine rn_geti dX9_wrong_27 rfl gf_X9_120 (by decide) ?_
      have h := h _ rfl
      refine rn_puti dX9_wrong_30 rfl pf_X9_13 (by decide) rfl rfl ?_
      generalize wi M3 58 3 (ri M3 58 7) = M4 at h ⊢
      exact rn_ret dX9_wrong_33 rfl ⟨rfl, h⟩
  · exact rn_ret dX9_wrong_7 rfl ⟨rfl, h⟩
theorem dX9_isWord_0 : decode μX9_isWord.2.1 0 = .ok (.aload_n 0, 1) := by decide +kernel
theorem dX9_isWord_1 : decode μX9_isWord.2.1 1 = .ok (.getfield 130, 3) := by decide +kernel
theorem dX9_isWord_4 : decode μX9_isWord.2.1 4 = .ok (.iconst 1, 1) := by decide +kernel
theorem dX9_isWord_5 : decode μX9_isWord.2.1 5 = .ok (.if_icmp .ne 16, 3) := by decide +kernel
theorem dX9_isWord_8 : decode μX9_isWord.2.1 8 = .ok (.aload_n 0, 1) := by decide +kernel
theorem dX9_isWord_9 : decode μX9_isWord.2.1 9 = .ok (.getfield 123, 3) := by decide +kernel
theorem dX9_isWord_12 : decode μX9_isWord.2.1 12 = .ok (.lload_n 1, 1) := by decide +kernel
theorem dX9_isWord_13 : decode μX9_isWord.2.1 13 = .ok (.lcmp, 1) := by decide +kernel
theorem dX9_isWord_14 : decode μX9_isWord.2.1 14 = .ok (.ifCond .ne 7, 3) := by decide +kernel
theorem dX9_isWord_17 : decode μX9_isWord.2.1 17 = .ok (.iconst 1, 1) := by decide +kernel
theorem dX9_isWord_18 : decode μX9_isWord.2.1 18 = .ok (.goto 4, 3) := by decide +kernel
theorem dX9_isWord_21 : decode μX9_isWord.2.1 21 = .ok (.iconst 0, 1) := by decide +kernel
theorem dX9_isWord_22 : decode μX9_isWord.2.1 22 = .ok (.ireturn, 1) := by decide +kernel
set_option maxRecDepth 20000 in
theorem sg_X9_isWord_0 {d : Nat} {x1 : Int64} {M : Mem} {K : (Int32 → Mem → Prop)}  (h : (if ri M 58 6 = 1 then (if lg_cmp (rl M 58 9) x1 = 0 then K 1 M else K 0 M) else K 0 M)) : CI d μX9_isWord [.ref 58, .long x1] M K := by
  show Rn d μX9_isWord 0 [(0, .ref 58), (1, .long x1)] [] M _
  refine rn_aload_n (i := 0) (x := 58) dX9_isWord_0 rfl (by simp) ?_
  refine rn_geti dX9_isWord_1 rfl gf_X9_130 (by decide) ?_
  refine rn_iconst (v := 1) dX9_isWord_4 rfl ?_
  refine rn_icmp_ne (tgt := 21) dX9_isWord_5 (by decide) (ite_go h (fun hc h => ?_) (fun hc h => ?_))
  · refine rn_aload_n (i := 0) (x := 58) dX9_isWord_8 rfl (by simp) ?_
    refine rn_getl dX9_isWord_9 rfl gf_X9_123 rfl ?_
    refine rn_lload_n (i := 1) (x := x1) dX9_isWord_12 rfl (by simp) ?_
    refine rn_lcmp dX9_isWord_13 ?_
    refine rn_if_ne (tgt := 21) dX9_isWord_14 (by decide) (ite_go h (fun hc h => ?_) (fun hc h => ?_))
    · refine rn_iconst (v := 1) dX9_isWord_17 rfl ?_
      refine rn_goto (tgt := 22) dX9_isWord_18 (by decide) ?_
      exact rn_zret dX9_isWord_22 rfl (by decide) ⟨_, rfl, h⟩
    · refine rn_iconst (v := 0) dX9_isWord_21 rfl ?_
      exact rn_zret dX9_isWord_22 rfl (by decide) ⟨_, rfl, h⟩
  · refine rn_iconst (v := 0) dX9_isWord_21 rfl ?_
    exact rn_zret dX9_isWord_22 rfl (by decide) ⟨_, rfl, h⟩
theorem dX9_isOwn_0 : decode μX9_isOwn.2.1 0 = .ok (.aload_n 0, 1) := by decide +kernel
theorem dX9_isOwn_1 : decode μX9_isOwn.2.1 1 = .ok (.getfield 123, 3) := by decide +kernel
theorem dX9_isOwn_4 : decode μX9_isOwn.2.1 4 = .ok (.ldc2_w 146, 3) := by decide +kernel
theorem dX9_isOwn_7 : decode μX9_isOwn.2.1 7 = .ok (.lcmp, 1) := by decide +kernel
theorem dX9_isOwn_8 : decode μX9_isOwn.2.1 8 = .ok (.ifCond .eq 146, 3) := by decide +kernel
theorem dX9_isOwn_11 : decode μX9_isOwn.2.1 11 = .ok (.aload_n 0, 1) := by decide +kernel
theorem dX9_isOwn_12 : decode μX9_isOwn.2.1 12 = .ok (.getfield 123, 3) := by decide +kernel
theorem dX9_isOwn_15 : decode μX9_isOwn.2.1 15 = .ok (.ldc2_w 148, 3) := by decide +kernel
theorem dX9_isOwn_18 : decode μX9_isOwn.2.1 18 = .ok (.lcmp, 1) := by decide +kernel
theorem dX9_isOwn_19 : decode μX9_isOwn.2.1 19 = .ok (.ifCond .eq 135, 3) := by decide +kernel
theorem dX9_isOwn_22 : decode μX9_isOwn.2.1 22 = .ok (.aload_n 0, 1) := by decide +kernel
theorem dX9_isOwn_23 : decode μX9_isOwn.2.1 23 = .ok (.getfield 123, 3) := by decide +kernel
theorem dX9_isOwn_26 : decode μX9_isOwn.2.1 26 = .ok (.ldc2_w 150, 3) := by decide +kernel
theorem dX9_isOwn_29 : decode μX9_isOwn.2.1 29 = .ok (.lcmp, 1) := by decide +kernel
theorem dX9_isOwn_30 : decode μX9_isOwn.2.1 30 = .ok (.ifCond .eq 124, 3) := by decide +kernel
theorem dX9_isOwn_33 : decode μX9_isOwn.2.1 33 = .ok (.aload_n 0, 1) := by decide +kernel
theorem dX9_isOwn_34 : decode μX9_isOwn.2.1 34 = .ok (.getfield 123, 3) := by decide +kernel
theorem dX9_isOwn_37 : decode μX9_isOwn.2.1 37 = .ok (.ldc2_w 152, 3) := by decide +kernel
theorem dX9_isOwn_40 : decode μX9_isOwn.2.1 40 = .ok (.lcmp, 1) := by decide +kernel
theorem dX9_isOwn_41 : decode μX9_isOwn.2.1 41 = .ok (.ifCond .eq 113, 3) := by decide +kernel
theorem dX9_isOwn_44 : decode μX9_isOwn.2.1 44 = .ok (.aload_n 0, 1) := by decide +kernel
theorem dX9_isOwn_45 : decode μX9_isOwn.2.1 45 = .ok (.getfield 123, 3) := by decide +kernel
theorem dX9_isOwn_48 : decode μX9_isOwn.2.1 48 = .ok (.ldc2_w 154, 3) := by decide +kernel
theorem dX9_isOwn_51 : decode μX9_isOwn.2.1 51 = .ok (.lcmp, 1) := by decide +kernel
theorem dX9_isOwn_52 : decode μX9_isOwn.2.1 52 = .ok (.ifCond .eq 102, 3) := by decide +kernel
theorem dX9_isOwn_55 : decode μX9_isOwn.2.1 55 = .ok (.aload_n 0, 1) := by decide +kernel
theorem dX9_isOwn_56 : decode μX9_isOwn.2.1 56 = .ok (.getfield 123, 3) := by decide +kernel
theorem dX9_isOwn_59 : decode μX9_isOwn.2.1 59 = .ok (.ldc2_w 156, 3) := by decide +kernel
theorem dX9_isOwn_62 : decode μX9_isOwn.2.1 62 = .ok (.lcmp, 1) := by decide +kernel
theorem dX9_isOwn_63 : decode μX9_isOwn.2.1 63 = .ok (.ifCond .eq 91, 3) := by decide +kernel
theorem dX9_isOwn_66 : decode μX9_isOwn.2.1 66 = .ok (.aload_n 0, 1) := by decide +kernel
theorem dX9_isOwn_67 : decode μX9_isOwn.2.1 67 = .ok (.getfield 123, 3) := by decide +kernel
theorem dX9_isOwn_70 : decode μX9_isOwn.2.1 70 = .ok (.ldc2_w 158, 3) := by decide +kernel
theorem dX9_isOwn_73 : decode μX9_isOwn.2.1 73 = .ok (.lcmp, 1) := by decide +kernel
theorem dX9_isOwn_74 : decode μX9_isOwn.2.1 74 = .ok (.ifCond .eq 80, 3) := by decide +kernel
theorem dX9_isOwn_77 : decode μX9_isOwn.2.1 77 = .ok (.aload_n 0, 1) := by decide +kernel
theorem dX9_isOwn_78 : decode μX9_isOwn.2.1 78 = .ok (.getfield 123, 3) := by decide +kernel
theorem dX9_isOwn_81 : decode μX9_isOwn.2.1 81 = .ok (.ldc2_w 160, 3) := by decide +kernel
theorem dX9_isOwn_84 : decode μX9_isOwn.2.1 84 = .ok (.lcmp, 1) := by decide +kernel
theorem dX9_isOwn_85 : decode μX9_isOwn.2.1 85 = .ok (.ifCond .eq 69, 3) := by decide +kernel
theorem dX9_isOwn_88 : decode μX9_isOwn.2.1 88 = .ok (.aload_n 0, 1) := by decide +kernel
theorem dX9_isOwn_89 : decode μX9_isOwn.2.1 89 = .ok (.getfield 123, 3) := by decide +kernel
theorem dX9_isOwn_92 : decode μX9_isOwn.2.1 92 = .ok (.ldc2_w 162, 3) := by decide +kernel
theorem dX9_isOwn_95 : decode μX9_isOwn.2.1 95 = .ok (.lcmp, 1) := by decide +kernel
theorem dX9_isOwn_96 : decode μX9_isOwn.2.1 96 = .ok (.ifCond .eq 58, 3) := by decide +kernel
theorem dX9_isOwn_99 : decode μX9_isOwn.2.1 99 = .ok (.aload_n 0, 1) := by decide +kernel
theorem dX9_isOwn_100 : decode μX9_isOwn.2.1 100 = .ok (.getfield 123, 3) := by decide +kernel
theorem dX9_isOwn_103 : decode μX9_isOwn.2.1 103 = .ok (.ldc2_w 164, 3) := by decide +kernel
theorem dX9_isOwn_106 : decode μX9_isOwn.2.1 106 = .ok (.lcmp, 1) := by decide +kernel
theorem dX9_isOwn_107 : decode μX9_isOwn.2.1 107 = .ok (.ifCond .eq 47, 3) := by decide +kernel
theorem dX9_isOwn_110 : decode μX9_isOwn.2.1 110 = .ok (.aload_n 0, 1) := by decide +kernel
theorem dX9_isOwn_111 : decode μX9_isOwn.2.1 111 = .ok (.getfield 123, 3) := by decide +kernel
theorem dX9_isOwn_114 : decode μX9_isOwn.2.1 114 = .ok (.ldc2_w 166, 3) := by decide +kernel
theorem dX9_isOwn_117 : decode μX9_isOwn.2.1 117 = .ok (.lcmp, 1) := by decide +kernel
theorem dX9_isOwn_118 : decode μX9_isOwn.2.1 118 = .ok (.ifCond .eq 36, 3) := by decide +kernel
theorem dX9_isOwn_121 : decode μX9_isOwn.2.1 121 = .ok (.aload_n 0, 1) := by decide +kernel
theorem dX9_isOwn_122 : decode μX9_isOwn.2.1 122 = .ok (.getfield 123, 3) := by decide +kernel
theorem dX9_isOwn_125 : decode μX9_isOwn.2.1 125 = .ok (.ldc2_w 168, 3) := by decide +kernel
theorem dX9_isOwn_128 : decode μX9_isOwn.2.1 128 = .ok (.lcmp, 1) := by decide +kernel
theorem dX9_isOwn_129 : decode μX9_isOwn.2.1 129 = .ok (.ifCond .eq 25, 3) := by decide +kernel
theorem dX9_isOwn_132 : decode μX9_isOwn.2.1 132 = .ok (.aload_n 0, 1) := by decide +kernel
theorem dX9_isOwn_133 : decode μX9_isOwn.2.1 133 = .ok (.getfield 123, 3) := by decide +kernel
theorem dX9_isOwn_136 : decode μX9_isOwn.2.1 136 = .ok (.ldc2_w 170, 3) := by decide +kernel
theorem dX9_isOwn_139 : decode μX9_isOwn.2.1 139 = .ok (.lcmp, 1) := by decide +kernel
theorem dX9_isOwn_140 : decode μX9_isOwn.2.1 140 = .ok (.ifCond .eq 14, 3) := by decide +kernel
theorem dX9_isOwn_143 : decode μX9_isOwn.2.1 143 = .ok (.aload_n 0, 1) := by decide +kernel
theorem dX9_isOwn_144 : decode μX9_isOwn.2.1 144 = .ok (.getfield 123, 3) := by decide +kernel
theorem dX9_isOwn_147 : decode μX9_isOwn.2.1 147 = .ok (.ldc2_w 172, 3) := by decide +kernel
theorem dX9_isOwn_150 : decode μX9_isOwn.2.1 150 = .ok (.lcmp, 1) := by decide +kernel
theorem dX9_isOwn_151 : decode μX9_isOwn.2.1 151 = .ok (.ifCond .ne 7, 3) := by decide +kernel
theorem dX9_isOwn_154 : decode μX9_isOwn.2.1 154 = .ok (.iconst 1, 1) := by decide +kernel
theorem dX9_isOwn_155 : decode μX9_isOwn.2.1 155 = .ok (.goto 4, 3) := by decide +kernel
theorem dX9_isOwn_158 : decode μX9_isOwn.2.1 158 = .ok (.iconst 0, 1) := by decide +kernel
theorem dX9_isOwn_159 : decode μX9_isOwn.2.1 159 = .ok (.ireturn, 1) := by decide +kernel
set_option maxRecDepth 20000 in
theorem sg_X9_isOwn_0 {d : Nat}  {M : Mem} {K : (Int32 → Mem → Prop)}  (h : (if lg_cmp (rl M 58 9) 1819243108 = 0 then K 1 M else (if lg_cmp (rl M 58 9) 1936292453 = 0 then K 1 M else (if lg_cmp (rl M 58 9) 24948 = 0 then K 1 M else (if lg_cmp (rl M 58 9) 1718380912 = 0 then K 1 M else (if lg_cmp (rl M 58 9) 444301539187 = 0 then K 1 M else (if lg_cmp (rl M 58 9) 495874892151 = 0 then K 1 M else (if lg_cmp (rl M 58 9) 1685217655 = 0 then K 1 M else (if lg_cmp (rl M 58 9) 495689426291 = 0 then K 1 M else (if lg_cmp (rl M 58 9) 1852137842 = 0 then K 1 M else (if lg_cmp (rl M 58 9) 465726235763 = 0 then K 1 M else (if lg_cmp (rl M 58 9) 126879263846254 = 0 then K 1 M else (if lg_cmp (rl M 58 9) 6385252 = 0 then K 1 M else (if lg_cmp (rl M 58 9) 28530 = 0 then K 1 M else (if lg_cmp (rl M 58 9) 7237492 = 0 then K 1 M else K 0 M))))))))))))))) : CI d μX9_isOwn [.ref 58] M K := by
  show Rn d μX9_isOwn 0 [(0, .ref 58)] [] M _
  refine rn_aload_n (i := 0) (x := 58) dX9_isOwn_0 rfl (by simp) ?_
  refine rn_getl dX9_isOwn_1 rfl gf_X9_123 rfl ?_
  refine rn_ldc2 (v := 1819243108) dX9_isOwn_4 lk_X9_146 ?_
  refine rn_lcmp dX9_isOwn_7 ?_
  refine rn_if_eq (tgt := 154) dX9_isOwn_8 (by decide) (ite_go h (fun hc h => ?_) (fun hc h => ?_))
  · refine rn_iconst (v := 1) dX9_isOwn_154 rfl ?_
    refine rn_goto (tgt := 159) dX9_isOwn_155 (by decide) ?_
    exact rn_zret dX9_isOwn_159 rfl (by decide) ⟨_, rfl, h⟩
  · refine rn_aload_n (i := 0) (x := 58) dX9_isOwn_11 rfl (by simp) ?_
    refine rn_getl dX9_isOwn_12 rfl gf_X9_123 rfl ?_
    refine rn_ldc2 (v := 1936292453) dX9_isOwn_15 lk_X9_148 ?_
    refine rn_lcmp dX9_isOwn_18 ?_
    refine rn_if_eq (tgt := 154) dX9_isOwn_19 (by decide) (ite_go h (fun hc h => ?_) (fun hc h => ?_))
    · refine rn_iconst (v := 1) dX9_isOwn_154 rfl ?_
      refine rn_goto (tgt := 159) dX9_isOwn_155 (by decide) ?_
      exact rn_zret dX9_isOwn_159 rfl (by decide) ⟨_, rfl, h⟩
    · refine rn_aload_n (i := 0) (x := 58) dX9_isOwn_22 rfl (by simp) ?_
      refine rn_getl dX9_isOwn_23 rfl gf_X9_123 rfl ?_
      refine rn_ldc2 (v := 24948) dX9_isOwn_26 lk_X9_150 ?_
      refine rn_lcmp dX9_isOwn_29 ?_
      refine rn_if_eq (tgt := 154) dX9_isOwn_30 (by decide) (ite_go h (fun hc h => ?_) (fun hc h => ?_))
      · refine rn_iconst (v := 1) dX9_isOwn_154 rfl ?_
        refine rn_goto (tgt := 159) dX9_isOwn_155 (by decide) ?_
        exact rn_zret dX9_isOwn_159 rfl (by decide) ⟨_, rfl, h⟩
      · refine rn_aload_n (i := 0) (x := 58) dX9_isOwn_33 rfl (by simp) ?_
        refine rn_getl dX9_isOwn_34 rfl gf_X9_123 rfl ?_
        refine rn_ldc2 (v := 1718380912) dX9_isOwn_37 lk_X9_152 ?_
        refine rn_lcmp dX9_isOwn_40 ?_
        refine rn_if_eq (tgt := 154) dX9_isOwn_41 (by decide) (ite_go h (fun hc h => ?_) (fun hc h => ?_))
        · refine rn_iconst (v := 1) dX9_isOwn_154 rfl ?_
          refine rn_goto (tgt := 159) dX9_isOwn_155 (by decide) ?_
          exact rn_zret dX9_isOwn_159 rfl (by decide) ⟨_, rfl, h⟩
        · refine rn_aload_n (i := 0) (x := 58) dX9_isOwn_44 rfl (by simp) ?_
          refine rn_getl dX9_isOwn_45 rfl gf_X9_123 rfl ?_
          refine rn_ldc2 (v := 444301539187) dX9_isOwn_48 lk_X9_154 ?_
          refine rn_lcmp dX9_isOwn_51 ?_
          refine rn_if_eq (tgt := 154) dX9_isOwn_52 (by decide) (ite_go h (fun hc h => ?_) (fun hc h => ?_))
          · refine rn_iconst (v := 1) dX9_isOwn_154 rfl ?_
            refine rn_goto (tgt := 159) dX9_isOwn_155 (by decide) ?_
            exact rn_zret dX9_isOwn_159 rfl (by decide) ⟨_, rfl, h⟩
          · refine rn_aload_n (i := 0) (x := 58) dX9_isOwn_55 rfl (by simp) ?_
            refine rn_getl dX9_isOwn_56 rfl gf_X9_123 rfl ?_
            refine rn_ldc2 (v := 495874892151) dX9_isOwn_59 lk_X9_156 ?_
            refine rn_lcmp dX9_isOwn_62 ?_
            refine rn_if_eq (tgt := 154) dX9_isOwn_63 (by decide) (ite_go h (fun hc h => ?_) (fun hc h => ?_))
            · refine rn_iconst (v := 1) dX9_isOwn_154 rfl ?_
              refine rn_goto (tgt := 159) dX9_isOwn_155 (by decide) ?_
              exact rn_zret dX9_isOwn_159 rfl (by decide) ⟨_, rfl, h⟩
            · refine rn_aload_n (i := 0) (x := 58) dX9_isOwn_66 rfl (by simp) ?_
              refine rn_getl dX9_isOwn_67 rfl gf_X9_123 rfl ?_
              refine rn_ldc2 (v := 1685217655) dX9_isOwn_70 lk_X9_158 ?_
              refine rn_lcmp dX9_isOwn_73 ?_
              refine rn_if_eq (tgt := 154) dX9_isOwn_74 (by decide) (ite_go h (fun hc h => ?_) (fun hc h => ?_))
              · refine rn_iconst (v := 1) dX9_isOwn_154 rfl ?_
                refine rn_goto (tgt := 159) dX9_isOwn_155 (by decide) ?_
                exact rn_zret dX9_isOwn_159 rfl (by decide) ⟨_, rfl, h⟩
              · refine rn_aload_n (i := 0) (x := 58) dX9_isOwn_77 rfl (by simp) ?_
                refine rn_getl dX9_isOwn_78 rfl gf_X9_123 rfl ?_
                refine rn_ldc2 (v := 495689426291) dX9_isOwn_81 lk_X9_160 ?_
                refine rn_lcmp dX9_isOwn_84 ?_
                refine rn_if_eq (tgt := 154) dX9_isOwn_85 (by decide) (ite_go h (fun hc h => ?_) (fun hc h => ?_))
                · refine rn_iconst (v := 1) dX9_isOwn_154 rfl ?_
                  refine rn_goto (tgt := 159) dX9_isOwn_155 (by decide) ?_
                  exact rn_zret dX9_isOwn_159 rfl (by decide) ⟨_, rfl, h⟩
                · refine rn_aload_n (i := 0) (x := 58) dX9_isOwn_88 rfl (by simp) ?_
                  refine rn_getl dX9_isOwn_89 rfl gf_X9_123 rfl ?_
                  refine rn_ldc2 (v := 1852137842) dX9_isOwn_92 lk_X9_162 ?_
                  refine rn_lcmp dX9_isOwn_95 ?_
                  refine rn_if_eq (tgt := 154) dX9_isOwn_96 (by decide) (ite_go h (fun hc h => ?_) (fun hc h => ?_))
                  · refine rn_iconst (v := 1) dX9_isOwn_154 rfl ?_
                    refine rn_goto (tgt := 159) dX9_isOwn_155 (by decide) ?_
                    exact rn_zret dX9_isOwn_159 rfl (by decide) ⟨_, rfl, h⟩
                  · refine rn_aload_n (i := 0) (x := 58) dX9_isOwn_99 rfl (by simp) ?_
                    refine rn_getl dX9_isOwn_100 rfl gf_X9_123 rfl ?_
                    refine rn_ldc2 (v := 465726235763) dX9_isOwn_103 lk_X9_164 ?_
                    refine rn_lcmp dX9_isOwn_106 ?_
                    refine rn_if_eq (tgt := 154) dX9_isOwn_107 (by decide) (ite_go h (fun hc h => ?_) (fun hc h => ?_))
                    · refine rn_iconst (v := 1) dX9_isOwn_154 rfl ?_
                      refine rn_goto (tgt := 159) dX9_isOwn_155 (by decide) ?_
                      exact rn_zret dX9_isOwn_159 rfl (by decide) ⟨_, rfl, h⟩
                    · refine rn_aload_n (i := 0) (x := 58) dX9_isOwn_110 rfl (by simp) ?_
                      refine rn_getl dX9_isOwn_111 rfl gf_X9_123 rfl ?_
                      refine rn_ldc2 (v := 126879263846254) dX9_isOwn_114 lk_X9_166 ?_
                      refine rn_lcmp dX9_isOwn_117 ?_
                      refine rn_if_eq (tgt := 154) dX9_isOwn_118 (by decide) (ite_go h (fun hc h => ?_) (fun hc h => ?_))
                      · refine rn_iconst (v := 1) dX9_isOwn_154 rfl ?_
                        refine rn_goto (tgt := 159) dX9_isOwn_155 (by decide) ?_
                        exact rn_zret dX9_isOwn_159 rfl (by decide) ⟨_, rfl, h⟩
                      · refine rn_aload_n (i := 0) (x := 58) dX9_isOwn_121 rfl (by simp) ?_
                        refine rn_getl dX9_isOwn_122 rfl gf_X9_123 rfl ?_
                        refine rn_ldc2 (v := 6385252) dX9_isOwn_125 lk_X9_168 ?_
                        refine rn_lcmp dX9_isOwn_128 ?_
                        refine rn_if_eq (tgt := 154) dX9_isOwn_129 (by decide) (ite_go h (fun hc h => ?_) (fun hc h => ?_))
                        · refine rn_iconst (v := 1) dX9_isOwn_154 rfl ?_
                          refine rn_goto (tgt := 159) dX9_isOwn_155 (by decide) ?_
                          exact rn_zret dX9_isOwn_159 rfl (by decide) ⟨_, rfl, h⟩
                        · refine rn_aload_n (i := 0) (x := 58) dX9_isOwn_132 rfl (by simp) ?_
                          refine rn_getl dX9_isOwn_133 rfl gf_X9_123 rfl ?_
                          refine rn_ldc2 (v := 28530) dX9_isOwn_136 lk_X9_170 ?_
                          refine rn_lcmp dX9_isOwn_139 ?_
                          refine rn_if_eq (tgt := 154) dX9_isOwn_140 (by decide) (ite_go h (fun hc h => ?_) (fun hc h => ?_))
                          · refine rn_iconst (v := 1) dX9_isOwn_154 rfl ?_
                            refine rn_goto (tgt := 159) dX9_isOwn_155 (by decide) ?_
                            exact rn_zret dX9_isOwn_159 rfl (by decide) ⟨_, rfl, h⟩
                          · refine rn_aload_n (i := 0) (x := 58) dX9_isOwn_143 rfl (by simp) ?_
                            refine rn_getl dX9_isOwn_144 rfl gf_X9_123 rfl ?_
                            refine rn_ldc2 (v := 7237492) dX9_isOwn_147 lk_X9_172 ?_
                            refine rn_lcmp dX9_isOwn_150 ?_
                            refine rn_if_ne (tgt := 158) dX9_isOwn_151 (by decide) (ite_go h (fun hc h => ?_) (fun hc h => ?_))
                            · refine rn_iconst (v := 1) dX9_isOwn_154 rfl ?_
                              refine rn_goto (tgt := 159) dX9_isOwn_155 (by decide) ?_
                              exact rn_zret dX9_isOwn_159 rfl (by decide) ⟨_, rfl, h⟩
                            · refine rn_iconst (v := 0) dX9_isOwn_158 rfl ?_
                              exact rn_zret dX9_isOwn_159 rfl (by decide) ⟨_, rfl, h⟩
theorem dX9_isName_0 : decode μX9_isName.2.1 0 = .ok (.aload_n 0, 1) := by decide +kernel
theorem dX9_isName_1 : decode μX9_isName.2.1 1 = .ok (.getfield 130, 3) := by decide +kernel
theorem dX9_isName_4 : decode μX9_isName.2.1 4 = .ok (.iconst 1, 1) := by decide +kernel
theorem dX9_isName_5 : decode μX9_isName.2.1 5 = .ok (.if_icmp .ne 14, 3) := by decide +kernel
theorem dX9_isName_8 : decode μX9_isName.2.1 8 = .ok (.aload_n 0, 1) := by decide +kernel
theorem dX9_isName_9 : decode μX9_isName.2.1 9 = .ok (.invokevirtual 174, 3) := by decide +kernel
theorem dX9_isName_12 : decode μX9_isName.2.1 12 = .ok (.ifCond .ne 7, 3) := by decide +kernel
theorem dX9_isName_15 : decode μX9_isName.2.1 15 = .ok (.iconst 1, 1) := by decide +kernel
theorem dX9_isName_16 : decode μX9_isName.2.1 16 = .ok (.goto 4, 3) := by decide +kernel
theorem dX9_isName_19 : decode μX9_isName.2.1 19 = .ok (.iconst 0, 1) := by decide +kernel
theorem dX9_isName_20 : decode μX9_isName.2.1 20 = .ok (.ireturn, 1) := by decide +kernel
set_option maxRecDepth 20000 in
theorem sg_X9_isName_0 {d : Nat}  {M : Mem} {K : (Int32 → Mem → Prop)}  (h : (if ri M 58 6 = 1 then (CI d μX9_isOwn [.ref 58] M (fun r2 M1 => (if r2 = 0 then K 1 M1 else K 0 M1))) else K 0 M)) : CI (d + 1) μX9_isName [.ref 58] M K := by
  show Rn (d + 1) μX9_isName 0 [(0, .ref 58)] [] M _
  refine rn_aload_n (i := 0) (x := 58) dX9_isName_0 rfl (by simp) ?_
  refine rn_geti dX9_isName_1 rfl gf_X9_130 (by decide) ?_
  refine rn_iconst (v := 1) dX9_isName_4 rfl ?_
  refine rn_icmp_ne (tgt := 19) dX9_isName_5 (by decide) (ite_go h (fun hc h => ?_) (fun hc h => ?_))
  · refine rn_aload_n (i := 0) (x := 58) dX9_isName_8 rfl (by simp) ?_
    refine rn_callVi (as := []) (st := []) dX9_isName_9 mf_X9_isOwn lk_X9_174 im_X9_isOwn rfl rfl rfl rfl (Nat.le_of_ble_eq_true rfl) (Nat.le_of_ble_eq_true rfl) rfl (RI.mono h (fun r2 M1 h => ?_))
    refine rn_if_ne (tgt := 19) dX9_isName_12 (by decide) (ite_go h (fun hc h => ?_) (fun hc h => ?_))
    · refine rn_iconst (v := 1) dX9_isName_15 rfl ?_
      refine rn_goto (tgt := 20) dX9_isName_16 (by decide) ?_
      exact rn_zret dX9_isName_20 rfl (by decide) ⟨_, rfl, h⟩
    · refine rn_iconst (v := 0) dX9_isName_19 rfl ?_
      exact rn_zret dX9_isName_20 rfl (by decide) ⟨_, rfl, h⟩
  · refine rn_iconst (v := 0) dX9_isName_19 rfl ?_
    exact rn_zret dX9_isName_20 rfl (by decide) ⟨_, rfl, h⟩
theorem dX9_want_0 : decode μX9_want.2.1 0 = .ok (.aload_n 0, 1) := by decide +kernel
theorem dX9_want_1 : decode μX9_want.2.1 1 = .ok (.getfield 143, 3) := by decide +kernel
theorem dX9_want_4 : decode μX9_want.2.1 4 = .ok (.ifCond .le 4, 3) := by decide +kernel
theorem dX9_want_7 : decode μX9_want.2.1 7 = .ok (.return_, 1) := by decide +kernel
theorem dX9_want_8 : decode μX9_want.2.1 8 = .ok (.aload_n 0, 1) := by decide +kernel
theorem dX9_want_9 : decode μX9_want.2.1 9 = .ok (.lload_n 1, 1) := by decide +kernel
theorem dX9_want_10 : decode μX9_want.2.1 10 = .ok (.invokevirtual 178, 3) := by decide +kernel
theorem dX9_want_13 : decode μX9_want.2.1 13 = .ok (.ifCond .ne 11, 3) := by decide +kernel
theorem dX9_want_16 : decode μX9_want.2.1 16 = .ok (.aload_n 0, 1) := by decide +kernel
theorem dX9_want_17 : decode μX9_want.2.1 17 = .ok (.iconst 2, 1) := by decide +kernel
theorem dX9_want_18 : decode μX9_want.2.1 18 = .ok (.invokevirtual 182, 3) := by decide +kernel
theorem dX9_want_21 : decode μX9_want.2.1 21 = .ok (.goto 7, 3) := by decide +kernel
theorem dX9_want_24 : decode μX9_want.2.1 24 = .ok (.aload_n 0, 1) := by decide +kernel
theorem dX9_want_25 : decode μX9_want.2.1 25 = .ok (.invokevirtual 185, 3) := by decide +kernel
theorem dX9_want_28 : decode μX9_want.2.1 28 = .ok (.return_, 1) := by decide +kernel
set_option maxRecDepth 20000 in
theorem sg_X9_want_0 {d : Nat} {x1 : Int64} {M : Mem} {K : (Mem → Prop)}  (h : (if ri M 58 2 ≤ 0 then (CI d μX9_isWord [.ref 58, .long x1] M (fun r2 M1 => (if r2 = 0 then (CV d μX9_wrong [.ref 58, .int 2] M1 (fun M3 => K M3)) else (CV d μX9_token [.ref 58] M1 (fun M4 => K M4))))) else K M)) : CV (d + 1) μX9_want [.ref 58, .long x1] M K := by
  show Rn (d + 1) μX9_want 0 [(0, .ref 58), (1, .long x1)] [] M _
  refine rn_aload_n (i := 0) (x := 58) dX9_want_0 rfl (by simp) ?_
  refine rn_geti dX9_want_1 rfl gf_X9_143 (by decide) ?_
  refine rn_if_le (tgt := 8) dX9_want_4 (by decide) (ite_go h (fun hc h => ?_) (fun hc h => ?_))
  · refine rn_aload_n (i := 0) (x := 58) dX9_want_8 rfl (by simp) ?_
    refine rn_lload_n (i := 1) (x := x1) dX9_want_9 rfl (by simp) ?_
    refine rn_callVi (as := [.long x1]) (st := []) dX9_want_10 mf_X9_isWord lk_X9_178 im_X9_isWord rfl rfl rfl rfl (Nat.le_of_ble_eq_true rfl) (Nat.le_of_ble_eq_true rfl) rfl (RI.mono h (fun r2 M1 h => ?_))
    refine rn_if_ne (tgt := 24) dX9_want_13 (by decide) (ite_go h (fun hc h => ?_) (fun hc h => ?_))
    · refine rn_aload_n (i := 0) (x := 58) dX9_want_16 rfl (by simp) ?_
      refine rn_iconst (v := 2) dX9_want_17 rfl ?_
      refine rn_callVv (as := [.int 2]) (st := []) dX9_want_18 mf_X9_wrong lk_X9_182 im_X9_wrong rfl rfl rfl rfl (Nat.le_of_ble_eq_true rfl) (Nat.le_of_ble_eq_true rfl) rfl (RV.mono h (fun M3 h => ?_))
      refine rn_goto (tgt := 28) dX9_want_21 (by decide) ?_
      exact rn_ret dX9_want_28 rfl ⟨rfl, h⟩
    · refine rn_aload_n (i := 0) (x := 58) dX9_want_24 rfl (by simp) ?_
      refine rn_callVv (as := []) (st := []) dX9_want_25 mf_X9_token lk_X9_185 im_X9_token rfl rfl rfl rfl (Nat.le_of_ble_eq_true rfl) (Nat.le_of_ble_eq_true rfl) rfl (RV.mono h (fun M4 h => ?_))
      exact rn_ret dX9_want_28 rfl ⟨rfl, h⟩
  · exact rn_ret dX9_want_7 rfl ⟨rfl, h⟩
theorem dX9_toldNumber_0 : decode μX9_toldNumber.2.1 0 = .ok (.aload_n 0, 1) := by decide +kernel
theorem dX9_toldNumber_1 : decode μX9_toldNumber.2.1 1 = .ok (.getfield 143, 3) := by decide +kernel
theorem dX9_toldNumber_4 : decode μX9_toldNumber.2.1 4 = .ok (.ifCond .le 5, 3) := by decide +kernel
theorem dX9_toldNumber_7 : decode μX9_toldNumber.2.1 7 = .ok (.iconst 0, 1) := by decide +kernel
theorem dX9_toldNumber_8 : decode μX9_toldNumber.2.1 8 = .ok (.ireturn, 1) := by decide +kernel
theorem dX9_toldNumber_9 : decode μX9_toldNumber.2.1 9 = .ok (.aload_n 0, 1) := by decide +kernel
theorem dX9_toldNumber_10 : decode μX9_toldNumber.2.1 10 = .ok (.getfield 130, 3) := by decide +kernel
theorem dX9_toldNumber_13 : decode μX9_toldNumber.2.1 13 = .ok (.iconst 2, 1) := by decide +kernel
theorem dX9_toldNumber_14 : decode μX9_toldNumber.2.1 14 = .ok (.if_icmp .eq 11, 3) := by decide +kernel
theorem dX9_toldNumber_17 : decode μX9_toldNumber.2.1 17 = .ok (.aload_n 0, 1) := by decide +kernel
theorem dX9_toldNumber_18 : decode μX9_toldNumber.2.1 18 = .ok (.iconst 2, 1) := by decide +kernel
theorem dX9_toldNumber_19 : decode μX9_toldNumber.2.1 19 = .ok (.invokevirtual 182, 3) := by decide +kernel
theorem dX9_toldNumber_22 : decode μX9_toldNumber.2.1 22 = .ok (.goto 16, 3) := by decide +kernel
theorem dX9_toldNumber_25 : decode μX9_toldNumber.2.1 25 = .ok (.aload_n 0, 1) := by decide +kernel
theorem dX9_toldNumber_26 : decode μX9_toldNumber.2.1 26 = .ok (.getfield 127, 3) := by decide +kernel
theorem dX9_toldNumber_29 : decode μX9_toldNumber.2.1 29 = .ok (.iload_n 1, 1) := by decide +kernel
theorem dX9_toldNumber_30 : decode μX9_toldNumber.2.1 30 = .ok (.if_icmp .le 8, 3) := by decide +kernel
theorem dX9_toldNumber_33 : decode μX9_toldNumber.2.1 33 = .ok (.aload_n 0, 1) := by decide +kernel
theorem dX9_toldNumber_34 : decode μX9_toldNumber.2.1 34 = .ok (.iconst 4, 1) := by decide +kernel
theorem dX9_toldNumber_35 : decode μX9_toldNumber.2.1 35 = .ok (.invokevirtual 182, 3) := by decide +kernel
theorem dX9_toldNumber_38 : decode μX9_toldNumber.2.1 38 = .ok (.aload_n 0, 1) := by decide +kernel
theorem dX9_toldNumber_39 : decode μX9_toldNumber.2.1 39 = .ok (.getfield 127, 3) := by decide +kernel
theorem dX9_toldNumber_42 : decode μX9_toldNumber.2.1 42 = .ok (.istore_n 2, 1) := by decide +kernel
theorem dX9_toldNumber_43 : decode μX9_toldNumber.2.1 43 = .ok (.aload_n 0, 1) := by decide +kernel
theorem dX9_toldNumber_44 : decode μX9_toldNumber.2.1 44 = .ok (.getfield 143, 3) := by decide +kernel
theorem dX9_toldNumber_47 : decode μX9_toldNumber.2.1 47 = .ok (.ifCond .ne 7, 3) := by decide +kernel
theorem dX9_toldNumber_50 : decode μX9_toldNumber.2.1 50 = .ok (.aload_n 0, 1) := by decide +kernel
theorem dX9_toldNumber_51 : decode μX9_toldNumber.2.1 51 = .ok (.invokevirtual 185, 3) := by decide +kernel
theorem dX9_toldNumber_54 : decode μX9_toldNumber.2.1 54 = .ok (.iload_n 2, 1) := by decide +kernel
theorem dX9_toldNumber_55 : decode μX9_toldNumber.2.1 55 = .ok (.ireturn, 1) := by decide +kernel
set_option maxRecDepth 20000 in
theorem sg_X9_toldNumber_0 {d : Nat} {x1 : Int32} {M : Mem} {K : (Int32 → Mem → Prop)}  (h : (if ri M 58 2 ≤ 0 then (if ri M 58 6 = 2 then (if ri M 58 8 ≤ x1 then RI (d + 1) μX9_toldNumber 38 [(0, .ref 58), (1, .int x1)] [] M K else (CV d μX9_wrong [.ref 58, .int 4] M (fun M1 => RI (d + 1) μX9_toldNumber 38 [(0, .ref 58), (1, .int x1)] [] M1 K))) else (CV d μX9_wrong [.ref 58, .int 2] M (fun M2 => RI (d + 1) μX9_toldNumber 38 [(0, .ref 58), (1, .int x1)] [] M2 K))) else K 0 M)) : CI (d + 1) μX9_toldNumber [.ref 58, .int x1] M K := by
  show Rn (d + 1) μX9_toldNumber 0 [(0, .ref 58), (1, .int x1)] [] M _
  refine rn_aload_n (i := 0) (x := 58) dX9_toldNumber_0 rfl (by simp) ?_
  refine rn_geti dX9_toldNumber_1 rfl gf_X9_143 (by decide) ?_
  refine rn_if_le (tgt := 9) dX9_toldNumber_4 (by decide) (ite_go h (fun hc h => ?_) (fun hc h => ?_))
  · refine rn_aload_n (i := 0) (x := 58) dX9_toldNumber_9 rfl (by simp) ?_
    refine rn_geti dX9_toldNumber_10 rfl gf_X9_130 (by decide) ?_
    refine rn_iconst (v := 2) dX9_toldNumber_13 rfl ?_
    refine rn_icmp_eq (tgt := 25) dX9_toldNumber_14 (by decide) (ite_go h (fun hc h => ?_) (fun hc h => ?_))
    · refine rn_aload_n (i := 0) (x := 58) dX9_toldNumber_25 rfl (by simp) ?_
      refine rn_geti dX9_toldNumber_26 rfl gf_X9_127 (by decide) ?_
      refine rn_iload_n (i := 1) (x := x1) dX9_toldNumber_29 rfl (by simp) ?_
      refine rn_icmp_le (tgt := 38) dX9_toldNumber_30 (by decide) (ite_go h (fun hc h => ?_) (fun hc h => ?_))
      · exact h
      · refine rn_aload_n (i := 0) (x := 58) dX9_toldNumber_33 rfl (by simp) ?_
        refine rn_iconst (v := 4) dX9_toldNumber_34 rfl ?_
        refine rn_callVv (as := [.int 4]) (st := []) dX9_toldNumber_35 mf_X9_wrong lk_X9_182 im_X9_wrong rfl rfl rfl rfl (Nat.le_of_ble_eq_true rfl) (Nat.le_of_ble_eq_true rfl) rfl (RV.mono h (fun M1 h => ?_))
        exact h
    · refine rn_aload_n (i := 0) (x := 58) dX9_toldNumber_17 rfl (by simp) ?_
      refine rn_iconst (v := 2) dX9_toldNumber_18 rfl ?_
      refine rn_callVv (as := [.int 2]) (st := []) dX9_toldNumber_19 mf_X9_wrong lk_X9_182 im_X9_wrong rfl rfl rfl rfl (Nat.le_of_ble_eq_true rfl) (Nat.le_of_ble_eq_true rfl) rfl (RV.mono h (fun M2 h => ?_))
      refine rn_goto (tgt := 38) dX9_toldNumber_22 (by decide) ?_
      exact h
  · refine rn_iconst (v := 0) dX9_toldNumber_7 rfl ?_
    exact rn_iret dX9_toldNumber_8 rfl ⟨_, rfl, h⟩
set_option maxRecDepth 20000 in
theorem sg_X9_toldNumber_38 {d : Nat} {x1 : Int32} {M : Mem} {K : (Int32 → Mem → Prop)}  (h : (if ri M 58 2 = 0 then (CV d μX9_token [.ref 58] M (fun M1 => K (ri M 58 8) M1)) else K (ri M 58 8) M)) : RI (d + 1) μX9_toldNumber 38 [(0, .ref 58), (1, .int x1)] [] M K := by
  show Rn (d + 1) μX9_toldNumber 38 [(0, .ref 58), (1, .int x1)] [] M _
  refine rn_aload_n (i := 0) (x := 58) dX9_toldNumber_38 rfl (by simp) ?_
  refine rn_geti dX9_toldNumber_39 rfl gf_X9_127 (by decide) ?_
  refine rn_istore_n (lv' := [(0, .ref 58), (1, .int x1), (2, .int (ri M 58 8))]) (hd := dX9_toldNumber_42) (i := 2) (hi := rfl) (hn := by decide) (hf := rfl) (hl := rfl) ?_
  refine rn_aload_n (i := 0) (x := 58) dX9_toldNumber_43 rfl (by simp) ?_
  refine rn_geti dX9_toldNumber_44 rfl gf_X9_143 (by decide) ?_
  refine rn_if_ne (tgt := 54) dX9_toldNumber_47 (by decide) (ite_go h (fun hc h => ?_) (fun hc h => ?_))
  · refine rn_aload_n (i := 0) (x := 58) dX9_toldNumber_50 rfl (by simp) ?_
    refine rn_callVv (as := []) (st := []) dX9_toldNumber_51 mf_X9_token lk_X9_185 im_X9_token rfl rfl rfl rfl (Nat.le_of_ble_eq_true rfl) (Nat.le_of_ble_eq_true rfl) rfl (RV.mono h (fun M1 h => ?_))
    refine rn_iload_n (i := 2) (x := ri M 58 8) dX9_toldNumber_54 rfl (by simp) ?_
    exact rn_iret dX9_toldNumber_55 rfl ⟨_, rfl, h⟩
  · refine rn_iload_n (i := 2) (x := ri M 58 8) dX9_toldNumber_54 rfl (by simp) ?_
    exact rn_iret dX9_toldNumber_55 rfl ⟨_, rfl, h⟩
theorem dX9_told_0 : decode μX9_told.2.1 0 = .ok (.aload_n 0, 1) := by decide +kernel
theorem dX9_told_1 : decode μX9_told.2.1 1 = .ok (.lload_n 1, 1) := by decide +kernel
theorem dX9_told_2 : decode μX9_told.2.1 2 = .ok (.invokevirtual 188, 3) := by decide +kernel
theorem dX9_told_5 : decode μX9_told.2.1 5 = .ok (.aload_n 0, 1) := by decide +kernel
theorem dX9_told_6 : decode μX9_told.2.1 6 = .ok (.iload_n 3, 1) := by decide +kernel
theorem dX9_told_7 : decode μX9_told.2.1 7 = .ok (.invokevirtual 192, 3) := by decide +kernel
theorem dX9_told_10 : decode μX9_told.2.1 10 = .ok (.ireturn, 1) := by decide +kernel
set_option maxRecDepth 20000 in
theorem sg_X9_told_0 {d : Nat} {x1 : Int64} {x3 : Int32} {M : Mem} {K : (Int32 → Mem → Prop)}  (h : (CV d μX9_want [.ref 58, .long x1] M (fun M1 => (CI d μX9_toldNumber [.ref 58, .int x3] M1 (fun r3 M2 => K r3 M2))))) : CI (d + 1) μX9_told [.ref 58, .long x1, .int x3] M K := by
  show Rn (d + 1) μX9_told 0 [(0, .ref 58), (1, .long x1), (3, .int x3)] [] M _
  refine rn_aload_n (i := 0) (x := 58) dX9_told_0 rfl (by simp) ?_
  refine rn_lload_n (i := 1) (x := x1) dX9_told_1 rfl (by simp) ?_
  refine rn_callVv (as := [.long x1]) (st := []) dX9_told_2 mf_X9_want lk_X9_188 im_X9_want rfl rfl rfl rfl (Nat.le_of_ble_eq_true rfl) (Nat.le_of_ble_eq_true rfl) rfl (RV.mono h (fun M1 h => ?_))
  refine rn_aload_n (i := 0) (x := 58) dX9_told_5 rfl (by simp) ?_
  refine rn_iload_n (i := 3) (x := x3) dX9_told_6 rfl (by simp) ?_
  refine rn_callVi (as := [.int x3]) (st := []) dX9_told_7 mf_X9_toldNumber lk_X9_192 im_X9_toldNumber rfl rfl rfl rfl (Nat.le_of_ble_eq_true rfl) (Nat.le_of_ble_eq_true rfl) rfl (RI.mono h (fun r3 M2 h => ?_))
  exact rn_iret dX9_told_10 rfl ⟨_, rfl, h⟩
theorem dX9_find_0 : decode μX9_find.2.1 0 = .ok (.iconst (-1), 1) := by decide +kernel
theorem dX9_find_1 : decode μX9_find.2.1 1 = .ok (.istore_n 1, 1) := by decide +kernel
theorem dX9_find_2 : decode μX9_find.2.1 2 = .ok (.iconst 0, 1) := by decide +kernel
theorem dX9_find_3 : decode μX9_find.2.1 3 = .ok (.istore_n 2, 1) := by decide +kernel
theorem dX9_find_4 : decode μX9_find.2.1 4 = .ok (.iload_n 2, 1) := by decide +kernel
theorem dX9_find_5 : decode μX9_find.2.1 5 = .ok (.aload_n 0, 1) := by decide +kernel
theorem dX9_find_6 : decode μX9_find.2.1 6 = .ok (.getfield 195, 3) := by decide +kernel
theorem dX9_find_9 : decode μX9_find.2.1 9 = .ok (.if_icmp .ge 29, 3) := by decide +kernel
theorem dX9_find_12 : decode μX9_find.2.1 12 = .ok (.aload_n 0, 1) := by decide +kernel
theorem dX9_find_13 : decode μX9_find.2.1 13 = .ok (.getfield 17, 3) := by decide +kernel
theorem dX9_find_16 : decode μX9_find.2.1 16 = .ok (.iload_n 2, 1) := by decide +kernel
theorem dX9_find_17 : decode μX9_find.2.1 17 = .ok (.laload, 1) := by decide +kernel
theorem dX9_find_18 : decode μX9_find.2.1 18 = .ok (.aload_n 0, 1) := by decide +kernel
theorem dX9_find_19 : decode μX9_find.2.1 19 = .ok (.getfield 123, 3) := by decide +kernel
theorem dX9_find_22 : decode μX9_find.2.1 22 = .ok (.lcmp, 1) := by decide +kernel
theorem dX9_find_23 : decode μX9_find.2.1 23 = .ok (.ifCond .ne 7, 3) := by decide +kernel
theorem dX9_find_26 : decode μX9_find.2.1 26 = .ok (.iload_n 2, 1) := by decide +kernel
theorem dX9_find_27 : decode μX9_find.2.1 27 = .ok (.goto 4, 3) := by decide +kernel
theorem dX9_find_30 : decode μX9_find.2.1 30 = .ok (.iload_n 1, 1) := by decide +kernel
theorem dX9_find_31 : decode μX9_find.2.1 31 = .ok (.istore_n 1, 1) := by decide +kernel
theorem dX9_find_32 : decode μX9_find.2.1 32 = .ok (.iinc 2 1, 3) := by decide +kernel
theorem dX9_find_35 : decode μX9_find.2.1 35 = .ok (.goto (-31), 3) := by decide +kernel
theorem dX9_find_38 : decode μX9_find.2.1 38 = .ok (.iload_n 1, 1) := by decide +kernel
theorem dX9_find_39 : decode μX9_find.2.1 39 = .ok (.ireturn, 1) := by decide +kernel
set_option maxRecDepth 20000 in
theorem sg_X9_find_0 {d : Nat}  {M : Mem} {K : (Int32 → Mem → Prop)}  (h : RI d μX9_find 4 [(0, .ref 58), (1, .int ((-1))), (2, .int 0)] [] M K) : CI d μX9_find [.ref 58] M K := by
  show Rn d μX9_find 0 [(0, .ref 58)] [] M _
  refine rn_iconst (v := -1) dX9_find_0 rfl ?_
  refine rn_istore_n (lv' := [(0, .ref 58), (1, .int ((-1)))]) (hd := dX9_find_1) (i := 1) (hi := rfl) (hn := by decide) (hf := rfl) (hl := rfl) ?_
  refine rn_iconst (v := 0) dX9_find_2 rfl ?_
  refine rn_istore_n (lv' := [(0, .ref 58), (1, .int ((-1))), (2, .int 0)]) (hd := dX9_find_3) (i := 2) (hi := rfl) (hn := by decide) (hf := rfl) (hl := rfl) ?_
  exact h
set_option maxRecDepth 20000 in
theorem sg_X9_find_4 {d : Nat} {x1 : Int32} {x2 : Int32} {M : Mem} {K : (Int32 → Mem → Prop)}  (h : (if ri M 58 31 ≤ x2 then K x1 M else (vp_in x2 8 ∧ (if lg_cmp (rl M 60 (nx x2)) (rl M 58 9) = 0 then RI d μX9_find 4 [(0, .ref 58), (1, .int x2), (2, .int (x2 + 1))] [] M K else RI d μX9_find 4 [(0, .ref 58), (1, .int x1), (2, .int (x2 + 1))] [] M K)))) : RI d μX9_find 4 [(0, .ref 58), (1, .int x1), (2, .int x2)] [] M K := by
  show Rn d μX9_find 4 [(0, .ref 58), (1, .int x1), (2, .int x2)] [] M _
  refine rn_iload_n (i := 2) (x := x2) dX9_find_4 rfl (by simp) ?_
  refine rn_aload_n (i := 0) (x := 58) dX9_find_5 rfl (by simp) ?_
  refine rn_geti dX9_find_6 rfl gf_X9_195 (by decide) ?_
  refine rn_icmp_ge (tgt := 38) dX9_find_9 (by decide) (ite_go h (fun hc h => ?_) (fun hc h => ?_))
  · refine rn_iload_n (i := 1) (x := x1) dX9_find_38 rfl (by simp) ?_
    exact rn_iret dX9_find_39 rfl ⟨_, rfl, h⟩
  · refine rn_aload_n (i := 0) (x := 58) dX9_find_12 rfl (by simp) ?_
    refine rn_getr (t := 60) dX9_find_13 rfl gf_X9_17 rfl rfl ?_
    refine rn_iload_n (i := 2) (x := x2) dX9_find_16 rfl (by simp) ?_
    obtain ⟨hi, h⟩ := h
    refine rn_laload dX9_find_17 rfl hi ?_
    refine rn_aload_n (i := 0) (x := 58) dX9_find_18 rfl (by simp) ?_
    refine rn_getl dX9_find_19 rfl gf_X9_123 rfl ?_
    refine rn_lcmp dX9_find_22 ?_
    refine rn_if_ne (tgt := 30) dX9_find_23 (by decide) (ite_go h (fun hc h => ?_) (fun hc h => ?_))
    · refine rn_iload_n (i := 2) (x := x2) dX9_find_26 rfl (by simp) ?_
      refine rn_goto (tgt := 31) dX9_find_27 (by decide) ?_
      refine rn_istore_n (lv' := [(0, .ref 58), (1, .int x2), (2, .int x2)]) (hd := dX9_find_31) (i := 1) (hi := rfl) (hn := by decide) (hf := rfl) (hl := rfl) ?_
      refine rn_iinc (x := x2) (v := x2 + 1) (lv' := [(0, .ref 58), (1, .int x2), (2, .int (x2 + 1))]) dX9_find_32 (by simp) rfl (by decide) rfl rfl ?_
      refine rn_goto (tgt := 4) dX9_find_35 (by decide) ?_
      exact h
    · refine rn_iload_n (i := 1) (x := x1) dX9_find_30 rfl (by simp) ?_
      refine rn_istore_n (lv' := [(0, .ref 58), (1, .int x1), (2, .int x2)]) (hd := dX9_find_31) (i := 1) (hi := rfl) (hn := by decide) (hf := rfl) (hl := rfl) ?_
      refine rn_iinc (x := x2) (v := x2 + 1) (lv' := [(0, .ref 58), (1, .int x1), (2, .int (x2 + 1))]) dX9_find_32 (by simp) rfl (by decide) rfl rfl ?_
      refine rn_goto (tgt := 4) dX9_find_35 (by decide) ?_
      exact h
theorem dX9_newName_0 : decode μX9_newName.2.1 0 = .ok (.aload_n 0, 1) := by decide +kernel
theorem dX9_newName_1 : decode μX9_newName.2.1 1 = .ok (.invokevirtual 185, 3) := by decide +kernel
theorem dX9_newName_4 : decode μX9_newName.2.1 4 = .ok (.aload_n 0, 1) := by decide +kernel
theorem dX9_newName_5 : decode μX9_newName.2.1 5 = .ok (.invokevirtual 198, 3) := by decide +kernel
theorem dX9_newName_8 : decode μX9_newName.2.1 8 = .ok (.ifCond .ne 11, 3) := by decide +kernel
theorem dX9_newName_11 : decode μX9_newName.2.1 11 = .ok (.aload_n 0, 1) := by decide +kernel
theorem dX9_newName_12 : decode μX9_newName.2.1 12 = .ok (.iconst 2, 1) := by decide +kernel
theorem dX9_newName_13 : decode μX9_newName.2.1 13 = .ok (.invokevirtual 182, 3) := by decide +kernel
theorem dX9_newName_16 : decode μX9_newName.2.1 16 = .ok (.goto 15, 3) := by decide +kernel
theorem dX9_newName_19 : decode μX9_newName.2.1 19 = .ok (.aload_n 0, 1) := by decide +kernel
theorem dX9_newName_20 : decode μX9_newName.2.1 20 = .ok (.invokevirtual 201, 3) := by decide +kernel
theorem dX9_newName_23 : decode μX9_newName.2.1 23 = .ok (.ifCond .lt 8, 3) := by decide +kernel
theorem dX9_newName_26 : decode μX9_newName.2.1 26 = .ok (.aload_n 0, 1) := by decide +kernel
theorem dX9_newName_27 : decode μX9_newName.2.1 27 = .ok (.iconst 3, 1) := by decide +kernel
theorem dX9_newName_28 : decode μX9_newName.2.1 28 = .ok (.invokevirtual 182, 3) := by decide +kernel
theorem dX9_newName_31 : decode μX9_newName.2.1 31 = .ok (.aload_n 0, 1) := by decide +kernel
theorem dX9_newName_32 : decode μX9_newName.2.1 32 = .ok (.getfield 143, 3) := by decide +kernel
theorem dX9_newName_35 : decode μX9_newName.2.1 35 = .ok (.ifCond .le 4, 3) := by decide +kernel
theorem dX9_newName_38 : decode μX9_newName.2.1 38 = .ok (.return_, 1) := by decide +kernel
theorem dX9_newName_39 : decode μX9_newName.2.1 39 = .ok (.aload_n 0, 1) := by decide +kernel
theorem dX9_newName_40 : decode μX9_newName.2.1 40 = .ok (.getfield 17, 3) := by decide +kernel
theorem dX9_newName_43 : decode μX9_newName.2.1 43 = .ok (.aload_n 0, 1) := by decide +kernel
theorem dX9_newName_44 : decode μX9_newName.2.1 44 = .ok (.getfield 195, 3) := by decide +kernel
theorem dX9_newName_47 : decode μX9_newName.2.1 47 = .ok (.aload_n 0, 1) := by decide +kernel
theorem dX9_newName_48 : decode μX9_newName.2.1 48 = .ok (.getfield 123, 3) := by decide +kernel
theorem dX9_newName_51 : decode μX9_newName.2.1 51 = .ok (.lastore, 1) := by decide +kernel
theorem dX9_newName_52 : decode μX9_newName.2.1 52 = .ok (.aload_n 0, 1) := by decide +kernel
theorem dX9_newName_53 : decode μX9_newName.2.1 53 = .ok (.invokevirtual 185, 3) := by decide +kernel
theorem dX9_newName_56 : decode μX9_newName.2.1 56 = .ok (.return_, 1) := by decide +kernel
set_option maxRecDepth 20000 in
theorem sg_X9_newName_0 {d : Nat}  {M : Mem} {K : (Mem → Prop)}  (h : (CV d μX9_token [.ref 58] M (fun M1 => (CI d μX9_isName [.ref 58] M1 (fun r3 M2 => (if r3 = 0 then (CV d μX9_wrong [.ref 58, .int 2] M2 (fun M4 => RV (d + 1) μX9_newName 31 [(0, .ref 58)] [] M4 K)) else (CI d μX9_find [.ref 58] M2 (fun r6 M5 => (if r6 < 0 then RV (d + 1) μX9_newName 31 [(0, .ref 58)] [] M5 K else (CV d μX9_wrong [.ref 58, .int 3] M5 (fun M7 => RV (d + 1) μX9_newName 31 [(0, .ref 58)] [] M7 K))))))))))) : CV (d + 1) μX9_newName [.ref 58] M K := by
  show Rn (d + 1) μX9_newName 0 [(0, .ref 58)] [] M _
  refine rn_aload_n (i := 0) (x := 58) dX9_newName_0 rfl (by simp) ?_
  refine rn_callVv (as := []) (st := []) dX9_newName_1 mf_X9_token lk_X9_185 im_X9_token rfl rfl rfl rfl (Nat.le_of_ble_eq_true rfl) (Nat.le_of_ble_eq_true rfl) rfl (RV.mono h (fun M1 h => ?_))
  refine rn_aload_n (i := 0) (x := 58) dX9_newName_4 rfl (by simp) ?_
  refine rn_callVi (as := []) (st := []) dX9_newName_5 mf_X9_isName lk_X9_198 im_X9_isName rfl rfl rfl rfl (Nat.le_of_ble_eq_true rfl) (Nat.le_of_ble_eq_true rfl) rfl (RI.mono h (fun r3 M2 h => ?_))
  refine rn_if_ne (tgt := 19) dX9_newName_8 (by decide) (ite_go h (fun hc h => ?_) (fun hc h => ?_))
  · refine rn_aload_n (i := 0) (x := 58) dX9_newName_11 rfl (by simp) ?_
    refine rn_iconst (v := 2) dX9_newName_12 rfl ?_
    refine rn_callVv (as := [.int 2]) (st := []) dX9_newName_13 mf_X9_wrong lk_X9_182 im_X9_wrong rfl rfl rfl rfl (Nat.le_of_ble_eq_true rfl) (Nat.le_of_ble_eq_true rfl) rfl (RV.mono h (fun M4 h => ?_))
    refine rn_goto (tgt := 31) dX9_newName_16 (by decide) ?_
    exact h
  · refine rn_aload_n (i := 0) (x := 58) dX9_newName_19 rfl (by simp) ?_
    refine rn_callVi (as := []) (st := []) dX9_newName_20 mf_X9_find lk_X9_201 im_X9_find rfl rfl rfl rfl (Nat.le_of_ble_eq_true rfl) (Nat.le_of_ble_eq_true rfl) rfl (RI.mono h (fun r6 M5 h => ?_))
    refine rn_if_lt (tgt := 31) dX9_newName_23 (by decide) (ite_go h (fun hc h => ?_) (fun hc h => ?_))
    · exact h
    · refine rn_aload_n (i := 0) (x := 58) dX9_newName_26 rfl (by simp) ?_
      refine rn_iconst (v := 3) dX9_newName_27 rfl ?_
      refine rn_callVv (as := [.int 3]) (st := []) dX9_newName_28 mf_X9_wrong lk_X9_182 im_X9_wrong rfl rfl rfl rfl (Nat.le_of_ble_eq_true rfl) (Nat.le_of_ble_eq_true rfl) rfl (RV.mono h (fun M7 h => ?_))
      exact h
set_option maxRecDepth 20000 in
theorem sg_X9_newName_31 {d : Nat}  {M : Mem} {K : (Mem → Prop)}  (h : (if ri M 58 2 ≤ 0 then (vp_in (ri M 58 31) 8 ∧ ∀ M1, M1 = wl M 60 (nx (ri M 58 31)) (rl M 58 9) → (CV d μX9_token [.ref 58] M1 (fun M2 => K M2))) else K M)) : RV (d + 1) μX9_newName 31 [(0, .ref 58)] [] M K := by
  show Rn (d + 1) μX9_newName 31 [(0, .ref 58)] [] M _
  refine rn_aload_n (i := 0) (x := 58) dX9_newName_31 rfl (by simp) ?_
  refine rn_geti dX9_newName_32 rfl gf_X9_143 (by decide) ?_
  refine rn_if_le (tgt := 39) dX9_newName_35 (by decide) (ite_go h (fun hc h => ?_) (fun hc h => ?_))
  · refine rn_aload_n (i := 0) (x := 58) dX9_newName_39 rfl (by simp) ?_
    refine rn_getr (t := 60) dX9_newName_40 rfl gf_X9_17 rfl rfl ?_
    refine rn_aload_n (i := 0) (x := 58) dX9_newName_43 rfl (by simp) ?_
    refine rn_geti dX9_newName_44 rfl gf_X9_195 (by decide) ?_
    refine rn_aload_n (i := 0) (x := 58) dX9_newName_47 rfl (by simp) ?_
    refine rn_getl dX9_newName_48 rfl gf_X9_123 rfl ?_
    obtain ⟨hi, h⟩ := h
    have h := h _ rfl
    refine rn_lastore dX9_newName_51 rfl hi ?_
    generalize wl M 60 (nx (ri M 58 31)) (rl M 58 9) = M1 at h ⊢
    refine rn_aload_n (i := 0) (x := 58) dX9_newName_52 rfl (by simp) ?_
    refine rn_callVv (as := []) (st := []) dX9_newName_53 mf_X9_token lk_X9_185 im_X9_token rfl rfl rfl rfl (Nat.le_of_ble_eq_true rfl) (Nat.le_of_ble_eq_true rfl) rfl (RV.mono h (fun M2 h => ?_))
    exact rn_ret dX9_newName_56 rfl ⟨rfl, h⟩
  · exact rn_ret dX9_newName_38 rfl ⟨rfl, h⟩
theorem dX9_oldLord_0 : decode μX9_oldLord.2.1 0 = .ok (.aload_n 0, 1) := by decide +kernel
theorem dX9_oldLord_1 : decode μX9_oldLord.2.1 1 = .ok (.getfield 143, 3) := by decide +kernel
theorem dX9_oldLord_4 : decode μX9_oldLord.2.1 4 = .ok (.ifCond .le 5, 3) := by decide +kernel
theorem dX9_oldLord_7 : decode μX9_oldLord.2.1 7 = .ok (.iconst 0, 1) := by decide +kernel
theorem dX9_oldLord_8 : decode μX9_oldLord.2.1 8 = .ok (.ireturn, 1) := by decide +kernel
theorem dX9_oldLord_9 : decode μX9_oldLord.2.1 9 = .ok (.aload_n 0, 1) := by decide +kernel
theorem dX9_oldLord_10 : decode μX9_oldLord.2.1 10 = .ok (.invokevirtual 198, 3) := by decide +kernel
theorem dX9_oldLord_13 : decode μX9_oldLord.2.1 13 = .ok (.ifCond .ne 11, 3) := by decide +kernel
theorem dX9_oldLord_16 : decode μX9_oldLord.2.1 16 = .ok (.aload_n 0, 1) := by decide +kernel
theorem dX9_oldLord_17 : decode μX9_oldLord.2.1 17 = .ok (.iconst 2, 1) := by decide +kernel
theorem dX9_oldLord_18 : decode μX9_oldLord.2.1 18 = .ok (.invokevirtual 182, 3) := by decide +kernel
theorem dX9_oldLord_21 : decode μX9_oldLord.2.1 21 = .ok (.goto 15, 3) := by decide +kernel
theorem dX9_oldLord_24 : decode μX9_oldLord.2.1 24 = .ok (.aload_n 0, 1) := by decide +kernel
theorem dX9_oldLord_25 : decode μX9_oldLord.2.1 25 = .ok (.invokevirtual 201, 3) := by decide +kernel
theorem dX9_oldLord_28 : decode μX9_oldLord.2.1 28 = .ok (.ifCond .ge 8, 3) := by decide +kernel
theorem dX9_oldLord_31 : decode μX9_oldLord.2.1 31 = .ok (.aload_n 0, 1) := by decide +kernel
theorem dX9_oldLord_32 : decode μX9_oldLord.2.1 32 = .ok (.iconst 5, 1) := by decide +kernel
theorem dX9_oldLord_33 : decode μX9_oldLord.2.1 33 = .ok (.invokevirtual 182, 3) := by decide +kernel
theorem dX9_oldLord_36 : decode μX9_oldLord.2.1 36 = .ok (.aload_n 0, 1) := by decide +kernel
theorem dX9_oldLord_37 : decode μX9_oldLord.2.1 37 = .ok (.getfield 143, 3) := by decide +kernel
theorem dX9_oldLord_40 : decode μX9_oldLord.2.1 40 = .ok (.ifCond .le 7, 3) := by decide +kernel
theorem dX9_oldLord_43 : decode μX9_oldLord.2.1 43 = .ok (.iconst 0, 1) := by decide +kernel
theorem dX9_oldLord_44 : decode μX9_oldLord.2.1 44 = .ok (.goto 7, 3) := by decide +kernel
theorem dX9_oldLord_47 : decode μX9_oldLord.2.1 47 = .ok (.aload_n 0, 1) := by decide +kernel
theorem dX9_oldLord_48 : decode μX9_oldLord.2.1 48 = .ok (.invokevirtual 201, 3) := by decide +kernel
theorem dX9_oldLord_51 : decode μX9_oldLord.2.1 51 = .ok (.ireturn, 1) := by decide +kernel
set_option maxRecDepth 20000 in
theorem sg_X9_oldLord_0 {d : Nat}  {M : Mem} {K : (Int32 → Mem → Prop)}  (h : (if ri M 58 2 ≤ 0 then (CI d μX9_isName [.ref 58] M (fun r2 M1 => (if r2 = 0 then (CV d μX9_wrong [.ref 58, .int 2] M1 (fun M3 => RI (d + 1) μX9_oldLord 36 [(0, .ref 58)] [] M3 K)) else (CI d μX9_find [.ref 58] M1 (fun r5 M4 => (if 0 ≤ r5 then RI (d + 1) μX9_oldLord 36 [(0, .ref 58)] [] M4 K else (CV d μX9_wrong [.ref 58, .int 5] M4 (fun M6 => RI (d + 1) μX9_oldLord 36 [(0, .ref 58)] [] M6 K)))))))) else K 0 M)) : CI (d + 1) μX9_oldLord [.ref 58] M K := by
  show Rn (d + 1) μX9_oldLord 0 [(0, .ref 58)] [] M _
  refine rn_aload_n (i := 0) (x := 58) dX9_oldLord_0 rfl (by simp) ?_
  refine rn_geti dX9_oldLord_1 rfl gf_X9_143 (by decide) ?_
  refine rn_if_le (tgt := 9) dX9_oldLord_4 (by decide) (ite_go h (fun hc h => ?_) (fun hc h => ?_))
  · refine rn_aload_n (i := 0) (x := 58) dX9_oldLord_9 rfl (by simp) ?_
    refine rn_callVi (as := []) (st := []) dX9_oldLord_10 mf_X9_isName lk_X9_198 im_X9_isName rfl rfl rfl rfl (Nat.le_of_ble_eq_true rfl) (Nat.le_of_ble_eq_true rfl) rfl (RI.mono h (fun r2 M1 h => ?_))
    refine rn_if_ne (tgt := 24) dX9_oldLord_13 (by decide) (ite_go h (fun hc h => ?_) (fun hc h => ?_))
    · refine rn_aload_n (i := 0) (x := 58) dX9_oldLord_16 rfl (by simp) ?_
      refine rn_iconst (v := 2) dX9_oldLord_17 rfl ?_
      refine rn_callVv (as := [.int 2]) (st := []) dX9_oldLord_18 mf_X9_wrong lk_X9_182 im_X9_wrong rfl rfl rfl rfl (Nat.le_of_ble_eq_true rfl) (Nat.le_of_ble_eq_true rfl) rfl (RV.mono h (fun M3 h => ?_))
      refine rn_goto (tgt := 36) dX9_oldLord_21 (by decide) ?_
      exact h
    · refine rn_aload_n (i := 0) (x := 58) dX9_oldLord_24 rfl (by simp) ?_
      refine rn_callVi (as := []) (st := []) dX9_oldLord_25 mf_X9_find lk_X9_201 im_X9_find rfl rfl rfl rfl (Nat.le_of_ble_eq_true rfl) (Nat.le_of_ble_eq_true rfl) rfl (RI.mono h (fun r5 M4 h => ?_))
      refine rn_if_ge (tgt := 36) dX9_oldLord_28 (by decide) (ite_go h (fun hc h => ?_) (fun hc h => ?_))
      · exact h
      · refine rn_aload_n (i := 0) (x := 58) dX9_oldLord_31 rfl (by simp) ?_
        refine rn_iconst (v := 5) dX9_oldLord_32 rfl ?_
        refine rn_callVv (as := [.int 5]) (st := []) dX9_oldLord_33 mf_X9_wrong lk_X9_182 im_X9_wrong rfl rfl rfl rfl (Nat.le_of_ble_eq_true rfl) (Nat.le_of_ble_eq_true rfl) rfl (RV.mono h (fun M6 h => ?_))
        exact h
  · refine rn_iconst (v := 0) dX9_oldLord_7 rfl ?_
    exact rn_iret dX9_oldLord_8 rfl ⟨_, rfl, h⟩
set_option maxRecDepth 20000 in
theorem sg_X9_oldLord_36 {d : Nat}  {M : Mem} {K : (Int32 → Mem → Prop)}  (h : (if ri M 58 2 ≤ 0 then (CI d μX9_find [.ref 58] M (fun r2 M1 => K r2 M1)) else K 0 M)) : RI (d + 1) μX9_oldLord 36 [(0, .ref 58)] [] M K := by
  show Rn (d + 1) μX9_oldLord 36 [(0, .ref 58)] [] M _
  refine rn_aload_n (i := 0) (x := 58) dX9_oldLord_36 rfl (by simp) ?_
  refine rn_geti dX9_oldLord_37 rfl gf_X9_143 (by decide) ?_
  refine rn_if_le (tgt := 47) dX9_oldLord_40 (by decide) (ite_go h (fun hc h => ?_) (fun hc h => ?_))
  · refine rn_aload_n (i := 0) (x := 58) dX9_oldLord_47 rfl (by simp) ?_
    refine rn_callVi (as := []) (st := []) dX9_oldLord_48 mf_X9_find lk_X9_201 im_X9_find rfl rfl rfl rfl (Nat.le_of_ble_eq_true rfl) (Nat.le_of_ble_eq_true rfl) rfl (RI.mono h (fun r2 M1 h => ?_))
    exact rn_iret dX9_oldLord_51 rfl ⟨_, rfl, h⟩
  · refine rn_iconst (v := 0) dX9_oldLord_43 rfl ?_
    refine rn_goto (tgt := 51) dX9_oldLord_44 (by decide) ?_
    exact rn_iret dX9_oldLord_51 rfl ⟨_, rfl, h⟩
theorem dX9_add_0 : decode μX9_add.2.1 0 = .ok (.aload_n 0, 1) := by decide +kernel
theorem dX9_add_1 : decode μX9_add.2.1 1 = .ok (.getfield 21, 3) := by decide +kernel
theorem dX9_add_4 : decode μX9_add.2.1 4 = .ok (.aload_n 0, 1) := by decide +kernel
theorem dX9_add_5 : decode μX9_add.2.1 5 = .ok (.getfield 205, 3) := by decide +kernel
theorem dX9_add_8 : decode μX9_add.2.1 8 = .ok (.iload_n 1, 1) := by decide +kernel
theorem dX9_add_9 : decode μX9_add.2.1 9 = .ok (.iastore, 1) := by decide +kernel
theorem dX9_add_10 : decode μX9_add.2.1 10 = .ok (.aload_n 0, 1) := by decide +kernel
theorem dX9_add_11 : decode μX9_add.2.1 11 = .ok (.getfield 24, 3) := by decide +kernel
theorem dX9_add_14 : decode μX9_add.2.1 14 = .ok (.aload_n 0, 1) := by decide +kernel
theorem dX9_add_15 : decode μX9_add.2.1 15 = .ok (.getfield 205, 3) := by decide +kernel
theorem dX9_add_18 : decode μX9_add.2.1 18 = .ok (.iload_n 2, 1) := by decide +kernel
theorem dX9_add_19 : decode μX9_add.2.1 19 = .ok (.iastore, 1) := by decide +kernel
theorem dX9_add_20 : decode μX9_add.2.1 20 = .ok (.aload_n 0, 1) := by decide +kernel
theorem dX9_add_21 : decode μX9_add.2.1 21 = .ok (.dup, 1) := by decide +kernel
theorem dX9_add_22 : decode μX9_add.2.1 22 = .ok (.getfield 205, 3) := by decide +kernel
theorem dX9_add_25 : decode μX9_add.2.1 25 = .ok (.iconst 1, 1) := by decide +kernel
theorem dX9_add_26 : decode μX9_add.2.1 26 = .ok (.iadd, 1) := by decide +kernel
theorem dX9_add_27 : decode μX9_add.2.1 27 = .ok (.putfield 205, 3) := by decide +kernel
theorem dX9_add_30 : decode μX9_add.2.1 30 = .ok (.return_, 1) := by decide +kernel
set_option maxRecDepth 20000 in
theorem sg_X9_add_0 {d : Nat} {x1 : Int32} {x2 : Int32} {M : Mem} {K : (Mem → Prop)}  (h : (vp_in (ri M 58 17) 320 ∧ ∀ M1, M1 = wi M 61 (nx (ri M 58 17)) x1 → (vp_in (ri M1 58 17) 320 ∧ ∀ M2, M2 = wi M1 62 (nx (ri M1 58 17)) x2 → (∀ M3, M3 = wi M2 58 17 ((ri M2 58 17) + 1) → K M3)))) : CV d μX9_add [.ref 58, .int x1, .int x2] M K := by
  show Rn d μX9_add 0 [(0, .ref 58), (1, .int x1), (2, .int x2)] [] M _
  refine rn_aload_n (i := 0) (x := 58) dX9_add_0 rfl (by simp) ?_
  refine rn_getr (t := 61) dX9_add_1 rfl gf_X9_21 rfl rfl ?_
  refine rn_aload_n (i := 0) (x := 58) dX9_add_4 rfl (by simp) ?_
  refine rn_geti dX9_add_5 rfl gf_X9_205 (by decide) ?_
  refine rn_iload_n (i := 1) (x := x1) dX9_add_8 rfl (by simp) ?_
  obtain ⟨hi, h⟩ := h
  have h := h _ rfl
  refine rn_iastore dX9_add_9 rfl hi ?_
  generalize wi M 61 (nx (ri M 58 17)) x1 = M1 at h ⊢
  refine rn_aload_n (i := 0) (x := 58) dX9_add_10 rfl (by simp) ?_
  refine rn_getr (t := 62) dX9_add_11 rfl gf_X9_24 rfl rfl ?_
  refine rn_aload_n (i := 0) (x := 58) dX9_add_14 rfl (by simp) ?_
  refine rn_geti dX9_add_15 rfl gf_X9_205 (by decide) ?_
  refine rn_iload_n (i := 2) (x := x2) dX9_add_18 rfl (by simp) ?_
  obtain ⟨hi, h⟩ := h
  have h := h _ rfl
  refine rn_iastore dX9_add_19 rfl hi ?_
  generalize wi M1 62 (nx (ri M1 58 17)) x2 = M2 at h ⊢
  refine rn_aload_n (i := 0) (x := 58) dX9_add_20 rfl (by simp) ?_
  refine rn_dup dX9_add_21 rfl ?_
  refine rn_geti dX9_add_22 rfl gf_X9_205 (by decide) ?_
  refine rn_iconst (v := 1) dX9_add_25 rfl ?_
  refine rn_iadd dX9_add_26 ?_
  have h := h _ rfl
  refine rn_puti dX9_add_27 rfl pf_X9_205 (by decide) rfl rfl ?_
  generalize wi M2 58 17 ((ri M2 58 17) + 1) = M3 at h ⊢
  exact rn_ret dX9_add_30 rfl ⟨rfl, h⟩
theorem dX9_tight_0 : decode μX9_tight.2.1 0 = .ok (.iload_n 0, 1) := by decide +kernel
theorem dX9_tight_1 : decode μX9_tight.2.1 1 = .ok (.lookupswitch 85 #[(21, 79), (38, 77), (43, 83), (45, 83), (60, 81), (61, 81), (62, 81), (124, 75)], 75) := by decide +kernel
theorem dX9_tight_76 : decode μX9_tight.2.1 76 = .ok (.iconst 1, 1) := by decide +kernel
theorem dX9_tight_77 : decode μX9_tight.2.1 77 = .ok (.ireturn, 1) := by decide +kernel
theorem dX9_tight_78 : decode μX9_tight.2.1 78 = .ok (.iconst 2, 1) := by decide +kernel
theorem dX9_tight_79 : decode μX9_tight.2.1 79 = .ok (.ireturn, 1) := by decide +kernel
theorem dX9_tight_80 : decode μX9_tight.2.1 80 = .ok (.iconst 3, 1) := by decide +kernel
theorem dX9_tight_81 : decode μX9_tight.2.1 81 = .ok (.ireturn, 1) := by decide +kernel
theorem dX9_tight_82 : decode μX9_tight.2.1 82 = .ok (.iconst 4, 1) := by decide +kernel
theorem dX9_tight_83 : decode μX9_tight.2.1 83 = .ok (.ireturn, 1) := by decide +kernel
theorem dX9_tight_84 : decode μX9_tight.2.1 84 = .ok (.iconst 5, 1) := by decide +kernel
theorem dX9_tight_85 : decode μX9_tight.2.1 85 = .ok (.ireturn, 1) := by decide +kernel
theorem dX9_tight_86 : decode μX9_tight.2.1 86 = .ok (.bipush 6, 2) := by decide +kernel
theorem dX9_tight_88 : decode μX9_tight.2.1 88 = .ok (.ireturn, 1) := by decide +kernel
set_option maxRecDepth 20000 in
theorem sg_X9_tight_0 {d : Nat} {x0 : Int32} {M : Mem} {K : (Int32 → Mem → Prop)}  (h : ((x0 = 21 → K 3 M) ∧ (x0 = 38 → K 2 M) ∧ (x0 = 43 → K 5 M) ∧ (x0 = 45 → K 5 M) ∧ (x0 = 60 → K 4 M) ∧ (x0 = 61 → K 4 M) ∧ (x0 = 62 → K 4 M) ∧ (x0 = 124 → K 1 M) ∧ (¬ x0 = 21 ∧ ¬ x0 = 38 ∧ ¬ x0 = 43 ∧ ¬ x0 = 45 ∧ ¬ x0 = 60 ∧ ¬ x0 = 61 ∧ ¬ x0 = 62 ∧ ¬ x0 = 124 → K 6 M))) : CI d μX9_tight [.int x0] M K := by
  show Rn d μX9_tight 0 [(0, .int x0)] [] M _
  refine rn_iload_n (i := 0) (x := x0) dX9_tight_0 rfl (by simp) ?_
  by_cases hv0 : x0 = 21
  · have h := h.1 hv0
    refine rn_lswitch (tgt := 80) dX9_tight_1 rfl (by rw [hv0]; try rfl) (by decide) ?_
    refine rn_iconst (v := 3) dX9_tight_80 rfl ?_
    exact rn_iret dX9_tight_81 rfl ⟨_, rfl, h⟩
  by_cases hv1 : x0 = 38
  · have h := h.2.1 hv1
    refine rn_lswitch (tgt := 78) dX9_tight_1 rfl (by rw [hv1]; try rfl) (by decide) ?_
    refine rn_iconst (v := 2) dX9_tight_78 rfl ?_
    exact rn_iret dX9_tight_79 rfl ⟨_, rfl, h⟩
  by_cases hv2 : x0 = 43
  · have h := h.2.2.1 hv2
    refine rn_lswitch (tgt := 84) dX9_tight_1 rfl (by rw [hv2]; try rfl) (by decide) ?_
    refine rn_iconst (v := 5) dX9_tight_84 rfl ?_
    exact rn_iret dX9_tight_85 rfl ⟨_, rfl, h⟩
  by_cases hv3 : x0 = 45
  · have h := h.2.2.2.1 hv3
    refine rn_lswitch (tgt := 84) dX9_tight_1 rfl (by rw [hv3]; try rfl) (by decide) ?_
    refine rn_iconst (v := 5) dX9_tight_84 rfl ?_
    exact rn_iret dX9_tight_85 rfl ⟨_, rfl, h⟩
  by_cases hv4 : x0 = 60
  · have h := h.2.2.2.2.1 hv4
    refine rn_lswitch (tgt := 82) dX9_tight_1 rfl (by rw [hv4]; try rfl) (by decide) ?_
    refine rn_iconst (v := 4) dX9_tight_82 rfl ?_
    exact rn_iret dX9_tight_83 rfl ⟨_, rfl, h⟩
  by_cases hv5 : x0 = 61
  · have h := h.2.2.2.2.2.1 hv5
    refine rn_lswitch (tgt := 82) dX9_tight_1 rfl (by rw [hv5]; try rfl) (by decide) ?_
    refine rn_iconst (v := 4) dX9_tight_82 rfl ?_
    exact rn_iret dX9_tight_83 rfl ⟨_, rfl, h⟩
  by_cases hv6 : x0 = 62
  · have h := h.2.2.2.2.2.2.1 hv6
    refine rn_lswitch (tgt := 82) dX9_tight_1 rfl (by rw [hv6]; try rfl) (by decide) ?_
    refine rn_iconst (v := 4) dX9_tight_82 rfl ?_
    exact rn_iret dX9_tight_83 rfl ⟨_, rfl, h⟩
  by_cases hv7 : x0 = 124
  · have h := h.2.2.2.2.2.2.2.1 hv7
    refine rn_lswitch (tgt := 76) dX9_tight_1 rfl (by rw [hv7]; try rfl) (by decide) ?_
    refine rn_iconst (v := 1) dX9_tight_76 rfl ?_
    exact rn_iret dX9_tight_77 rfl ⟨_, rfl, h⟩
  have h := h.2.2.2.2.2.2.2.2 ⟨hv0, hv1, hv2, hv3, hv4, hv5, hv6, hv7⟩
  refine rn_lswitch (tgt := 86) (off := 85) dX9_tight_1 rfl (by refine (lv_osw hv0 rfl).trans ?_; refine (lv_osw hv1 rfl).trans ?_; refine (lv_osw hv2 rfl).trans ?_; refine (lv_osw hv3 rfl).trans ?_; refine (lv_osw hv4 rfl).trans ?_; refine (lv_osw hv5 rfl).trans ?_; refine (lv_osw hv6 rfl).trans ?_; refine (lv_osw hv7 rfl).trans ?_; rfl) (by decide) ?_
  refine rn_bipush (v := 6) dX9_tight_86 rfl ?_
  exact rn_iret dX9_tight_88 rfl ⟨_, rfl, h⟩
theorem dX9_close_0 : decode μX9_close.2.1 0 = .ok (.aload_n 0, 1) := by decide +kernel
theorem dX9_close_1 : decode μX9_close.2.1 1 = .ok (.getfield 208, 3) := by decide +kernel
theorem dX9_close_4 : decode μX9_close.2.1 4 = .ok (.ifCond .le 97, 3) := by decide +kernel
theorem dX9_close_7 : decode μX9_close.2.1 7 = .ok (.aload_n 0, 1) := by decide +kernel
theorem dX9_close_8 : decode μX9_close.2.1 8 = .ok (.getfield 33, 3) := by decide +kernel
theorem dX9_close_11 : decode μX9_close.2.1 11 = .ok (.aload_n 0, 1) := by decide +kernel
theorem dX9_close_12 : decode μX9_close.2.1 12 = .ok (.getfield 208, 3) := by decide +kernel
theorem dX9_close_15 : decode μX9_close.2.1 15 = .ok (.iconst 1, 1) := by decide +kernel
theorem dX9_close_16 : decode μX9_close.2.1 16 = .ok (.isub, 1) := by decide +kernel
theorem dX9_close_17 : decode μX9_close.2.1 17 = .ok (.iaload, 1) := by decide +kernel
theorem dX9_close_18 : decode μX9_close.2.1 18 = .ok (.bipush 20, 2) := by decide +kernel
theorem dX9_close_20 : decode μX9_close.2.1 20 = .ok (.if_icmp .eq 81, 3) := by decide +kernel
theorem dX9_close_23 : decode μX9_close.2.1 23 = .ok (.aload_n 0, 1) := by decide +kernel
theorem dX9_close_24 : decode μX9_close.2.1 24 = .ok (.getfield 33, 3) := by decide +kernel
theorem dX9_close_27 : decode μX9_close.2.1 27 = .ok (.aload_n 0, 1) := by decide +kernel
theorem dX9_close_28 : decode μX9_close.2.1 28 = .ok (.getfield 208, 3) := by decide +kernel
theorem dX9_close_31 : decode μX9_close.2.1 31 = .ok (.iconst 1, 1) := by decide +kernel
theorem dX9_close_32 : decode μX9_close.2.1 32 = .ok (.isub, 1) := by decide +kernel
theorem dX9_close_33 : decode μX9_close.2.1 33 = .ok (.iaload, 1) := by decide +kernel
theorem dX9_close_34 : decode μX9_close.2.1 34 = .ok (.invokestatic 211, 3) := by decide +kernel
theorem dX9_close_37 : decode μX9_close.2.1 37 = .ok (.iload_n 1, 1) := by decide +kernel
theorem dX9_close_38 : decode μX9_close.2.1 38 = .ok (.if_icmp .lt 63, 3) := by decide +kernel
theorem dX9_close_41 : decode μX9_close.2.1 41 = .ok (.aload_n 0, 1) := by decide +kernel
theorem dX9_close_42 : decode μX9_close.2.1 42 = .ok (.dup, 1) := by decide +kernel
theorem dX9_close_43 : decode μX9_close.2.1 43 = .ok (.getfield 208, 3) := by decide +kernel
theorem dX9_close_46 : decode μX9_close.2.1 46 = .ok (.iconst 1, 1) := by decide +kernel
theorem dX9_close_47 : decode μX9_close.2.1 47 = .ok (.isub, 1) := by decide +kernel
theorem dX9_close_48 : decode μX9_close.2.1 48 = .ok (.putfield 208, 3) := by decide +kernel
theorem dX9_close_51 : decode μX9_close.2.1 51 = .ok (.aload_n 0, 1) := by decide +kernel
theorem dX9_close_52 : decode μX9_close.2.1 52 = .ok (.getfield 33, 3) := by decide +kernel
theorem dX9_close_55 : decode μX9_close.2.1 55 = .ok (.aload_n 0, 1) := by decide +kernel
theorem dX9_close_56 : decode μX9_close.2.1 56 = .ok (.getfield 208, 3) := by decide +kernel
theorem dX9_close_59 : decode μX9_close.2.1 59 = .ok (.iaload, 1) := by decide +kernel
theorem dX9_close_60 : decode μX9_close.2.1 60 = .ok (.bipush 21, 2) := by decide +kernel
theorem dX9_close_62 : decode μX9_close.2.1 62 = .ok (.if_icmp .ne 22, 3) := by decide +kernel
theorem dX9_close_65 : decode μX9_close.2.1 65 = .ok (.aload_n 0, 1) := by decide +kernel
theorem dX9_close_66 : decode μX9_close.2.1 66 = .ok (.iconst 2, 1) := by decide +kernel
theorem dX9_close_67 : decode μX9_close.2.1 67 = .ok (.iconst 0, 1) := by decide +kernel
theorem dX9_close_68 : decode μX9_close.2.1 68 = .ok (.invokevirtual 214, 3) := by decide +kernel
theorem dX9_close_71 : decode μX9_close.2.1 71 = .ok (.aload_n 0, 1) := by decide +kernel
theorem dX9_close_72 : decode μX9_close.2.1 72 = .ok (.dup, 1) := by decide +kernel
theorem dX9_close_73 : decode μX9_close.2.1 73 = .ok (.getfield 218, 3) := by decide +kernel
theorem dX9_close_76 : decode μX9_close.2.1 76 = .ok (.iconst 1, 1) := by decide +kernel
theorem dX9_close_77 : decode μX9_close.2.1 77 = .ok (.isub, 1) := by decide +kernel
theorem dX9_close_78 : decode μX9_close.2.1 78 = .ok (.putfield 218, 3) := by decide +kernel
theorem dX9_close_81 : decode μX9_close.2.1 81 = .ok (.goto (-81), 3) := by decide +kernel
theorem dX9_close_84 : decode μX9_close.2.1 84 = .ok (.aload_n 0, 1) := by decide +kernel
theorem dX9_close_85 : decode μX9_close.2.1 85 = .ok (.iconst 3, 1) := by decide +kernel
theorem dX9_close_86 : decode μX9_close.2.1 86 = .ok (.aload_n 0, 1) := by decide +kernel
theorem dX9_close_87 : decode μX9_close.2.1 87 = .ok (.getfield 33, 3) := by decide +kernel
theorem dX9_close_90 : decode μX9_close.2.1 90 = .ok (.aload_n 0, 1) := by decide +kernel
theorem dX9_close_91 : decode μX9_close.2.1 91 = .ok (.getfield 208, 3) := by decide +kernel
theorem dX9_close_94 : decode μX9_close.2.1 94 = .ok (.iaload, 1) := by decide +kernel
theorem dX9_close_95 : decode μX9_close.2.1 95 = .ok (.invokevirtual 214, 3) := by decide +kernel
theorem dX9_close_98 : decode μX9_close.2.1 98 = .ok (.goto (-98), 3) := by decide +kernel
theorem dX9_close_101 : decode μX9_close.2.1 101 = .ok (.return_, 1) := by decide +kernel
set_option maxRecDepth 20000 in
theorem sg_X9_close_0 {d : Nat} {x1 : Int32} {M : Mem} {K : (Mem → Prop)}  (h : (if ri M 58 19 ≤ 0 then K M else (vp_in ((ri M 58 19) - 1) 160 ∧ (if ri M 65 (nx ((ri M 58 19) - 1)) = 20 then K M else (vp_in ((ri M 58 19) - 1) 160 ∧ (CI d μX9_tight [.int (ri M 65 (nx ((ri M 58 19) - 1)))] M (fun r2 M1 => (if r2 < x1 then K M1 else (∀ M3, M3 = wi M1 58 19 ((ri M1 58 19) - 1) → (vp_in (ri M3 58 19) 160 ∧ (if ri M3 65 (nx (ri M3 58 19)) = 21 then (CV d μX9_add [.ref 58, .int 2, .int 0] M3 (fun M4 => (∀ M5, M5 = wi M4 58 23 ((ri M4 58 23) - 1) → RV (d + 1) μX9_close 0 [(0, .ref 58), (1, .int x1)] [] M5 K))) else (vp_in (ri M3 58 19) 160 ∧ (CV d μX9_add [.ref 58, .int 3, .int (ri M3 65 (nx (ri M3 58 19)))] M3 (fun M6 => RV (d + 1) μX9_close 0 [(0, .ref 58), (1, .int x1)] [] M6 K)))))))))))))) : CV (d + 1) μX9_close [.ref 58, .int x1] M K := by
  show Rn (d + 1) μX9_close 0 [(0, .ref 58), (1, .int x1)] [] M _
  refine rn_aload_n (i := 0) (x := 58) dX9_close_0 rfl (by simp) ?_
  refine rn_geti dX9_close_1 rfl gf_X9_208 (by decide) ?_
  refine rn_if_le (tgt := 101) dX9_close_4 (by decide) (ite_go h (fun hc h => ?_) (fun hc h => ?_))
  · exact rn_ret dX9_close_101 rfl ⟨rfl, h⟩
  · refine rn_aload_n (i := 0) (x := 58) dX9_close_7 rfl (by simp) ?_
    refine rn_getr (t := 65) dX9_close_8 rfl gf_X9_33 rfl rfl ?_
    refine rn_aload_n (i := 0) (x := 58) dX9_close_11 rfl (by simp) ?_
    refine rn_geti dX9_close_12 rfl gf_X9_208 (by decide) ?_
    refine rn_iconst (v := 1) dX9_close_15 rfl ?_
    refine rn_isub dX9_close_16 ?_
    obtain ⟨hi, h⟩ := h
    refine rn_iaload dX9_close_17 rfl hi ?_
    refine rn_bipush (v := 20) dX9_close_18 rfl ?_
    refine rn_icmp_eq (tgt := 101) dX9_close_20 (by decide) (ite_go h (fun hc h => ?_) (fun hc h => ?_))
    · exact rn_ret dX9_close_101 rfl ⟨rfl, h⟩
    · refine rn_aload_n (i := 0) (x := 58) dX9_close_23 rfl (by simp) ?_
      refine rn_getr (t := 65) dX9_close_24 rfl gf_X9_33 rfl rfl ?_
      refine rn_aload_n (i := 0) (x := 58) dX9_close_27 rfl (by simp) ?_
      refine rn_geti dX9_close_28 rfl gf_X9_208 (by decide) ?_
      refine rn_iconst (v := 1) dX9_close_31 rfl ?_
      refine rn_isub dX9_close_32 ?_
      obtain ⟨hi, h⟩ := h
      refine rn_iaload dX9_close_33 rfl hi ?_
      refine rn_callSi (as := [.int (ri M 65 (nx ((ri M 58 19) - 1)))]) (st := []) dX9_close_34 mf_X9_tight lk_X9_211 sm_X9_tight rfl (Nat.le_of_ble_eq_true rfl) (Nat.le_of_ble_eq_true rfl) rfl (RI.mono h (fun r2 M1 h => ?_))
      refine rn_iload_n (i := 1) (x := x1) dX9_close_37 rfl (by simp) ?_
      refine rn_icmp_lt (tgt := 101) dX9_close_38 (by decide) (ite_go h (fun hc h => ?_) (fun hc h => ?_))
      · exact rn_ret dX9_close_101 rfl ⟨rfl, h⟩
      · refine rn_aload_n (i := 0) (x := 58) dX9_close_41 rfl (by simp) ?_
        refine rn_dup dX9_close_42 rfl ?_
        refine rn_geti dX9_close_43 rfl gf_X9_208 (by decide) ?_
        refine rn_iconst (v := 1) dX9_close_46 rfl ?_
        refine rn_isub dX9_close_47 ?_
        have h := h _ rfl
        refine rn_puti dX9_close_48 rfl pf_X9_208 (by decide) rfl rfl ?_
        generalize wi M1 58 19 ((ri M1 58 19) - 1) = M3 at h ⊢
        refine rn_aload_n (i := 0) (x := 58) dX9_close_51 rfl (by simp) ?_
        refine rn_getr (t := 65) dX9_close_52 rfl gf_X9_33 rfl rfl ?_
        refine rn_aload_n (i := 0) (x := 58) dX9_close_55 rfl (by simp) ?_
        refine rn_geti dX9_close_56 rfl gf_X9_208 (by decide) ?_
        obtain ⟨hi, h⟩ := h
        refine rn_iaload dX9_close_59 rfl hi ?_
        refine rn_bipush (v := 21) dX9_close_60 rfl ?_
        refine rn_icmp_ne (tgt := 84) dX9_close_62 (by decide) (ite_go h (fun hc h => ?_) (fun hc h => ?_))
        · refine rn_aload_n (i := 0) (x := 58) dX9_close_65 rfl (by simp) ?_
          refine rn_iconst (v := 2) dX9_close_66 rfl ?_
          refine rn_iconst (v := 0) dX9_close_67 rfl ?_
          refine rn_callVv (as := [.int 2, .int 0]) (st := []) dX9_close_68 mf_X9_add lk_X9_214 im_X9_add rfl rfl rfl rfl (Nat.le_of_ble_eq_true rfl) (Nat.le_of_ble_eq_true rfl) rfl (RV.mono h (fun M4 h => ?_))
          refine rn_aload_n (i := 0) (x := 58) dX9_close_71 rfl (by simp) ?_
          refine rn_dup dX9_close_72 rfl ?_
          refine rn_geti dX9_close_73 rfl gf_X9_218 (by decide) ?_
          refine rn_iconst (v := 1) dX9_close_76 rfl ?_
          refine rn_isub dX9_close_77 ?_
          have h := h _ rfl
          refine rn_puti dX9_close_78 rfl pf_X9_218 (by decide) rfl rfl ?_
          generalize wi M4 58 23 ((ri M4 58 23) - 1) = M5 at h ⊢
          refine rn_goto (tgt := 0) dX9_close_81 (by decide) ?_
          exact h
        · refine rn_aload_n (i := 0) (x := 58) dX9_close_84 rfl (by simp) ?_
          refine rn_iconst (v := 3) dX9_close_85 rfl ?_
          refine rn_aload_n (i := 0) (x := 58) dX9_close_86 rfl (by simp) ?_
          refine rn_getr (t := 65) dX9_close_87 rfl gf_X9_33 rfl rfl ?_
          refine rn_aload_n (i := 0) (x := 58) dX9_close_90 rfl (by simp) ?_
          refine rn_geti dX9_close_91 rfl gf_X9_208 (by decide) ?_
          obtain ⟨hi, h⟩ := h
          refine rn_iaload dX9_close_94 rfl hi ?_
          refine rn_callVv (as := [.int 3, .int (ri M3 65 (nx (ri M3 58 19)))]) (st := []) dX9_close_95 mf_X9_add lk_X9_214 im_X9_add rfl rfl rfl rfl (Nat.le_of_ble_eq_true rfl) (Nat.le_of_ble_eq_true rfl) rfl (RV.mono h (fun M6 h => ?_))
          refine rn_goto (tgt := 0) dX9_close_98 (by decide) ?_
          exact h
theorem dX9_hasRelation_0 : decode μX9_hasRelation.2.1 0 = .ok (.aload_n 0, 1) := by decide +kernel
theorem dX9_hasRelation_1 : decode μX9_hasRelation.2.1 1 = .ok (.getfield 208, 3) := by decide +kernel
theorem dX9_hasRelation_4 : decode μX9_hasRelation.2.1 4 = .ok (.iconst 1, 1) := by decide +kernel
theorem dX9_hasRelation_5 : decode μX9_hasRelation.2.1 5 = .ok (.isub, 1) := by decide +kernel
theorem dX9_hasRelation_6 : decode μX9_hasRelation.2.1 6 = .ok (.istore_n 1, 1) := by decide +kernel
theorem dX9_hasRelation_7 : decode μX9_hasRelation.2.1 7 = .ok (.iload_n 1, 1) := by decide +kernel
theorem dX9_hasRelation_8 : decode μX9_hasRelation.2.1 8 = .ok (.ifCond .lt 33, 3) := by decide +kernel
theorem dX9_hasRelation_11 : decode μX9_hasRelation.2.1 11 = .ok (.aload_n 0, 1) := by decide +kernel
theorem dX9_hasRelation_12 : decode μX9_hasRelation.2.1 12 = .ok (.getfield 33, 3) := by decide +kernel
theorem dX9_hasRelation_15 : decode μX9_hasRelation.2.1 15 = .ok (.iload_n 1, 1) := by decide +kernel
theorem dX9_hasRelation_16 : decode μX9_hasRelation.2.1 16 = .ok (.iaload, 1) := by decide +kernel
theorem dX9_hasRelation_17 : decode μX9_hasRelation.2.1 17 = .ok (.bipush 20, 2) := by decide +kernel
theorem dX9_hasRelation_19 : decode μX9_hasRelation.2.1 19 = .ok (.if_icmp .eq 22, 3) := by decide +kernel
theorem dX9_hasRelation_22 : decode μX9_hasRelation.2.1 22 = .ok (.aload_n 0, 1) := by decide +kernel
theorem dX9_hasRelation_23 : decode μX9_hasRelation.2.1 23 = .ok (.getfield 33, 3) := by decide +kernel
theorem dX9_hasRelation_26 : decode μX9_hasRelation.2.1 26 = .ok (.iload_n 1, 1) := by decide +kernel
theorem dX9_hasRelation_27 : decode μX9_hasRelation.2.1 27 = .ok (.iaload, 1) := by decide +kernel
theorem dX9_hasRelation_28 : decode μX9_hasRelation.2.1 28 = .ok (.invokestatic 211, 3) := by decide +kernel
theorem dX9_hasRelation_31 : decode μX9_hasRelation.2.1 31 = .ok (.iconst 4, 1) := by decide +kernel
theorem dX9_hasRelation_32 : decode μX9_hasRelation.2.1 32 = .ok (.if_icmp .le 9, 3) := by decide +kernel
theorem dX9_hasRelation_35 : decode μX9_hasRelation.2.1 35 = .ok (.iinc 1 (-1), 3) := by decide +kernel
theorem dX9_hasRelation_38 : decode μX9_hasRelation.2.1 38 = .ok (.goto (-31), 3) := by decide +kernel
theorem dX9_hasRelation_41 : decode μX9_hasRelation.2.1 41 = .ok (.iload_n 1, 1) := by decide +kernel
theorem dX9_hasRelation_42 : decode μX9_hasRelation.2.1 42 = .ok (.ifCond .lt 31, 3) := by decide +kernel
theorem dX9_hasRelation_45 : decode μX9_hasRelation.2.1 45 = .ok (.aload_n 0, 1) := by decide +kernel
theorem dX9_hasRelation_46 : decode μX9_hasRelation.2.1 46 = .ok (.getfield 33, 3) := by decide +kernel
theorem dX9_hasRelation_49 : decode μX9_hasRelation.2.1 49 = .ok (.iload_n 1, 1) := by decide +kernel
theorem dX9_hasRelation_50 : decode μX9_hasRelation.2.1 50 = .ok (.iaload, 1) := by decide +kernel
theorem dX9_hasRelation_51 : decode μX9_hasRelation.2.1 51 = .ok (.bipush 20, 2) := by decide +kernel
theorem dX9_hasRelation_53 : decode μX9_hasRelation.2.1 53 = .ok (.if_icmp .eq 20, 3) := by decide +kernel
theorem dX9_hasRelation_56 : decode μX9_hasRelation.2.1 56 = .ok (.aload_n 0, 1) := by decide +kernel
theorem dX9_hasRelation_57 : decode μX9_hasRelation.2.1 57 = .ok (.getfield 33, 3) := by decide +kernel
theorem dX9_hasRelation_60 : decode μX9_hasRelation.2.1 60 = .ok (.iload_n 1, 1) := by decide +kernel
theorem dX9_hasRelation_61 : decode μX9_hasRelation.2.1 61 = .ok (.iaload, 1) := by decide +kernel
theorem dX9_hasRelation_62 : decode μX9_hasRelation.2.1 62 = .ok (.invokestatic 211, 3) := by decide +kernel
theorem dX9_hasRelation_65 : decode μX9_hasRelation.2.1 65 = .ok (.iconst 4, 1) := by decide +kernel
theorem dX9_hasRelation_66 : decode μX9_hasRelation.2.1 66 = .ok (.if_icmp .ne 7, 3) := by decide +kernel
theorem dX9_hasRelation_69 : decode μX9_hasRelation.2.1 69 = .ok (.iconst 1, 1) := by decide +kernel
theorem dX9_hasRelation_70 : decode μX9_hasRelation.2.1 70 = .ok (.goto 4, 3) := by decide +kernel
theorem dX9_hasRelation_73 : decode μX9_hasRelation.2.1 73 = .ok (.iconst 0, 1) := by decide +kernel
theorem dX9_hasRelation_74 : decode μX9_hasRelation.2.1 74 = .ok (.ireturn, 1) := by decide +kernel
set_option maxRecDepth 20000 in
theorem sg_X9_hasRelation_0 {d : Nat}  {M : Mem} {K : (Int32 → Mem → Prop)}  (h : RI (d + 1) μX9_hasRelation 7 [(0, .ref 58), (1, .int ((ri M 58 19) - 1))] [] M K) : CI (d + 1) μX9_hasRelation [.ref 58] M K := by
  show Rn (d + 1) μX9_hasRelation 0 [(0, .ref 58)] [] M _
  refine rn_aload_n (i := 0) (x := 58) dX9_hasRelation_0 rfl (by simp) ?_
  refine rn_geti dX9_hasRelation_1 rfl gf_X9_208 (by decide) ?_
  refine rn_iconst (v := 1) dX9_hasRelation_4 rfl ?_
  refine rn_isub dX9_hasRelation_5 ?_
  refine rn_istore_n (lv' := [(0, .ref 58), (1, .int ((ri M 58 19) - 1))]) (hd := dX9_hasRelation_6) (i := 1) (hi := rfl) (hn := by decide) (hf := rfl) (hl := rfl) ?_
  exact h
set_option maxRecDepth 20000 in
theorem sg_X9_hasRelation_7 {d : Nat} {x1 : Int32} {M : Mem} {K : (Int32 → Mem → Prop)}  (h : (if x1 < 0 then RI (d + 1) μX9_hasRelation 41 [(0, .ref 58), (1, .int x1)] [] M K else (vp_in x1 160 ∧ (if ri M 65 (nx x1) = 20 then RI (d + 1) μX9_hasRelation 41 [(0, .ref 58), (1, .int x1)] [] M K else (vp_in x1 160 ∧ (CI d μX9_tight [.int (ri M 65 (nx x1))] M (fun r2 M1 => (if r2 ≤ 4 then RI (d + 1) μX9_hasRelation 41 [(0, .ref 58), (1, .int x1)] [] M1 K else RI (d + 1) μX9_hasRelation 7 [(0, .ref 58), (1, .int (x1 + (-1)))] [] M1 K)))))))) : RI (d + 1) μX9_hasRelation 7 [(0, .ref 58), (1, .int x1)] [] M K := by
  show Rn (d + 1) μX9_hasRelation 7 [(0, .ref 58), (1, .int x1)] [] M _
  refine rn_iload_n (i := 1) (x := x1) dX9_hasRelation_7 rfl (by simp) ?_
  refine rn_if_lt (tgt := 41) dX9_hasRelation_8 (by decide) (ite_go h (fun hc h => ?_) (fun hc h => ?_))
  · exact h
  · refine rn_aload_n (i := 0) (x := 58) dX9_hasRelation_11 rfl (by simp) ?_
    refine rn_getr (t := 65) dX9_hasRelation_12 rfl gf_X9_33 rfl rfl ?_
    refine rn_iload_n (i := 1) (x := x1) dX9_hasRelation_15 rfl (by simp) ?_
    obtain ⟨hi, h⟩ := h
    refine rn_iaload dX9_hasRelation_16 rfl hi ?_
    refine rn_bipush (v := 20) dX9_hasRelation_17 rfl ?_
    refine rn_icmp_eq (tgt := 41) dX9_hasRelation_19 (by decide) (ite_go h (fun hc h => ?_) (fun hc h => ?_))
    · exact h
    · refine rn_aload_n (i := 0) (x := 58) dX9_hasRelation_22 rfl (by simp) ?_
      refine rn_getr (t := 65) dX9_hasRelation_23 rfl gf_X9_33 rfl rfl ?_
      refine rn_iload_n (i := 1) (x := x1) dX9_hasRelation_26 rfl (by simp) ?_
      obtain ⟨hi, h⟩ := h
      refine rn_iaload dX9_hasRelation_27 rfl hi ?_
      refine rn_callSi (as := [.int (ri M 65 (nx x1))]) (st := []) dX9_hasRelation_28 mf_X9_tight lk_X9_211 sm_X9_tight rfl (Nat.le_of_ble_eq_true rfl) (Nat.le_of_ble_eq_true rfl) rfl (RI.mono h (fun r2 M1 h => ?_))
      refine rn_iconst (v := 4) dX9_hasRelation_31 rfl ?_
      refine rn_icmp_le (tgt := 41) dX9_hasRelation_32 (by decide) (ite_go h (fun hc h => ?_) (fun hc h => ?_))
      · exact h
      · refine rn_iinc (x := x1) (v := x1 + (-1)) (lv' := [(0, .ref 58), (1, .int (x1 + (-1)))]) dX9_hasRelation_35 (by simp) rfl (by decide) rfl rfl ?_
        refine rn_goto (tgt := 7) dX9_hasRelation_38 (by decide) ?_
        exact h
set_option maxRecDepth 20000 in
theorem sg_X9_hasRelation_41 {d : Nat} {x1 : Int32} {M : Mem} {K : (Int32 → Mem → Prop)}  (h : (if x1 < 0 then K 0 M else (vp_in x1 160 ∧ (if ri M 65 (nx x1) = 20 then K 0 M else (vp_in x1 160 ∧ (CI d μX9_tight [.int (ri M 65 (nx x1))] M (fun r2 M1 => (if r2 = 4 then K 1 M1 else K 0 M1)))))))) : RI (d + 1) μX9_hasRelation 41 [(0, .ref 58), (1, .int x1)] [] M K := by
  show Rn (d + 1) μX9_hasRelation 41 [(0, .ref 58), (1, .int x1)] [] M _
  refine rn_iload_n (i := 1) (x := x1) dX9_hasRelation_41 rfl (by simp) ?_
  refine rn_if_lt (tgt := 73) dX9_hasRelation_42 (by decide) (ite_go h (fun hc h => ?_) (fun hc h => ?_))
  · refine rn_iconst (v := 0) dX9_hasRelation_73 rfl ?_
    exact rn_zret dX9_hasRelation_74 rfl (by decide) ⟨_, rfl, h⟩
  · refine rn_aload_n (i := 0) (x := 58) dX9_hasRelation_45 rfl (by simp) ?_
    refine rn_getr (t := 65) dX9_hasRelation_46 rfl gf_X9_33 rfl rfl ?_
    refine rn_iload_n (i := 1) (x := x1) dX9_hasRelation_49 rfl (by simp) ?_
    obtain ⟨hi, h⟩ := h
    refine rn_iaload dX9_hasRelation_50 rfl hi ?_
    refine rn_bipush (v := 20) dX9_hasRelation_51 rfl ?_
    refine rn_icmp_eq (tgt := 73) dX9_hasRelation_53 (by decide) (ite_go h (fun hc h => ?_) (fun hc h => ?_))
    · refine rn_iconst (v := 0) dX9_hasRelation_73 rfl ?_
      exact rn_zret dX9_hasRelation_74 rfl (by decide) ⟨_, rfl, h⟩
    · refine rn_aload_n (i := 0) (x := 58) dX9_hasRelation_56 rfl (by simp) ?_
      refine rn_getr (t := 65) dX9_hasRelation_57 rfl gf_X9_33 rfl rfl ?_
      refine rn_iload_n (i := 1) (x := x1) dX9_hasRelation_60 rfl (by simp) ?_
      obtain ⟨hi, h⟩ := h
      refine rn_iaload dX9_hasRelation_61 rfl hi ?_
      refine rn_callSi (as := [.int (ri M 65 (nx x1))]) (st := []) dX9_hasRelation_62 mf_X9_tight lk_X9_211 sm_X9_tight rfl (Nat.le_of_ble_eq_true rfl) (Nat.le_of_ble_eq_true rfl) rfl (RI.mono h (fun r2 M1 h => ?_))
      refine rn_iconst (v := 4) dX9_hasRelation_65 rfl ?_
      refine rn_icmp_ne (tgt := 73) dX9_hasRelation_66 (by decide) (ite_go h (fun hc h => ?_) (fun hc h => ?_))
      · refine rn_iconst (v := 1) dX9_hasRelation_69 rfl ?_
        refine rn_goto (tgt := 74) dX9_hasRelation_70 (by decide) ?_
        exact rn_zret dX9_hasRelation_74 rfl (by decide) ⟨_, rfl, h⟩
      · refine rn_iconst (v := 0) dX9_hasRelation_73 rfl ?_
        exact rn_zret dX9_hasRelation_74 rfl (by decide) ⟨_, rfl, h⟩
theorem dX9_mayNot_0 : decode μX9_mayNot.2.1 0 = .ok (.aload_n 0, 1) := by decide +kernel
theorem dX9_mayNot_1 : decode μX9_mayNot.2.1 1 = .ok (.getfield 208, 3) := by decide +kernel
theorem dX9_mayNot_4 : decode μX9_mayNot.2.1 4 = .ok (.ifCond .eq 37, 3) := by decide +kernel
theorem dX9_mayNot_7 : decode μX9_mayNot.2.1 7 = .ok (.aload_n 0, 1) := by decide +kernel
theorem dX9_mayNot_8 : decode μX9_mayNot.2.1 8 = .ok (.getfield 33, 3) := by decide +kernel
theorem dX9_mayNot_11 : decode μX9_mayNot.2.1 11 = .ok (.aload_n 0, 1) := by decide +kernel
theorem dX9_mayNot_12 : decode μX9_mayNot.2.1 12 = .ok (.getfield 208, 3) := by decide +kernel
theorem dX9_mayNot_15 : decode μX9_mayNot.2.1 15 = .ok (.iconst 1, 1) := by decide +kernel
theorem dX9_mayNot_16 : decode μX9_mayNot.2.1 16 = .ok (.isub, 1) := by decide +kernel
theorem dX9_mayNot_17 : decode μX9_mayNot.2.1 17 = .ok (.iaload, 1) := by decide +kernel
theorem dX9_mayNot_18 : decode μX9_mayNot.2.1 18 = .ok (.bipush 20, 2) := by decide +kernel
theorem dX9_mayNot_20 : decode μX9_mayNot.2.1 20 = .ok (.if_icmp .eq 21, 3) := by decide +kernel
theorem dX9_mayNot_23 : decode μX9_mayNot.2.1 23 = .ok (.aload_n 0, 1) := by decide +kernel
theorem dX9_mayNot_24 : decode μX9_mayNot.2.1 24 = .ok (.getfield 33, 3) := by decide +kernel
theorem dX9_mayNot_27 : decode μX9_mayNot.2.1 27 = .ok (.aload_n 0, 1) := by decide +kernel
theorem dX9_mayNot_28 : decode μX9_mayNot.2.1 28 = .ok (.getfield 208, 3) := by decide +kernel
theorem dX9_mayNot_31 : decode μX9_mayNot.2.1 31 = .ok (.iconst 1, 1) := by decide +kernel
theorem dX9_mayNot_32 : decode μX9_mayNot.2.1 32 = .ok (.isub, 1) := by decide +kernel
theorem dX9_mayNot_33 : decode μX9_mayNot.2.1 33 = .ok (.iaload, 1) := by decide +kernel
theorem dX9_mayNot_34 : decode μX9_mayNot.2.1 34 = .ok (.invokestatic 211, 3) := by decide +kernel
theorem dX9_mayNot_37 : decode μX9_mayNot.2.1 37 = .ok (.iconst 4, 1) := by decide +kernel
theorem dX9_mayNot_38 : decode μX9_mayNot.2.1 38 = .ok (.if_icmp .ge 7, 3) := by decide +kernel
theorem dX9_mayNot_41 : decode μX9_mayNot.2.1 41 = .ok (.iconst 1, 1) := by decide +kernel
theorem dX9_mayNot_42 : decode μX9_mayNot.2.1 42 = .ok (.goto 4, 3) := by decide +kernel
theorem dX9_mayNot_45 : decode μX9_mayNot.2.1 45 = .ok (.iconst 0, 1) := by decide +kernel
theorem dX9_mayNot_46 : decode μX9_mayNot.2.1 46 = .ok (.ireturn, 1) := by decide +kernel
set_option maxRecDepth 20000 in
theorem sg_X9_mayNot_0 {d : Nat}  {M : Mem} {K : (Int32 → Mem → Prop)}  (h : (if ri M 58 19 = 0 then K 1 M else (vp_in ((ri M 58 19) - 1) 160 ∧ (if ri M 65 (nx ((ri M 58 19) - 1)) = 20 then K 1 M else (vp_in ((ri M 58 19) - 1) 160 ∧ (CI d μX9_tight [.int (ri M 65 (nx ((ri M 58 19) - 1)))] M (fun r2 M1 => (if 4 ≤ r2 then K 0 M1 else K 1 M1)))))))) : CI (d + 1) μX9_mayNot [.ref 58] M K := by
  show Rn (d + 1) μX9_mayNot 0 [(0, .ref 58)] [] M _
  refine rn_aload_n (i := 0) (x := 58) dX9_mayNot_0 rfl (by simp) ?_
  refine rn_geti dX9_mayNot_1 rfl gf_X9_208 (by decide) ?_
  refine rn_if_eq (tgt := 41) dX9_mayNot_4 (by decide) (ite_go h (fun hc h => ?_) (fun hc h => ?_))
  · refine rn_iconst (v := 1) dX9_mayNot_41 rfl ?_
    refine rn_goto (tgt := 46) dX9_mayNot_42 (by decide) ?_
    exact rn_zret dX9_mayNot_46 rfl (by decide) ⟨_, rfl, h⟩
  · refine rn_aload_n (i := 0) (x := 58) dX9_mayNot_7 rfl (by simp) ?_
    refine rn_getr (t := 65) dX9_mayNot_8 rfl gf_X9_33 rfl rfl ?_
    refine rn_aload_n (i := 0) (x := 58) dX9_mayNot_11 rfl (by simp) ?_
    refine rn_geti dX9_mayNot_12 rfl gf_X9_208 (by decide) ?_
    refine rn_iconst (v := 1) dX9_mayNot_15 rfl ?_
    refine rn_isub dX9_mayNot_16 ?_
    obtain ⟨hi, h⟩ := h
    refine rn_iaload dX9_mayNot_17 rfl hi ?_
    refine rn_bipush (v := 20) dX9_mayNot_18 rfl ?_
    refine rn_icmp_eq (tgt := 41) dX9_mayNot_20 (by decide) (ite_go h (fun hc h => ?_) (fun hc h => ?_))
    · refine rn_iconst (v := 1) dX9_mayNot_41 rfl ?_
      refine rn_goto (tgt := 46) dX9_mayNot_42 (by decide) ?_
      exact rn_zret dX9_mayNot_46 rfl (by decide) ⟨_, rfl, h⟩
    · refine rn_aload_n (i := 0) (x := 58) dX9_mayNot_23 rfl (by simp) ?_
      refine rn_getr (t := 65) dX9_mayNot_24 rfl gf_X9_33 rfl rfl ?_
      refine rn_aload_n (i := 0) (x := 58) dX9_mayNot_27 rfl (by simp) ?_
      refine rn_geti dX9_mayNot_28 rfl gf_X9_208 (by decide) ?_
      refine rn_iconst (v := 1) dX9_mayNot_31 rfl ?_
      refine rn_isub dX9_mayNot_32 ?_
      obtain ⟨hi, h⟩ := h
      refine rn_iaload dX9_mayNot_33 rfl hi ?_
      refine rn_callSi (as := [.int (ri M 65 (nx ((ri M 58 19) - 1)))]) (st := []) dX9_mayNot_34 mf_X9_tight lk_X9_211 sm_X9_tight rfl (Nat.le_of_ble_eq_true rfl) (Nat.le_of_ble_eq_true rfl) rfl (RI.mono h (fun r2 M1 h => ?_))
      refine rn_iconst (v := 4) dX9_mayNot_37 rfl ?_
      refine rn_icmp_ge (tgt := 45) dX9_mayNot_38 (by decide) (ite_go h (fun hc h => ?_) (fun hc h => ?_))
      · refine rn_iconst (v := 0) dX9_mayNot_45 rfl ?_
        exact rn_zret dX9_mayNot_46 rfl (by decide) ⟨_, rfl, h⟩
      · refine rn_iconst (v := 1) dX9_mayNot_41 rfl ?_
        refine rn_goto (tgt := 46) dX9_mayNot_42 (by decide) ?_
        exact rn_zret dX9_mayNot_46 rfl (by decide) ⟨_, rfl, h⟩
