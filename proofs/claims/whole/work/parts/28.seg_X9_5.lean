theorem dX9_layColours_0 : decode μX9_layColours.2.1 0 = .ok (.iload_n 2, 1) := by decide +kernel
theorem dX9_layColours_1 : decode μX9_layColours.2.1 1 = .ok (.istore_n 3, 1) := by decide +kernel
theorem dX9_layColours_2 : decode μX9_layColours.2.1 2 = .ok (.iconst 1, 1) := by decide +kernel
theorem dX9_layColours_3 : decode μX9_layColours.2.1 3 = .ok (.istore 4, 2) := by decide +kernel
theorem dX9_layColours_5 : decode μX9_layColours.2.1 5 = .ok (.aload_n 0, 1) := by decide +kernel
theorem dX9_layColours_6 : decode μX9_layColours.2.1 6 = .ok (.getfield 326, 3) := by decide +kernel
theorem dX9_layColours_9 : decode μX9_layColours.2.1 9 = .ok (.iconst 1, 1) := by decide +kernel
theorem dX9_layColours_10 : decode μX9_layColours.2.1 10 = .ok (.isub, 1) := by decide +kernel
theorem dX9_layColours_11 : decode μX9_layColours.2.1 11 = .ok (.istore 5, 2) := by decide +kernel
theorem dX9_layColours_13 : decode μX9_layColours.2.1 13 = .ok (.iload 5, 2) := by decide +kernel
theorem dX9_layColours_15 : decode μX9_layColours.2.1 15 = .ok (.ifCond .lt 109, 3) := by decide +kernel
theorem dX9_layColours_18 : decode μX9_layColours.2.1 18 = .ok (.aload_n 0, 1) := by decide +kernel
theorem dX9_layColours_19 : decode μX9_layColours.2.1 19 = .ok (.iload 5, 2) := by decide +kernel
theorem dX9_layColours_21 : decode μX9_layColours.2.1 21 = .ok (.invokevirtual 335, 3) := by decide +kernel
theorem dX9_layColours_24 : decode μX9_layColours.2.1 24 = .ok (.ifCond .ne 14, 3) := by decide +kernel
theorem dX9_layColours_27 : decode μX9_layColours.2.1 27 = .ok (.aload_n 0, 1) := by decide +kernel
theorem dX9_layColours_28 : decode μX9_layColours.2.1 28 = .ok (.getfield 60, 3) := by decide +kernel
theorem dX9_layColours_31 : decode μX9_layColours.2.1 31 = .ok (.iload 5, 2) := by decide +kernel
theorem dX9_layColours_33 : decode μX9_layColours.2.1 33 = .ok (.iconst (-1), 1) := by decide +kernel
theorem dX9_layColours_34 : decode μX9_layColours.2.1 34 = .ok (.iastore, 1) := by decide +kernel
theorem dX9_layColours_35 : decode μX9_layColours.2.1 35 = .ok (.goto 83, 3) := by decide +kernel
theorem dX9_layColours_38 : decode μX9_layColours.2.1 38 = .ok (.aload_n 0, 1) := by decide +kernel
theorem dX9_layColours_39 : decode μX9_layColours.2.1 39 = .ok (.getfield 60, 3) := by decide +kernel
theorem dX9_layColours_42 : decode μX9_layColours.2.1 42 = .ok (.iload 5, 2) := by decide +kernel
theorem dX9_layColours_44 : decode μX9_layColours.2.1 44 = .ok (.iload_n 3, 1) := by decide +kernel
theorem dX9_layColours_45 : decode μX9_layColours.2.1 45 = .ok (.iload_n 1, 1) := by decide +kernel
theorem dX9_layColours_46 : decode μX9_layColours.2.1 46 = .ok (.irem, 1) := by decide +kernel
theorem dX9_layColours_47 : decode μX9_layColours.2.1 47 = .ok (.iastore, 1) := by decide +kernel
theorem dX9_layColours_48 : decode μX9_layColours.2.1 48 = .ok (.iload_n 3, 1) := by decide +kernel
theorem dX9_layColours_49 : decode μX9_layColours.2.1 49 = .ok (.iload_n 1, 1) := by decide +kernel
theorem dX9_layColours_50 : decode μX9_layColours.2.1 50 = .ok (.idiv, 1) := by decide +kernel
theorem dX9_layColours_51 : decode μX9_layColours.2.1 51 = .ok (.istore_n 3, 1) := by decide +kernel
theorem dX9_layColours_52 : decode μX9_layColours.2.1 52 = .ok (.iload 5, 2) := by decide +kernel
theorem dX9_layColours_54 : decode μX9_layColours.2.1 54 = .ok (.iconst 1, 1) := by decide +kernel
theorem dX9_layColours_55 : decode μX9_layColours.2.1 55 = .ok (.iadd, 1) := by decide +kernel
theorem dX9_layColours_56 : decode μX9_layColours.2.1 56 = .ok (.istore 6, 2) := by decide +kernel
theorem dX9_layColours_58 : decode μX9_layColours.2.1 58 = .ok (.iload 6, 2) := by decide +kernel
theorem dX9_layColours_60 : decode μX9_layColours.2.1 60 = .ok (.aload_n 0, 1) := by decide +kernel
theorem dX9_layColours_61 : decode μX9_layColours.2.1 61 = .ok (.getfield 326, 3) := by decide +kernel
theorem dX9_layColours_64 : decode μX9_layColours.2.1 64 = .ok (.if_icmp .ge 54, 3) := by decide +kernel
theorem dX9_layColours_67 : decode μX9_layColours.2.1 67 = .ok (.iload 4, 2) := by decide +kernel
theorem dX9_layColours_69 : decode μX9_layColours.2.1 69 = .ok (.ifCond .eq 40, 3) := by decide +kernel
theorem dX9_layColours_72 : decode μX9_layColours.2.1 72 = .ok (.aload_n 0, 1) := by decide +kernel
theorem dX9_layColours_73 : decode μX9_layColours.2.1 73 = .ok (.getfield 63, 3) := by decide +kernel
theorem dX9_layColours_76 : decode μX9_layColours.2.1 76 = .ok (.iload 5, 2) := by decide +kernel
theorem dX9_layColours_78 : decode μX9_layColours.2.1 78 = .ok (.iaload, 1) := by decide +kernel
theorem dX9_layColours_79 : decode μX9_layColours.2.1 79 = .ok (.iload 6, 2) := by decide +kernel
theorem dX9_layColours_81 : decode μX9_layColours.2.1 81 = .ok (.ishr, 1) := by decide +kernel
theorem dX9_layColours_82 : decode μX9_layColours.2.1 82 = .ok (.iconst 1, 1) := by decide +kernel
theorem dX9_layColours_83 : decode μX9_layColours.2.1 83 = .ok (.iand, 1) := by decide +kernel
theorem dX9_layColours_84 : decode μX9_layColours.2.1 84 = .ok (.iconst 1, 1) := by decide +kernel
theorem dX9_layColours_85 : decode μX9_layColours.2.1 85 = .ok (.if_icmp .ne 20, 3) := by decide +kernel
theorem dX9_layColours_88 : decode μX9_layColours.2.1 88 = .ok (.aload_n 0, 1) := by decide +kernel
theorem dX9_layColours_89 : decode μX9_layColours.2.1 89 = .ok (.getfield 60, 3) := by decide +kernel
theorem dX9_layColours_92 : decode μX9_layColours.2.1 92 = .ok (.iload 5, 2) := by decide +kernel
theorem dX9_layColours_94 : decode μX9_layColours.2.1 94 = .ok (.iaload, 1) := by decide +kernel
theorem dX9_layColours_95 : decode μX9_layColours.2.1 95 = .ok (.aload_n 0, 1) := by decide +kernel
theorem dX9_layColours_96 : decode μX9_layColours.2.1 96 = .ok (.getfield 60, 3) := by decide +kernel
theorem dX9_layColours_99 : decode μX9_layColours.2.1 99 = .ok (.iload 6, 2) := by decide +kernel
theorem dX9_layColours_101 : decode μX9_layColours.2.1 101 = .ok (.iaload, 1) := by decide +kernel
theorem dX9_layColours_102 : decode μX9_layColours.2.1 102 = .ok (.if_icmp .eq 7, 3) := by decide +kernel
theorem dX9_layColours_105 : decode μX9_layColours.2.1 105 = .ok (.iconst 1, 1) := by decide +kernel
theorem dX9_layColours_106 : decode μX9_layColours.2.1 106 = .ok (.goto 4, 3) := by decide +kernel
theorem dX9_layColours_109 : decode μX9_layColours.2.1 109 = .ok (.iconst 0, 1) := by decide +kernel
theorem dX9_layColours_110 : decode μX9_layColours.2.1 110 = .ok (.istore 4, 2) := by decide +kernel
theorem dX9_layColours_112 : decode μX9_layColours.2.1 112 = .ok (.iinc 6 1, 3) := by decide +kernel
theorem dX9_layColours_115 : decode μX9_layColours.2.1 115 = .ok (.goto (-57), 3) := by decide +kernel
theorem dX9_layColours_118 : decode μX9_layColours.2.1 118 = .ok (.iinc 5 (-1), 3) := by decide +kernel
theorem dX9_layColours_121 : decode μX9_layColours.2.1 121 = .ok (.goto (-108), 3) := by decide +kernel
theorem dX9_layColours_124 : decode μX9_layColours.2.1 124 = .ok (.iload 4, 2) := by decide +kernel
theorem dX9_layColours_126 : decode μX9_layColours.2.1 126 = .ok (.ireturn, 1) := by decide +kernel
set_option maxRecDepth 20000 in
theorem sg_X9_layColours_0 {d : Nat} {x1 : Int32} {x2 : Int32} {M : Mem} {K : (Int32 → Mem → Prop)}  (h : RI (d + 1) μX9_layColours 13 [(0, .ref 58), (1, .int x1), (2, .int x2), (3, .int x2), (4, .int 1), (5, .int ((ri M 58 35) - 1))] [] M K) : CI (d + 1) μX9_layColours [.ref 58, .int x1, .int x2] M K := by
  show Rn (d + 1) μX9_layColours 0 [(0, .ref 58), (1, .int x1), (2, .int x2)] [] M _
  refine rn_iload_n (i := 2) (x := x2) dX9_layColours_0 rfl (by simp) ?_
  refine rn_istore_n (lv' := [(0, .ref 58), (1, .int x1), (2, .int x2), (3, .int x2)]) (hd := dX9_layColours_1) (i := 3) (hi := rfl) (hn := by decide) (hf := rfl) (hl := rfl) ?_
  refine rn_iconst (v := 1) dX9_layColours_2 rfl ?_
  refine rn_istore (lv' := [(0, .ref 58), (1, .int x1), (2, .int x2), (3, .int x2), (4, .int 1)]) (hd := dX9_layColours_3) (hn := by decide) (hf := rfl) (hl := rfl) ?_
  refine rn_aload_n (i := 0) (x := 58) dX9_layColours_5 rfl (by simp) ?_
  refine rn_geti dX9_layColours_6 rfl gf_X9_326 (by decide) ?_
  refine rn_iconst (v := 1) dX9_layColours_9 rfl ?_
  refine rn_isub dX9_layColours_10 ?_
  refine rn_istore (lv' := [(0, .ref 58), (1, .int x1), (2, .int x2), (3, .int x2), (4, .int 1), (5, .int ((ri M 58 35) - 1))]) (hd := dX9_layColours_11) (hn := by decide) (hf := rfl) (hl := rfl) ?_
  exact h
set_option maxRecDepth 20000 in
theorem sg_X9_layColours_13 {d : Nat} {x1 : Int32} {x2 : Int32} {x3 : Int32} {x4 : Int32} {x5 : Int32} {M : Mem} {K : (Int32 → Mem → Prop)}  (h : (if x5 < 0 then ((x4 = 0 ∨ x4 = 1) ∧ K x4 M) else (CI d μX9_isThere [.ref 58, .int x5] M (fun r2 M1 => (if r2 = 0 then (vp_in x5 8 ∧ ∀ M3, M3 = wi M1 74 (nx x5) ((-1)) → RI (d + 1) μX9_layColours 13 [(0, .ref 58), (1, .int x1), (2, .int x2), (3, .int x3), (4, .int x4), (5, .int (x5 + (-1)))] [] M3 K) else (¬ x1 = 0 ∧ (vp_in x5 8 ∧ ∀ M4, M4 = wi M1 74 (nx x5) (x3 - x3 / x1 * x1) → (¬ x1 = 0 ∧ RI (d + 1) μX9_layColours 58 [(0, .ref 58), (1, .int x1), (2, .int x2), (3, .int (x3 / x1)), (4, .int x4), (5, .int x5), (6, .int (x5 + 1))] [] M4 K)))))))) : RI (d + 1) μX9_layColours 13 [(0, .ref 58), (1, .int x1), (2, .int x2), (3, .int x3), (4, .int x4), (5, .int x5)] [] M K := by
  show Rn (d + 1) μX9_layColours 13 [(0, .ref 58), (1, .int x1), (2, .int x2), (3, .int x3), (4, .int x4), (5, .int x5)] [] M _
  refine rn_iload (x := x5) dX9_layColours_13 (by simp) ?_
  refine rn_if_lt (tgt := 124) dX9_layColours_15 (by decide) (ite_go h (fun hc h => ?_) (fun hc h => ?_))
  · refine rn_iload (x := x4) dX9_layColours_124 (by simp) ?_
    exact rn_zret dX9_layColours_126 rfl h.1 ⟨_, rfl, h.2⟩
  · refine rn_aload_n (i := 0) (x := 58) dX9_layColours_18 rfl (by simp) ?_
    refine rn_iload (x := x5) dX9_layColours_19 (by simp) ?_
    refine rn_callVi (as := [.int x5]) (st := []) dX9_layColours_21 mf_X9_isThere lk_X9_335 im_X9_isThere rfl rfl rfl rfl (Nat.le_of_ble_eq_true rfl) (Nat.le_of_ble_eq_true rfl) rfl (RI.mono h (fun r2 M1 h => ?_))
    refine rn_if_ne (tgt := 38) dX9_layColours_24 (by decide) (ite_go h (fun hc h => ?_) (fun hc h => ?_))
    · refine rn_aload_n (i := 0) (x := 58) dX9_layColours_27 rfl (by simp) ?_
      refine rn_getr (t := 74) dX9_layColours_28 rfl gf_X9_60 rfl rfl ?_
      refine rn_iload (x := x5) dX9_layColours_31 (by simp) ?_
      refine rn_iconst (v := -1) dX9_layColours_33 rfl ?_
      obtain ⟨hi, h⟩ := h
      have h := h _ rfl
      refine rn_iastore dX9_layColours_34 rfl hi ?_
      generalize wi M1 74 (nx x5) ((-1)) = M3 at h ⊢
      refine rn_goto (tgt := 118) dX9_layColours_35 (by decide) ?_
      refine rn_iinc (x := x5) (v := x5 + (-1)) (lv' := [(0, .ref 58), (1, .int x1), (2, .int x2), (3, .int x3), (4, .int x4), (5, .int (x5 + (-1)))]) dX9_layColours_118 (by simp) rfl (by decide) rfl rfl ?_
      refine rn_goto (tgt := 13) dX9_layColours_121 (by decide) ?_
      exact h
    · refine rn_aload_n (i := 0) (x := 58) dX9_layColours_38 rfl (by simp) ?_
      refine rn_getr (t := 74) dX9_layColours_39 rfl gf_X9_60 rfl rfl ?_
      refine rn_iload (x := x5) dX9_layColours_42 (by simp) ?_
      refine rn_iload_n (i := 3) (x := x3) dX9_layColours_44 rfl (by simp) ?_
      refine rn_iload_n (i := 1) (x := x1) dX9_layColours_45 rfl (by simp) ?_
      obtain ⟨hne, h⟩ := h
      refine rn_irem dX9_layColours_46 hne ?_
      obtain ⟨hi, h⟩ := h
      have h := h _ rfl
      refine rn_iastore dX9_layColours_47 rfl hi ?_
      generalize wi M1 74 (nx x5) (x3 - x3 / x1 * x1) = M4 at h ⊢
      refine rn_iload_n (i := 3) (x := x3) dX9_layColours_48 rfl (by simp) ?_
      refine rn_iload_n (i := 1) (x := x1) dX9_layColours_49 rfl (by simp) ?_
      obtain ⟨hne, h⟩ := h
      refine rn_idiv dX9_layColours_50 hne ?_
      refine rn_istore_n (lv' := [(0, .ref 58), (1, .int x1), (2, .int x2), (3, .int (x3 / x1)), (4, .int x4), (5, .int x5)]) (hd := dX9_layColours_51) (i := 3) (hi := rfl) (hn := by decide) (hf := rfl) (hl := rfl) ?_
      refine rn_iload (x := x5) dX9_layColours_52 (by simp) ?_
      refine rn_iconst (v := 1) dX9_layColours_54 rfl ?_
      refine rn_iadd dX9_layColours_55 ?_
      refine rn_istore (lv' := [(0, .ref 58), (1, .int x1), (2, .int x2), (3, .int (x3 / x1)), (4, .int x4), (5, .int x5), (6, .int (x5 + 1))]) (hd := dX9_layColours_56) (hn := by decide) (hf := rfl) (hl := rfl) ?_
      exact h
set_option maxRecDepth 20000 in
theorem sg_X9_layColours_58 {d : Nat} {x1 : Int32} {x2 : Int32} {x3 : Int32} {x4 : Int32} {x5 : Int32} {x6 : Int32} {M : Mem} {K : (Int32 → Mem → Prop)}  (h : (if ri M 58 35 ≤ x6 then RI (d + 1) μX9_layColours 13 [(0, .ref 58), (1, .int x1), (2, .int x2), (3, .int x3), (4, .int x4), (5, .int (x5 + (-1)))] [] M K else (if x4 = 0 then RI (d + 1) μX9_layColours 58 [(0, .ref 58), (1, .int x1), (2, .int x2), (3, .int x3), (4, .int 0), (5, .int x5), (6, .int (x6 + 1))] [] M K else (vp_in x5 8 ∧ (if ((ri M 75 (nx x5)) >>> (x6 &&& 31)) &&& 1 = 1 then (vp_in x5 8 ∧ (vp_in x6 8 ∧ (if ri M 74 (nx x5) = ri M 74 (nx x6) then RI (d + 1) μX9_layColours 58 [(0, .ref 58), (1, .int x1), (2, .int x2), (3, .int x3), (4, .int 0), (5, .int x5), (6, .int (x6 + 1))] [] M K else RI (d + 1) μX9_layColours 58 [(0, .ref 58), (1, .int x1), (2, .int x2), (3, .int x3), (4, .int 1), (5, .int x5), (6, .int (x6 + 1))] [] M K))) else RI (d + 1) μX9_layColours 58 [(0, .ref 58), (1, .int x1), (2, .int x2), (3, .int x3), (4, .int 1), (5, .int x5), (6, .int (x6 + 1))] [] M K))))) : RI (d + 1) μX9_layColours 58 [(0, .ref 58), (1, .int x1), (2, .int x2), (3, .int x3), (4, .int x4), (5, .int x5), (6, .int x6)] [] M K := by
  show Rn (d + 1) μX9_layColours 58 [(0, .ref 58), (1, .int x1), (2, .int x2), (3, .int x3), (4, .int x4), (5, .int x5), (6, .int x6)] [] M _
  refine rn_iload (x := x6) dX9_layColours_58 (by simp) ?_
  refine rn_aload_n (i := 0) (x := 58) dX9_layColours_60 rfl (by simp) ?_
  refine rn_geti dX9_layColours_61 rfl gf_X9_326 (by decide) ?_
  refine rn_icmp_ge (tgt := 118) dX9_layColours_64 (by decide) (ite_go h (fun hc h => ?_) (fun hc h => ?_))
  · refine rn_iinc (x := x5) (v := x5 + (-1)) (lv' := [(0, .ref 58), (1, .int x1), (2, .int x2), (3, .int x3), (4, .int x4), (5, .int (x5 + (-1))), (6, .int x6)]) dX9_layColours_118 (by simp) rfl (by decide) rfl rfl ?_
    refine rn_goto (tgt := 13) dX9_layColours_121 (by decide) ?_
    refine Rn.sub (lv' := [(0, .ref 58), (1, .int x1), (2, .int x2), (3, .int x3), (4, .int x4), (5, .int (x5 + (-1)))]) (by simp) ?_
    exact h
  · refine rn_iload (x := x4) dX9_layColours_67 (by simp) ?_
    refine rn_if_eq (tgt := 109) dX9_layColours_69 (by decide) (ite_go h (fun hc h => ?_) (fun hc h => ?_))
    · refine rn_iconst (v := 0) dX9_layColours_109 rfl ?_
      refine rn_istore (lv' := [(0, .ref 58), (1, .int x1), (2, .int x2), (3, .int x3), (4, .int 0), (5, .int x5), (6, .int x6)]) (hd := dX9_layColours_110) (hn := by decide) (hf := rfl) (hl := rfl) ?_
      refine rn_iinc (x := x6) (v := x6 + 1) (lv' := [(0, .ref 58), (1, .int x1), (2, .int x2), (3, .int x3), (4, .int 0), (5, .int x5), (6, .int (x6 + 1))]) dX9_layColours_112 (by simp) rfl (by decide) rfl rfl ?_
      refine rn_goto (tgt := 58) dX9_layColours_115 (by decide) ?_
      exact h
    · refine rn_aload_n (i := 0) (x := 58) dX9_layColours_72 rfl (by simp) ?_
      refine rn_getr (t := 75) dX9_layColours_73 rfl gf_X9_63 rfl rfl ?_
      refine rn_iload (x := x5) dX9_layColours_76 (by simp) ?_
      obtain ⟨hi, h⟩ := h
      refine rn_iaload dX9_layColours_78 rfl hi ?_
      refine rn_iload (x := x6) dX9_layColours_79 (by simp) ?_
      refine rn_ishr dX9_layColours_81 ?_
      refine rn_iconst (v := 1) dX9_layColours_82 rfl ?_
      refine rn_iand dX9_layColours_83 ?_
      refine rn_iconst (v := 1) dX9_layColours_84 rfl ?_
      refine rn_icmp_ne (tgt := 105) dX9_layColours_85 (by decide) (ite_go h (fun hc h => ?_) (fun hc h => ?_))
      · refine rn_aload_n (i := 0) (x := 58) dX9_layColours_88 rfl (by simp) ?_
        refine rn_getr (t := 74) dX9_layColours_89 rfl gf_X9_60 rfl rfl ?_
        refine rn_iload (x := x5) dX9_layColours_92 (by simp) ?_
        obtain ⟨hi, h⟩ := h
        refine rn_iaload dX9_layColours_94 rfl hi ?_
        refine rn_aload_n (i := 0) (x := 58) dX9_layColours_95 rfl (by simp) ?_
        refine rn_getr (t := 74) dX9_layColours_96 rfl gf_X9_60 rfl rfl ?_
        refine rn_iload (x := x6) dX9_layColours_99 (by simp) ?_
        obtain ⟨hi, h⟩ := h
        refine rn_iaload dX9_layColours_101 rfl hi ?_
        refine rn_icmp_eq (tgt := 109) dX9_layColours_102 (by decide) (ite_go h (fun hc h => ?_) (fun hc h => ?_))
        · refine rn_iconst (v := 0) dX9_layColours_109 rfl ?_
          refine rn_istore (lv' := [(0, .ref 58), (1, .int x1), (2, .int x2), (3, .int x3), (4, .int 0), (5, .int x5), (6, .int x6)]) (hd := dX9_layColours_110) (hn := by decide) (hf := rfl) (hl := rfl) ?_
          refine rn_iinc (x := x6) (v := x6 + 1) (lv' := [(0, .ref 58), (1, .int x1), (2, .int x2), (3, .int x3), (4, .int 0), (5, .int x5), (6, .int (x6 + 1))]) dX9_layColours_112 (by simp) rfl (by decide) rfl rfl ?_
          refine rn_goto (tgt := 58) dX9_layColours_115 (by decide) ?_
          exact h
        · refine rn_iconst (v := 1) dX9_layColours_105 rfl ?_
          refine rn_goto (tgt := 110) dX9_layColours_106 (by decide) ?_
          refine rn_istore (lv' := [(0, .ref 58), (1, .int x1), (2, .int x2), (3, .int x3), (4, .int 1), (5, .int x5), (6, .int x6)]) (hd := dX9_layColours_110) (hn := by decide) (hf := rfl) (hl := rfl) ?_
          refine rn_iinc (x := x6) (v := x6 + 1) (lv' := [(0, .ref 58), (1, .int x1), (2, .int x2), (3, .int x3), (4, .int 1), (5, .int x5), (6, .int (x6 + 1))]) dX9_layColours_112 (by simp) rfl (by decide) rfl rfl ?_
          refine rn_goto (tgt := 58) dX9_layColours_115 (by decide) ?_
          exact h
      · refine rn_iconst (v := 1) dX9_layColours_105 rfl ?_
        refine rn_goto (tgt := 110) dX9_layColours_106 (by decide) ?_
        refine rn_istore (lv' := [(0, .ref 58), (1, .int x1), (2, .int x2), (3, .int x3), (4, .int 1), (5, .int x5), (6, .int x6)]) (hd := dX9_layColours_110) (hn := by decide) (hf := rfl) (hl := rfl) ?_
        refine rn_iinc (x := x6) (v := x6 + 1) (lv' := [(0, .ref 58), (1, .int x1), (2, .int x2), (3, .int x3), (4, .int 1), (5, .int x5), (6, .int (x6 + 1))]) dX9_layColours_112 (by simp) rfl (by decide) rfl rfl ?_
        refine rn_goto (tgt := 58) dX9_layColours_115 (by decide) ?_
        exact h
theorem dX9_power_0 : decode μX9_power.2.1 0 = .ok (.iconst 1, 1) := by decide +kernel
theorem dX9_power_1 : decode μX9_power.2.1 1 = .ok (.istore_n 2, 1) := by decide +kernel
theorem dX9_power_2 : decode μX9_power.2.1 2 = .ok (.iconst 0, 1) := by decide +kernel
theorem dX9_power_3 : decode μX9_power.2.1 3 = .ok (.istore_n 3, 1) := by decide +kernel
theorem dX9_power_4 : decode μX9_power.2.1 4 = .ok (.iload_n 3, 1) := by decide +kernel
theorem dX9_power_5 : decode μX9_power.2.1 5 = .ok (.iload_n 1, 1) := by decide +kernel
theorem dX9_power_6 : decode μX9_power.2.1 6 = .ok (.if_icmp .ge 13, 3) := by decide +kernel
theorem dX9_power_9 : decode μX9_power.2.1 9 = .ok (.iload_n 2, 1) := by decide +kernel
theorem dX9_power_10 : decode μX9_power.2.1 10 = .ok (.iload_n 0, 1) := by decide +kernel
theorem dX9_power_11 : decode μX9_power.2.1 11 = .ok (.imul, 1) := by decide +kernel
theorem dX9_power_12 : decode μX9_power.2.1 12 = .ok (.istore_n 2, 1) := by decide +kernel
theorem dX9_power_13 : decode μX9_power.2.1 13 = .ok (.iinc 3 1, 3) := by decide +kernel
theorem dX9_power_16 : decode μX9_power.2.1 16 = .ok (.goto (-12), 3) := by decide +kernel
theorem dX9_power_19 : decode μX9_power.2.1 19 = .ok (.iload_n 2, 1) := by decide +kernel
theorem dX9_power_20 : decode μX9_power.2.1 20 = .ok (.ireturn, 1) := by decide +kernel
set_option maxRecDepth 20000 in
theorem sg_X9_power_0 {d : Nat} {x0 : Int32} {x1 : Int32} {M : Mem} {K : (Int32 → Mem → Prop)}  (h : RI d μX9_power 4 [(0, .int x0), (1, .int x1), (2, .int 1), (3, .int 0)] [] M K) : CI d μX9_power [.int x0, .int x1] M K := by
  show Rn d μX9_power 0 [(0, .int x0), (1, .int x1)] [] M _
  refine rn_iconst (v := 1) dX9_power_0 rfl ?_
  refine rn_istore_n (lv' := [(0, .int x0), (1, .int x1), (2, .int 1)]) (hd := dX9_power_1) (i := 2) (hi := rfl) (hn := by decide) (hf := rfl) (hl := rfl) ?_
  refine rn_iconst (v := 0) dX9_power_2 rfl ?_
  refine rn_istore_n (lv' := [(0, .int x0), (1, .int x1), (2, .int 1), (3, .int 0)]) (hd := dX9_power_3) (i := 3) (hi := rfl) (hn := by decide) (hf := rfl) (hl := rfl) ?_
  exact h
set_option maxRecDepth 20000 in
theorem sg_X9_power_4 {d : Nat} {x0 : Int32} {x1 : Int32} {x2 : Int32} {x3 : Int32} {M : Mem} {K : (Int32 → Mem → Prop)}  (h : (if x1 ≤ x3 then K x2 M else RI d μX9_power 4 [(0, .int x0), (1, .int x1), (2, .int (x2 * x0)), (3, .int (x3 + 1))] [] M K)) : RI d μX9_power 4 [(0, .int x0), (1, .int x1), (2, .int x2), (3, .int x3)] [] M K := by
  show Rn d μX9_power 4 [(0, .int x0), (1, .int x1), (2, .int x2), (3, .int x3)] [] M _
  refine rn_iload_n (i := 3) (x := x3) dX9_power_4 rfl (by simp) ?_
  refine rn_iload_n (i := 1) (x := x1) dX9_power_5 rfl (by simp) ?_
  refine rn_icmp_ge (tgt := 19) dX9_power_6 (by decide) (ite_go h (fun hc h => ?_) (fun hc h => ?_))
  · refine rn_iload_n (i := 2) (x := x2) dX9_power_19 rfl (by simp) ?_
    exact rn_iret dX9_power_20 rfl ⟨_, rfl, h⟩
  · refine rn_iload_n (i := 2) (x := x2) dX9_power_9 rfl (by simp) ?_
    refine rn_iload_n (i := 0) (x := x0) dX9_power_10 rfl (by simp) ?_
    refine rn_imul dX9_power_11 ?_
    refine rn_istore_n (lv' := [(0, .int x0), (1, .int x1), (2, .int (x2 * x0)), (3, .int x3)]) (hd := dX9_power_12) (i := 2) (hi := rfl) (hn := by decide) (hf := rfl) (hl := rfl) ?_
    refine rn_iinc (x := x3) (v := x3 + 1) (lv' := [(0, .int x0), (1, .int x1), (2, .int (x2 * x0)), (3, .int (x3 + 1))]) dX9_power_13 (by simp) rfl (by decide) rfl rfl ?_
    refine rn_goto (tgt := 4) dX9_power_16 (by decide) ?_
    exact h
theorem dX9_banners_0 : decode μX9_banners.2.1 0 = .ok (.aload_n 0, 1) := by decide +kernel
theorem dX9_banners_1 : decode μX9_banners.2.1 1 = .ok (.invokevirtual 424, 3) := by decide +kernel
theorem dX9_banners_4 : decode μX9_banners.2.1 4 = .ok (.aload_n 0, 1) := by decide +kernel
theorem dX9_banners_5 : decode μX9_banners.2.1 5 = .ok (.invokevirtual 456, 3) := by decide +kernel
theorem dX9_banners_8 : decode μX9_banners.2.1 8 = .ok (.aload_n 0, 1) := by decide +kernel
theorem dX9_banners_9 : decode μX9_banners.2.1 9 = .ok (.aload_n 0, 1) := by decide +kernel
theorem dX9_banners_10 : decode μX9_banners.2.1 10 = .ok (.getfield 326, 3) := by decide +kernel
theorem dX9_banners_13 : decode μX9_banners.2.1 13 = .ok (.putfield 417, 3) := by decide +kernel
theorem dX9_banners_16 : decode μX9_banners.2.1 16 = .ok (.aload_n 0, 1) := by decide +kernel
theorem dX9_banners_17 : decode μX9_banners.2.1 17 = .ok (.getfield 45, 3) := by decide +kernel
theorem dX9_banners_20 : decode μX9_banners.2.1 20 = .ok (.bipush 13, 2) := by decide +kernel
theorem dX9_banners_22 : decode μX9_banners.2.1 22 = .ok (.iaload, 1) := by decide +kernel
theorem dX9_banners_23 : decode μX9_banners.2.1 23 = .ok (.invokestatic 274, 3) := by decide +kernel
theorem dX9_banners_26 : decode μX9_banners.2.1 26 = .ok (.istore_n 1, 1) := by decide +kernel
theorem dX9_banners_27 : decode μX9_banners.2.1 27 = .ok (.iconst 1, 1) := by decide +kernel
theorem dX9_banners_28 : decode μX9_banners.2.1 28 = .ok (.istore_n 2, 1) := by decide +kernel
theorem dX9_banners_29 : decode μX9_banners.2.1 29 = .ok (.iload_n 2, 1) := by decide +kernel
theorem dX9_banners_30 : decode μX9_banners.2.1 30 = .ok (.iload_n 1, 1) := by decide +kernel
theorem dX9_banners_31 : decode μX9_banners.2.1 31 = .ok (.if_icmp .gt 72, 3) := by decide +kernel
theorem dX9_banners_34 : decode μX9_banners.2.1 34 = .ok (.iconst 0, 1) := by decide +kernel
theorem dX9_banners_35 : decode μX9_banners.2.1 35 = .ok (.istore_n 3, 1) := by decide +kernel
theorem dX9_banners_36 : decode μX9_banners.2.1 36 = .ok (.iload_n 3, 1) := by decide +kernel
theorem dX9_banners_37 : decode μX9_banners.2.1 37 = .ok (.iload_n 2, 1) := by decide +kernel
theorem dX9_banners_38 : decode μX9_banners.2.1 38 = .ok (.iload_n 1, 1) := by decide +kernel
theorem dX9_banners_39 : decode μX9_banners.2.1 39 = .ok (.invokestatic 459, 3) := by decide +kernel
theorem dX9_banners_42 : decode μX9_banners.2.1 42 = .ok (.if_icmp .ge 55, 3) := by decide +kernel
theorem dX9_banners_45 : decode μX9_banners.2.1 45 = .ok (.aload_n 0, 1) := by decide +kernel
theorem dX9_banners_46 : decode μX9_banners.2.1 46 = .ok (.iload_n 2, 1) := by decide +kernel
theorem dX9_banners_47 : decode μX9_banners.2.1 47 = .ok (.iload_n 3, 1) := by decide +kernel
theorem dX9_banners_48 : decode μX9_banners.2.1 48 = .ok (.invokevirtual 462, 3) := by decide +kernel
theorem dX9_banners_51 : decode μX9_banners.2.1 51 = .ok (.ifCond .ne 6, 3) := by decide +kernel
theorem dX9_banners_54 : decode μX9_banners.2.1 54 = .ok (.goto 37, 3) := by decide +kernel
theorem dX9_banners_57 : decode μX9_banners.2.1 57 = .ok (.iconst 0, 1) := by decide +kernel
theorem dX9_banners_58 : decode μX9_banners.2.1 58 = .ok (.istore 4, 2) := by decide +kernel
theorem dX9_banners_60 : decode μX9_banners.2.1 60 = .ok (.iload 4, 2) := by decide +kernel
theorem dX9_banners_62 : decode μX9_banners.2.1 62 = .ok (.aload_n 0, 1) := by decide +kernel
theorem dX9_banners_63 : decode μX9_banners.2.1 63 = .ok (.getfield 326, 3) := by decide +kernel
theorem dX9_banners_66 : decode μX9_banners.2.1 66 = .ok (.if_icmp .ge 23, 3) := by decide +kernel
theorem dX9_banners_69 : decode μX9_banners.2.1 69 = .ok (.aload_n 0, 1) := by decide +kernel
theorem dX9_banners_70 : decode μX9_banners.2.1 70 = .ok (.getfield 57, 3) := by decide +kernel
theorem dX9_banners_73 : decode μX9_banners.2.1 73 = .ok (.iload 4, 2) := by decide +kernel
theorem dX9_banners_75 : decode μX9_banners.2.1 75 = .ok (.aload_n 0, 1) := by decide +kernel
theorem dX9_banners_76 : decode μX9_banners.2.1 76 = .ok (.getfield 60, 3) := by decide +kernel
theorem dX9_banners_79 : decode μX9_banners.2.1 79 = .ok (.iload 4, 2) := by decide +kernel
theorem dX9_banners_81 : decode μX9_banners.2.1 81 = .ok (.iaload, 1) := by decide +kernel
theorem dX9_banners_82 : decode μX9_banners.2.1 82 = .ok (.iastore, 1) := by decide +kernel
theorem dX9_banners_83 : decode μX9_banners.2.1 83 = .ok (.iinc 4 1, 3) := by decide +kernel
theorem dX9_banners_86 : decode μX9_banners.2.1 86 = .ok (.goto (-26), 3) := by decide +kernel
theorem dX9_banners_89 : decode μX9_banners.2.1 89 = .ok (.iload_n 2, 1) := by decide +kernel
theorem dX9_banners_90 : decode μX9_banners.2.1 90 = .ok (.ireturn, 1) := by decide +kernel
theorem dX9_banners_91 : decode μX9_banners.2.1 91 = .ok (.iinc 3 1, 3) := by decide +kernel
theorem dX9_banners_94 : decode μX9_banners.2.1 94 = .ok (.goto (-58), 3) := by decide +kernel
theorem dX9_banners_97 : decode μX9_banners.2.1 97 = .ok (.iinc 2 1, 3) := by decide +kernel
theorem dX9_banners_100 : decode μX9_banners.2.1 100 = .ok (.goto (-71), 3) := by decide +kernel
theorem dX9_banners_103 : decode μX9_banners.2.1 103 = .ok (.iconst 0, 1) := by decide +kernel
theorem dX9_banners_104 : decode μX9_banners.2.1 104 = .ok (.ireturn, 1) := by decide +kernel
set_option maxRecDepth 20000 in
theorem sg_X9_banners_0 {d : Nat}  {M : Mem} {K : (Int32 → Mem → Prop)}  (h : (CV d μX9_fill [.ref 58] M (fun M1 => (CV d μX9_layNexts [.ref 58] M1 (fun M2 => (∀ M3, M3 = wi M2 58 45 (ri M2 58 35) → (CI d μX9_members [.int (ri M3 69 (nx 13))] M3 (fun r5 M4 => RI (d + 1) μX9_banners 29 [(0, .ref 58), (1, .int r5), (2, .int 1)] [] M4 K)))))))) : CI (d + 1) μX9_banners [.ref 58] M K := by
  show Rn (d + 1) μX9_banners 0 [(0, .ref 58)] [] M _
  refine rn_aload_n (i := 0) (x := 58) dX9_banners_0 rfl (by simp) ?_
  refine rn_callVv (as := []) (st := []) dX9_banners_1 mf_X9_fill lk_X9_424 im_X9_fill rfl rfl rfl rfl (Nat.le_of_ble_eq_true rfl) (Nat.le_of_ble_eq_true rfl) rfl (RV.mono h (fun M1 h => ?_))
  refine rn_aload_n (i := 0) (x := 58) dX9_banners_4 rfl (by simp) ?_
  refine rn_callVv (as := []) (st := []) dX9_banners_5 mf_X9_layNexts lk_X9_456 im_X9_layNexts rfl rfl rfl rfl (Nat.le_of_ble_eq_true rfl) (Nat.le_of_ble_eq_true rfl) rfl (RV.mono h (fun M2 h => ?_))
  refine rn_aload_n (i := 0) (x := 58) dX9_banners_8 rfl (by simp) ?_
  refine rn_aload_n (i := 0) (x := 58) dX9_banners_9 rfl (by simp) ?_
  refine rn_geti dX9_banners_10 rfl gf_X9_326 (by decide) ?_
  have h := h _ rfl
  refine rn_puti dX9_banners_13 rfl pf_X9_417 (by decide) rfl rfl ?_
  generalize wi M2 58 45 (ri M2 58 35) = M3 at h ⊢
  refine rn_aload_n (i := 0) (x := 58) dX9_banners_16 rfl (by simp) ?_
  refine rn_getr (t := 69) dX9_banners_17 rfl gf_X9_45 rfl rfl ?_
  refine rn_bipush (v := 13) dX9_banners_20 rfl ?_
  refine rn_iaload dX9_banners_22 rfl (by unfold vp_in; decide) ?_
  refine rn_callSi (as := [.int (ri M3 69 (nx 13))]) (st := []) dX9_banners_23 mf_X9_members lk_X9_274 sm_X9_members rfl (Nat.le_of_ble_eq_true rfl) (Nat.le_of_ble_eq_true rfl) rfl (RI.mono h (fun r5 M4 h => ?_))
  refine rn_istore_n (lv' := [(0, .ref 58), (1, .int r5)]) (hd := dX9_banners_26) (i := 1) (hi := rfl) (hn := by decide) (hf := rfl) (hl := rfl) ?_
  refine rn_iconst (v := 1) dX9_banners_27 rfl ?_
  refine rn_istore_n (lv' := [(0, .ref 58), (1, .int r5), (2, .int 1)]) (hd := dX9_banners_28) (i := 2) (hi := rfl) (hn := by decide) (hf := rfl) (hl := rfl) ?_
  exact h
set_option maxRecDepth 20000 in
theorem sg_X9_banners_29 {d : Nat} {x1 : Int32} {x2 : Int32} {M : Mem} {K : (Int32 → Mem → Prop)}  (h : (if x1 < x2 then K 0 M else RI (d + 1) μX9_banners 36 [(0, .ref 58), (1, .int x1), (2, .int x2), (3, .int 0)] [] M K)) : RI (d + 1) μX9_banners 29 [(0, .ref 58), (1, .int x1), (2, .int x2)] [] M K := by
  show Rn (d + 1) μX9_banners 29 [(0, .ref 58), (1, .int x1), (2, .int x2)] [] M _
  refine rn_iload_n (i := 2) (x := x2) dX9_banners_29 rfl (by simp) ?_
  refine rn_iload_n (i := 1) (x := x1) dX9_banners_30 rfl (by simp) ?_
  refine rn_icmp_gt (tgt := 103) dX9_banners_31 (by decide) (ite_go h (fun hc h => ?_) (fun hc h => ?_))
  · refine rn_iconst (v := 0) dX9_banners_103 rfl ?_
    exact rn_iret dX9_banners_104 rfl ⟨_, rfl, h⟩
  · refine rn_iconst (v := 0) dX9_banners_34 rfl ?_
    refine rn_istore_n (lv' := [(0, .ref 58), (1, .int x1), (2, .int x2), (3, .int 0)]) (hd := dX9_banners_35) (i := 3) (hi := rfl) (hn := by decide) (hf := rfl) (hl := rfl) ?_
    exact h
set_option maxRecDepth 20000 in
theorem sg_X9_banners_36 {d : Nat} {x1 : Int32} {x2 : Int32} {x3 : Int32} {M : Mem} {K : (Int32 → Mem → Prop)}  (h : (CI d μX9_power [.int x2, .int x1] M (fun r2 M1 => (if r2 ≤ x3 then RI (d + 1) μX9_banners 29 [(0, .ref 58), (1, .int x1), (2, .int (x2 + 1))] [] M1 K else (CI d μX9_layColours [.ref 58, .int x2, .int x3] M1 (fun r4 M3 => (if r4 = 0 then RI (d + 1) μX9_banners 36 [(0, .ref 58), (1, .int x1), (2, .int x2), (3, .int (x3 + 1))] [] M3 K else RI (d + 1) μX9_banners 60 [(0, .ref 58), (1, .int x1), (2, .int x2), (3, .int x3), (4, .int 0)] [] M3 K))))))) : RI (d + 1) μX9_banners 36 [(0, .ref 58), (1, .int x1), (2, .int x2), (3, .int x3)] [] M K := by
  show Rn (d + 1) μX9_banners 36 [(0, .ref 58), (1, .int x1), (2, .int x2), (3, .int x3)] [] M _
  refine rn_iload_n (i := 3) (x := x3) dX9_banners_36 rfl (by simp) ?_
  refine rn_iload_n (i := 2) (x := x2) dX9_banners_37 rfl (by simp) ?_
  refine rn_iload_n (i := 1) (x := x1) dX9_banners_38 rfl (by simp) ?_
  refine rn_callSi (as := [.int x2, .int x1]) (st := [.int x3]) dX9_banners_39 mf_X9_power lk_X9_459 sm_X9_power rfl (Nat.le_of_ble_eq_true rfl) (Nat.le_of_ble_eq_true rfl) rfl (RI.mono h (fun r2 M1 h => ?_))
  refine rn_icmp_ge (tgt := 97) dX9_banners_42 (by decide) (ite_go h (fun hc h => ?_) (fun hc h => ?_))
  · refine rn_iinc (x := x2) (v := x2 + 1) (lv' := [(0, .ref 58), (1, .int x1), (2, .int (x2 + 1)), (3, .int x3)]) dX9_banners_97 (by simp) rfl (by decide) rfl rfl ?_
    refine rn_goto (tgt := 29) dX9_banners_100 (by decide) ?_
    refine Rn.sub (lv' := [(0, .ref 58), (1, .int x1), (2, .int (x2 + 1))]) (by simp) ?_
    exact h
  · refine rn_aload_n (i := 0) (x := 58) dX9_banners_45 rfl (by simp) ?_
    refine rn_iload_n (i := 2) (x := x2) dX9_banners_46 rfl (by simp) ?_
    refine rn_iload_n (i := 3) (x := x3) dX9_banners_47 rfl (by simp) ?_
    refine rn_callVi (as := [.int x2, .int x3]) (st := []) dX9_banners_48 mf_X9_layColours lk_X9_462 im_X9_layColours rfl rfl rfl rfl (Nat.le_of_ble_eq_true rfl) (Nat.le_of_ble_eq_true rfl) rfl (RI.mono h (fun r4 M3 h => ?_))
    refine rn_if_ne (tgt := 57) dX9_banners_51 (by decide) (ite_go h (fun hc h => ?_) (fun hc h => ?_))
    · refine rn_goto (tgt := 91) dX9_banners_54 (by decide) ?_
      refine rn_iinc (x := x3) (v := x3 + 1) (lv' := [(0, .ref 58), (1, .int x1), (2, .int x2), (3, .int (x3 + 1))]) dX9_banners_91 (by simp) rfl (by decide) rfl rfl ?_
      refine rn_goto (tgt := 36) dX9_banners_94 (by decide) ?_
      exact h
    · refine rn_iconst (v := 0) dX9_banners_57 rfl ?_
      refine rn_istore (lv' := [(0, .ref 58), (1, .int x1), (2, .int x2), (3, .int x3), (4, .int 0)]) (hd := dX9_banners_58) (hn := by decide) (hf := rfl) (hl := rfl) ?_
      exact h
set_option maxRecDepth 20000 in
theorem sg_X9_banners_60 {d : Nat} {x1 : Int32} {x2 : Int32} {x3 : Int32} {x4 : Int32} {M : Mem} {K : (Int32 → Mem → Prop)}  (h : (if ri M 58 35 ≤ x4 then K x2 M else (vp_in x4 8 ∧ (vp_in x4 8 ∧ ∀ M1, M1 = wi M 73 (nx x4) (ri M 74 (nx x4)) → RI (d + 1) μX9_banners 60 [(0, .ref 58), (1, .int x1), (2, .int x2), (3, .int x3), (4, .int (x4 + 1))] [] M1 K)))) : RI (d + 1) μX9_banners 60 [(0, .ref 58), (1, .int x1), (2, .int x2), (3, .int x3), (4, .int x4)] [] M K := by
  show Rn (d + 1) μX9_banners 60 [(0, .ref 58), (1, .int x1), (2, .int x2), (3, .int x3), (4, .int x4)] [] M _
  refine rn_iload (x := x4) dX9_banners_60 (by simp) ?_
  refine rn_aload_n (i := 0) (x := 58) dX9_banners_62 rfl (by simp) ?_
  refine rn_geti dX9_banners_63 rfl gf_X9_326 (by decide) ?_
  refine rn_icmp_ge (tgt := 89) dX9_banners_66 (by decide) (ite_go h (fun hc h => ?_) (fun hc h => ?_))
  · refine rn_iload_n (i := 2) (x := x2) dX9_banners_89 rfl (by simp) ?_
    exact rn_iret dX9_banners_90 rfl ⟨_, rfl, h⟩
  · refine rn_aload_n (i := 0) (x := 58) dX9_banners_69 rfl (by simp) ?_
    refine rn_getr (t := 73) dX9_banners_70 rfl gf_X9_57 rfl rfl ?_
    refine rn_iload (x := x4) dX9_banners_73 (by simp) ?_
    refine rn_aload_n (i := 0) (x := 58) dX9_banners_75 rfl (by simp) ?_
    refine rn_getr (t := 74) dX9_banners_76 rfl gf_X9_60 rfl rfl ?_
    refine rn_iload (x := x4) dX9_banners_79 (by simp) ?_
    obtain ⟨hi, h⟩ := h
    refine rn_iaload dX9_banners_81 rfl hi ?_
    obtain ⟨hi, h⟩ := h
    have h := h _ rfl
    refine rn_iastore dX9_banners_82 rfl hi ?_
    generalize wi M 73 (nx x4) (ri M 74 (nx x4)) = M1 at h ⊢
    refine rn_iinc (x := x4) (v := x4 + 1) (lv' := [(0, .ref 58), (1, .int x1), (2, .int x2), (3, .int x3), (4, .int (x4 + 1))]) dX9_banners_83 (by simp) rfl (by decide) rfl rfl ?_
    refine rn_goto (tgt := 60) dX9_banners_86 (by decide) ?_
    exact h
theorem dX9_nextChoice_0 : decode μX9_nextChoice.2.1 0 = .ok (.iload_n 2, 1) := by decide +kernel
theorem dX9_nextChoice_1 : decode μX9_nextChoice.2.1 1 = .ok (.iconst (-1), 1) := by decide +kernel
theorem dX9_nextChoice_2 : decode μX9_nextChoice.2.1 2 = .ok (.if_icmp .ne 6, 3) := by decide +kernel
theorem dX9_nextChoice_5 : decode μX9_nextChoice.2.1 5 = .ok (.bipush (-2), 2) := by decide +kernel
theorem dX9_nextChoice_7 : decode μX9_nextChoice.2.1 7 = .ok (.ireturn, 1) := by decide +kernel
theorem dX9_nextChoice_8 : decode μX9_nextChoice.2.1 8 = .ok (.iload_n 2, 1) := by decide +kernel
theorem dX9_nextChoice_9 : decode μX9_nextChoice.2.1 9 = .ok (.bipush (-2), 2) := by decide +kernel
theorem dX9_nextChoice_11 : decode μX9_nextChoice.2.1 11 = .ok (.if_icmp .ne 9, 3) := by decide +kernel
theorem dX9_nextChoice_14 : decode μX9_nextChoice.2.1 14 = .ok (.iload_n 1, 1) := by decide +kernel
theorem dX9_nextChoice_15 : decode μX9_nextChoice.2.1 15 = .ok (.iconst 1, 1) := by decide +kernel
theorem dX9_nextChoice_16 : decode μX9_nextChoice.2.1 16 = .ok (.iadd, 1) := by decide +kernel
theorem dX9_nextChoice_17 : decode μX9_nextChoice.2.1 17 = .ok (.goto 6, 3) := by decide +kernel
theorem dX9_nextChoice_20 : decode μX9_nextChoice.2.1 20 = .ok (.iload_n 2, 1) := by decide +kernel
theorem dX9_nextChoice_21 : decode μX9_nextChoice.2.1 21 = .ok (.iconst 1, 1) := by decide +kernel
theorem dX9_nextChoice_22 : decode μX9_nextChoice.2.1 22 = .ok (.iadd, 1) := by decide +kernel
theorem dX9_nextChoice_23 : decode μX9_nextChoice.2.1 23 = .ok (.istore_n 3, 1) := by decide +kernel
theorem dX9_nextChoice_24 : decode μX9_nextChoice.2.1 24 = .ok (.iload_n 3, 1) := by decide +kernel
theorem dX9_nextChoice_25 : decode μX9_nextChoice.2.1 25 = .ok (.aload_n 0, 1) := by decide +kernel
theorem dX9_nextChoice_26 : decode μX9_nextChoice.2.1 26 = .ok (.getfield 326, 3) := by decide +kernel
theorem dX9_nextChoice_29 : decode μX9_nextChoice.2.1 29 = .ok (.if_icmp .ge 31, 3) := by decide +kernel
theorem dX9_nextChoice_32 : decode μX9_nextChoice.2.1 32 = .ok (.aload_n 0, 1) := by decide +kernel
theorem dX9_nextChoice_33 : decode μX9_nextChoice.2.1 33 = .ok (.getfield 63, 3) := by decide +kernel
theorem dX9_nextChoice_36 : decode μX9_nextChoice.2.1 36 = .ok (.iload_n 1, 1) := by decide +kernel
theorem dX9_nextChoice_37 : decode μX9_nextChoice.2.1 37 = .ok (.iaload, 1) := by decide +kernel
theorem dX9_nextChoice_38 : decode μX9_nextChoice.2.1 38 = .ok (.iload_n 3, 1) := by decide +kernel
theorem dX9_nextChoice_39 : decode μX9_nextChoice.2.1 39 = .ok (.ishr, 1) := by decide +kernel
theorem dX9_nextChoice_40 : decode μX9_nextChoice.2.1 40 = .ok (.iconst 1, 1) := by decide +kernel
theorem dX9_nextChoice_41 : decode μX9_nextChoice.2.1 41 = .ok (.iand, 1) := by decide +kernel
theorem dX9_nextChoice_42 : decode μX9_nextChoice.2.1 42 = .ok (.ifCond .eq 12, 3) := by decide +kernel
theorem dX9_nextChoice_45 : decode μX9_nextChoice.2.1 45 = .ok (.aload_n 0, 1) := by decide +kernel
theorem dX9_nextChoice_46 : decode μX9_nextChoice.2.1 46 = .ok (.getfield 60, 3) := by decide +kernel
theorem dX9_nextChoice_49 : decode μX9_nextChoice.2.1 49 = .ok (.iload_n 3, 1) := by decide +kernel
theorem dX9_nextChoice_50 : decode μX9_nextChoice.2.1 50 = .ok (.iaload, 1) := by decide +kernel
theorem dX9_nextChoice_51 : decode μX9_nextChoice.2.1 51 = .ok (.ifCond .lt 9, 3) := by decide +kernel
theorem dX9_nextChoice_54 : decode μX9_nextChoice.2.1 54 = .ok (.iinc 3 1, 3) := by decide +kernel
theorem dX9_nextChoice_57 : decode μX9_nextChoice.2.1 57 = .ok (.goto (-33), 3) := by decide +kernel
theorem dX9_nextChoice_60 : decode μX9_nextChoice.2.1 60 = .ok (.iload_n 3, 1) := by decide +kernel
theorem dX9_nextChoice_61 : decode μX9_nextChoice.2.1 61 = .ok (.aload_n 0, 1) := by decide +kernel
theorem dX9_nextChoice_62 : decode μX9_nextChoice.2.1 62 = .ok (.getfield 326, 3) := by decide +kernel
theorem dX9_nextChoice_65 : decode μX9_nextChoice.2.1 65 = .ok (.if_icmp .ge 7, 3) := by decide +kernel
theorem dX9_nextChoice_68 : decode μX9_nextChoice.2.1 68 = .ok (.iload_n 3, 1) := by decide +kernel
theorem dX9_nextChoice_69 : decode μX9_nextChoice.2.1 69 = .ok (.goto 4, 3) := by decide +kernel
theorem dX9_nextChoice_72 : decode μX9_nextChoice.2.1 72 = .ok (.iconst (-1), 1) := by decide +kernel
theorem dX9_nextChoice_73 : decode μX9_nextChoice.2.1 73 = .ok (.ireturn, 1) := by decide +kernel
set_option maxRecDepth 20000 in
theorem sg_X9_nextChoice_0 {d : Nat} {x1 : Int32} {x2 : Int32} {M : Mem} {K : (Int32 → Mem → Prop)}  (h : (if x2 = (-1) then K ((-2)) M else (if x2 = (-2) then RI d μX9_nextChoice 24 [(0, .ref 58), (1, .int x1), (2, .int x2), (3, .int (x1 + 1))] [] M K else RI d μX9_nextChoice 24 [(0, .ref 58), (1, .int x1), (2, .int x2), (3, .int (x2 + 1))] [] M K))) : CI d μX9_nextChoice [.ref 58, .int x1, .int x2] M K := by
  show Rn d μX9_nextChoice 0 [(0, .ref 58), (1, .int x1), (2, .int x2)] [] M _
  refine rn_iload_n (i := 2) (x := x2) dX9_nextChoice_0 rfl (by simp) ?_
  refine rn_iconst (v := -1) dX9_nextChoice_1 rfl ?_
  refine rn_icmp_ne (tgt := 8) dX9_nextChoice_2 (by decide) (ite_go h (fun hc h => ?_) (fun hc h => ?_))
  · refine rn_bipush (v := -2) dX9_nextChoice_5 rfl ?_
    exact rn_iret dX9_nextChoice_7 rfl ⟨_, rfl, h⟩
  · refine rn_iload_n (i := 2) (x := x2) dX9_nextChoice_8 rfl (by simp) ?_
    refine rn_bipush (v := -2) dX9_nextChoice_9 rfl ?_
    refine rn_icmp_ne (tgt := 20) dX9_nextChoice_11 (by decide) (ite_go h (fun hc h => ?_) (fun hc h => ?_))
    · refine rn_iload_n (i := 1) (x := x1) dX9_nextChoice_14 rfl (by simp) ?_
      refine rn_iconst (v := 1) dX9_nextChoice_15 rfl ?_
      refine rn_iadd dX9_nextChoice_16 ?_
      refine rn_goto (tgt := 23) dX9_nextChoice_17 (by decide) ?_
      refine rn_istore_n (lv' := [(0, .ref 58), (1, .int x1), (2, .int x2), (3, .int (x1 + 1))]) (hd := dX9_nextChoice_23) (i := 3) (hi := rfl) (hn := by decide) (hf := rfl) (hl := rfl) ?_
      exact h
    · refine rn_iload_n (i := 2) (x := x2) dX9_nextChoice_20 rfl (by simp) ?_
      refine rn_iconst (v := 1) dX9_nextChoice_21 rfl ?_
      refine rn_iadd dX9_nextChoice_22 ?_
      refine rn_istore_n (lv' := [(0, .ref 58), (1, .int x1), (2, .int x2), (3, .int (x2 + 1))]) (hd := dX9_nextChoice_23) (i := 3) (hi := rfl) (hn := by decide) (hf := rfl) (hl := rfl) ?_
      exact h
set_option maxRecDepth 20000 in
theorem sg_X9_nextChoice_24 {d : Nat} {x1 : Int32} {x2 : Int32} {x3 : Int32} {M : Mem} {K : (Int32 → Mem → Prop)}  (h : (if ri M 58 35 ≤ x3 then (if ri M 58 35 ≤ x3 then K ((-1)) M else K x3 M) else (vp_in x1 8 ∧ (if ((ri M 75 (nx x1)) >>> (x3 &&& 31)) &&& 1 = 0 then RI d μX9_nextChoice 24 [(0, .ref 58), (1, .int x1), (2, .int x2), (3, .int (x3 + 1))] [] M K else (vp_in x3 8 ∧ (if ri M 74 (nx x3) < 0 then (if ri M 58 35 ≤ x3 then K ((-1)) M else K x3 M) else RI d μX9_nextChoice 24 [(0, .ref 58), (1, .int x1), (2, .int x2), (3, .int (x3 + 1))] [] M K)))))) : RI d μX9_nextChoice 24 [(0, .ref 58), (1, .int x1), (2, .int x2), (3, .int x3)] [] M K := by
  show Rn d μX9_nextChoice 24 [(0, .ref 58), (1, .int x1), (2, .int x2), (3, .int x3)] [] M _
  refine rn_iload_n (i := 3) (x := x3) dX9_nextChoice_24 rfl (by simp) ?_
  refine rn_aload_n (i := 0) (x := 58) dX9_nextChoice_25 rfl (by simp) ?_
  refine rn_geti dX9_nextChoice_26 rfl gf_X9_326 (by decide) ?_
  refine rn_icmp_ge (tgt := 60) dX9_nextChoice_29 (by decide) (ite_go h (fun hc h => ?_) (fun hc h => ?_))
  · refine rn_iload_n (i := 3) (x := x3) dX9_nextChoice_60 rfl (by simp) ?_
    refine rn_aload_n (i := 0) (x := 58) dX9_nextChoice_61 rfl (by simp) ?_
    refine rn_geti dX9_nextChoice_62 rfl gf_X9_326 (by decide) ?_
    refine rn_icmp_ge (tgt := 72) dX9_nextChoice_65 (by decide) (ite_go h (fun hc h => ?_) (fun hc h => ?_))
    · refine rn_iconst (v := -1) dX9_nextChoice_72 rfl ?_
      exact rn_iret dX9_nextChoice_73 rfl ⟨_, rfl, h⟩
    · refine rn_iload_n (i := 3) (x := x3) dX9_nextChoice_68 rfl (by simp) ?_
      refine rn_goto (tgt := 73) dX9_nextChoice_69 (by decide) ?_
      exact rn_iret dX9_nextChoice_73 rfl ⟨_, rfl, h⟩
  · refine rn_aload_n (i := 0) (x := 58) dX9_nextChoice_32 rfl (by simp) ?_
    refine rn_getr (t := 75) dX9_nextChoice_33 rfl gf_X9_63 rfl rfl ?_
    refine rn_iload_n (i := 1) (x := x1) dX9_nextChoice_36 rfl (by simp) ?_
    obtain ⟨hi, h⟩ := h
    refine rn_iaload dX9_nextChoice_37 rfl hi ?_
    refine rn_iload_n (i := 3) (x := x3) dX9_nextChoice_38 rfl (by simp) ?_
    refine rn_ishr dX9_nextChoice_39 ?_
    refine rn_iconst (v := 1) dX9_nextChoice_40 rfl ?_
    refine rn_iand dX9_nextChoice_41 ?_
    refine rn_if_eq (tgt := 54) dX9_nextChoice_42 (by decide) (ite_go h (fun hc h => ?_) (fun hc h => ?_))
    · refine rn_iinc (x := x3) (v := x3 + 1) (lv' := [(0, .ref 58), (1, .int x1), (2, .int x2), (3, .int (x3 + 1))]) dX9_nextChoice_54 (by simp) rfl (by decide) rfl rfl ?_
      refine rn_goto (tgt := 24) dX9_nextChoice_57 (by decide) ?_
      exact h
    · refine rn_aload_n (i := 0) (x := 58) dX9_nextChoice_45 rfl (by simp) ?_
      refine rn_getr (t := 74) dX9_nextChoice_46 rfl gf_X9_60 rfl rfl ?_
      refine rn_iload_n (i := 3) (x := x3) dX9_nextChoice_49 rfl (by simp) ?_
      obtain ⟨hi, h⟩ := h
      refine rn_iaload dX9_nextChoice_50 rfl hi ?_
      refine rn_if_lt (tgt := 60) dX9_nextChoice_51 (by decide) (ite_go h (fun hc h => ?_) (fun hc h => ?_))
      · refine rn_iload_n (i := 3) (x := x3) dX9_nextChoice_60 rfl (by simp) ?_
        refine rn_aload_n (i := 0) (x := 58) dX9_nextChoice_61 rfl (by simp) ?_
        refine rn_geti dX9_nextChoice_62 rfl gf_X9_326 (by decide) ?_
        refine rn_icmp_ge (tgt := 72) dX9_nextChoice_65 (by decide) (ite_go h (fun hc h => ?_) (fun hc h => ?_))
        · refine rn_iconst (v := -1) dX9_nextChoice_72 rfl ?_
          exact rn_iret dX9_nextChoice_73 rfl ⟨_, rfl, h⟩
        · refine rn_iload_n (i := 3) (x := x3) dX9_nextChoice_68 rfl (by simp) ?_
          refine rn_goto (tgt := 73) dX9_nextChoice_69 (by decide) ?_
          exact rn_iret dX9_nextChoice_73 rfl ⟨_, rfl, h⟩
      · refine rn_iinc (x := x3) (v := x3 + 1) (lv' := [(0, .ref 58), (1, .int x1), (2, .int x2), (3, .int (x3 + 1))]) dX9_nextChoice_54 (by simp) rfl (by decide) rfl rfl ?_
        refine rn_goto (tgt := 24) dX9_nextChoice_57 (by decide) ?_
        exact h
theorem dX9_isTaken_0 : decode μX9_isTaken.2.1 0 = .ok (.aload_n 0, 1) := by decide +kernel
theorem dX9_isTaken_1 : decode μX9_isTaken.2.1 1 = .ok (.getfield 60, 3) := by decide +kernel
theorem dX9_isTaken_4 : decode μX9_isTaken.2.1 4 = .ok (.iload_n 1, 1) := by decide +kernel
theorem dX9_isTaken_5 : decode μX9_isTaken.2.1 5 = .ok (.iaload, 1) := by decide +kernel
theorem dX9_isTaken_6 : decode μX9_isTaken.2.1 6 = .ok (.ifCond .lt 17, 3) := by decide +kernel
theorem dX9_isTaken_9 : decode μX9_isTaken.2.1 9 = .ok (.aload_n 0, 1) := by decide +kernel
theorem dX9_isTaken_10 : decode μX9_isTaken.2.1 10 = .ok (.getfield 60, 3) := by decide +kernel
theorem dX9_isTaken_13 : decode μX9_isTaken.2.1 13 = .ok (.iload_n 1, 1) := by decide +kernel
theorem dX9_isTaken_14 : decode μX9_isTaken.2.1 14 = .ok (.iaload, 1) := by decide +kernel
theorem dX9_isTaken_15 : decode μX9_isTaken.2.1 15 = .ok (.iload_n 1, 1) := by decide +kernel
theorem dX9_isTaken_16 : decode μX9_isTaken.2.1 16 = .ok (.if_icmp .ge 7, 3) := by decide +kernel
theorem dX9_isTaken_19 : decode μX9_isTaken.2.1 19 = .ok (.iconst 1, 1) := by decide +kernel
theorem dX9_isTaken_20 : decode μX9_isTaken.2.1 20 = .ok (.goto 4, 3) := by decide +kernel
theorem dX9_isTaken_23 : decode μX9_isTaken.2.1 23 = .ok (.iconst 0, 1) := by decide +kernel
theorem dX9_isTaken_24 : decode μX9_isTaken.2.1 24 = .ok (.ireturn, 1) := by decide +kernel
set_option maxRecDepth 20000 in
theorem sg_X9_isTaken_0 {d : Nat} {x1 : Int32} {M : Mem} {K : (Int32 → Mem → Prop)}  (h : (vp_in x1 8 ∧ (if ri M 74 (nx x1) < 0 then K 0 M else (vp_in x1 8 ∧ (if x1 ≤ ri M 74 (nx x1) then K 0 M else K 1 M))))) : CI d μX9_isTaken [.ref 58, .int x1] M K := by
  show Rn d μX9_isTaken 0 [(0, .ref 58), (1, .int x1)] [] M _
  refine rn_aload_n (i := 0) (x := 58) dX9_isTaken_0 rfl (by simp) ?_
  refine rn_getr (t := 74) dX9_isTaken_1 rfl gf_X9_60 rfl rfl ?_
  refine rn_iload_n (i := 1) (x := x1) dX9_isTaken_4 rfl (by simp) ?_
  obtain ⟨hi, h⟩ := h
  refine rn_iaload dX9_isTaken_5 rfl hi ?_
  refine rn_if_lt (tgt := 23) dX9_isTaken_6 (by decide) (ite_go h (fun hc h => ?_) (fun hc h => ?_))
  · refine rn_iconst (v := 0) dX9_isTaken_23 rfl ?_
    exact rn_zret dX9_isTaken_24 rfl (by decide) ⟨_, rfl, h⟩
  · refine rn_aload_n (i := 0) (x := 58) dX9_isTaken_9 rfl (by simp) ?_
    refine rn_getr (t := 74) dX9_isTaken_10 rfl gf_X9_60 rfl rfl ?_
    refine rn_iload_n (i := 1) (x := x1) dX9_isTaken_13 rfl (by simp) ?_
    obtain ⟨hi, h⟩ := h
    refine rn_iaload dX9_isTaken_14 rfl hi ?_
    refine rn_iload_n (i := 1) (x := x1) dX9_isTaken_15 rfl (by simp) ?_
    refine rn_icmp_ge (tgt := 23) dX9_isTaken_16 (by decide) (ite_go h (fun hc h => ?_) (fun hc h => ?_))
    · refine rn_iconst (v := 0) dX9_isTaken_23 rfl ?_
      exact rn_zret dX9_isTaken_24 rfl (by decide) ⟨_, rfl, h⟩
    · refine rn_iconst (v := 1) dX9_isTaken_19 rfl ?_
      refine rn_goto (tgt := 24) dX9_isTaken_20 (by decide) ?_
      exact rn_zret dX9_isTaken_24 rfl (by decide) ⟨_, rfl, h⟩
theorem dX9_peace_0 : decode μX9_peace.2.1 0 = .ok (.aload_n 0, 1) := by decide +kernel
theorem dX9_peace_1 : decode μX9_peace.2.1 1 = .ok (.invokevirtual 424, 3) := by decide +kernel
theorem dX9_peace_4 : decode μX9_peace.2.1 4 = .ok (.aload_n 0, 1) := by decide +kernel
theorem dX9_peace_5 : decode μX9_peace.2.1 5 = .ok (.invokevirtual 456, 3) := by decide +kernel
theorem dX9_peace_8 : decode μX9_peace.2.1 8 = .ok (.iconst 0, 1) := by decide +kernel
theorem dX9_peace_9 : decode μX9_peace.2.1 9 = .ok (.istore_n 1, 1) := by decide +kernel
theorem dX9_peace_10 : decode μX9_peace.2.1 10 = .ok (.iload_n 1, 1) := by decide +kernel
theorem dX9_peace_11 : decode μX9_peace.2.1 11 = .ok (.bipush 8, 2) := by decide +kernel
theorem dX9_peace_13 : decode μX9_peace.2.1 13 = .ok (.if_icmp .ge 17, 3) := by decide +kernel
theorem dX9_peace_16 : decode μX9_peace.2.1 16 = .ok (.aload_n 0, 1) := by decide +kernel
theorem dX9_peace_17 : decode μX9_peace.2.1 17 = .ok (.getfield 60, 3) := by decide +kernel
theorem dX9_peace_20 : decode μX9_peace.2.1 20 = .ok (.iload_n 1, 1) := by decide +kernel
theorem dX9_peace_21 : decode μX9_peace.2.1 21 = .ok (.bipush (-2), 2) := by decide +kernel
theorem dX9_peace_23 : decode μX9_peace.2.1 23 = .ok (.iastore, 1) := by decide +kernel
theorem dX9_peace_24 : decode μX9_peace.2.1 24 = .ok (.iinc 1 1, 3) := by decide +kernel
theorem dX9_peace_27 : decode μX9_peace.2.1 27 = .ok (.goto (-17), 3) := by decide +kernel
theorem dX9_peace_30 : decode μX9_peace.2.1 30 = .ok (.iconst (-1), 1) := by decide +kernel
theorem dX9_peace_31 : decode μX9_peace.2.1 31 = .ok (.istore_n 1, 1) := by decide +kernel
theorem dX9_peace_32 : decode μX9_peace.2.1 32 = .ok (.iconst 0, 1) := by decide +kernel
theorem dX9_peace_33 : decode μX9_peace.2.1 33 = .ok (.istore_n 2, 1) := by decide +kernel
theorem dX9_peace_34 : decode μX9_peace.2.1 34 = .ok (.iload_n 2, 1) := by decide +kernel
theorem dX9_peace_35 : decode μX9_peace.2.1 35 = .ok (.ifCond .lt 194, 3) := by decide +kernel
theorem dX9_peace_38 : decode μX9_peace.2.1 38 = .ok (.iload_n 2, 1) := by decide +kernel
theorem dX9_peace_39 : decode μX9_peace.2.1 39 = .ok (.aload_n 0, 1) := by decide +kernel
theorem dX9_peace_40 : decode μX9_peace.2.1 40 = .ok (.getfield 326, 3) := by decide +kernel
theorem dX9_peace_43 : decode μX9_peace.2.1 43 = .ok (.if_icmp .ne 94, 3) := by decide +kernel
theorem dX9_peace_46 : decode μX9_peace.2.1 46 = .ok (.iconst 0, 1) := by decide +kernel
theorem dX9_peace_47 : decode μX9_peace.2.1 47 = .ok (.istore_n 3, 1) := by decide +kernel
theorem dX9_peace_48 : decode μX9_peace.2.1 48 = .ok (.iconst 0, 1) := by decide +kernel
theorem dX9_peace_49 : decode μX9_peace.2.1 49 = .ok (.istore 4, 2) := by decide +kernel
theorem dX9_peace_51 : decode μX9_peace.2.1 51 = .ok (.iload 4, 2) := by decide +kernel
theorem dX9_peace_53 : decode μX9_peace.2.1 53 = .ok (.aload_n 0, 1) := by decide +kernel
theorem dX9_peace_54 : decode μX9_peace.2.1 54 = .ok (.getfield 326, 3) := by decide +kernel
theorem dX9_peace_57 : decode μX9_peace.2.1 57 = .ok (.if_icmp .ge 32, 3) := by decide +kernel
theorem dX9_peace_60 : decode μX9_peace.2.1 60 = .ok (.iload_n 3, 1) := by decide +kernel
theorem dX9_peace_61 : decode μX9_peace.2.1 61 = .ok (.aload_n 0, 1) := by decide +kernel
theorem dX9_peace_62 : decode μX9_peace.2.1 62 = .ok (.getfield 60, 3) := by decide +kernel
theorem dX9_peace_65 : decode μX9_peace.2.1 65 = .ok (.iload 4, 2) := by decide +kernel
theorem dX9_peace_67 : decode μX9_peace.2.1 67 = .ok (.iaload, 1) := by decide +kernel
theorem dX9_peace_68 : decode μX9_peace.2.1 68 = .ok (.iload 4, 2) := by decide +kernel
theorem dX9_peace_70 : decode μX9_peace.2.1 70 = .ok (.if_icmp .le 7, 3) := by decide +kernel
theorem dX9_peace_73 : decode μX9_peace.2.1 73 = .ok (.iconst 1, 1) := by decide +kernel
theorem dX9_peace_74 : decode μX9_peace.2.1 74 = .ok (.goto 4, 3) := by decide +kernel
theorem dX9_peace_77 : decode μX9_peace.2.1 77 = .ok (.iconst 0, 1) := by decide +kernel
theorem dX9_peace_78 : decode μX9_peace.2.1 78 = .ok (.invokestatic 261, 3) := by decide +kernel
theorem dX9_peace_81 : decode μX9_peace.2.1 81 = .ok (.iadd, 1) := by decide +kernel
theorem dX9_peace_82 : decode μX9_peace.2.1 82 = .ok (.istore_n 3, 1) := by decide +kernel
theorem dX9_peace_83 : decode μX9_peace.2.1 83 = .ok (.iinc 4 1, 3) := by decide +kernel
theorem dX9_peace_86 : decode μX9_peace.2.1 86 = .ok (.goto (-35), 3) := by decide +kernel
theorem dX9_peace_89 : decode μX9_peace.2.1 89 = .ok (.iload_n 3, 1) := by decide +kernel
theorem dX9_peace_90 : decode μX9_peace.2.1 90 = .ok (.iload_n 1, 1) := by decide +kernel
theorem dX9_peace_91 : decode μX9_peace.2.1 91 = .ok (.if_icmp .le 37, 3) := by decide +kernel
theorem dX9_peace_94 : decode μX9_peace.2.1 94 = .ok (.iload_n 3, 1) := by decide +kernel
theorem dX9_peace_95 : decode μX9_peace.2.1 95 = .ok (.istore_n 1, 1) := by decide +kernel
theorem dX9_peace_96 : decode μX9_peace.2.1 96 = .ok (.iconst 0, 1) := by decide +kernel
theorem dX9_peace_97 : decode μX9_peace.2.1 97 = .ok (.istore 4, 2) := by decide +kernel
theorem dX9_peace_99 : decode μX9_peace.2.1 99 = .ok (.iload 4, 2) := by decide +kernel
theorem dX9_peace_101 : decode μX9_peace.2.1 101 = .ok (.aload_n 0, 1) := by decide +kernel
theorem dX9_peace_102 : decode μX9_peace.2.1 102 = .ok (.getfield 326, 3) := by decide +kernel
theorem dX9_peace_105 : decode μX9_peace.2.1 105 = .ok (.if_icmp .ge 23, 3) := by decide +kernel
theorem dX9_peace_108 : decode μX9_peace.2.1 108 = .ok (.aload_n 0, 1) := by decide +kernel
theorem dX9_peace_109 : decode μX9_peace.2.1 109 = .ok (.getfield 57, 3) := by decide +kernel
theorem dX9_peace_112 : decode μX9_peace.2.1 112 = .ok (.iload 4, 2) := by decide +kernel
theorem dX9_peace_114 : decode μX9_peace.2.1 114 = .ok (.aload_n 0, 1) := by decide +kernel
theorem dX9_peace_115 : decode μX9_peace.2.1 115 = .ok (.getfield 60, 3) := by decide +kernel
theorem dX9_peace_118 : decode μX9_peace.2.1 118 = .ok (.iload 4, 2) := by decide +kernel
theorem dX9_peace_120 : decode μX9_peace.2.1 120 = .ok (.iaload, 1) := by decide +kernel
theorem dX9_peace_121 : decode μX9_peace.2.1 121 = .ok (.iastore, 1) := by decide +kernel
theorem dX9_peace_122 : decode μX9_peace.2.1 122 = .ok (.iinc 4 1, 3) := by decide +kernel
theorem dX9_peace_125 : decode μX9_peace.2.1 125 = .ok (.goto (-26), 3) := by decide +kernel
theorem dX9_peace_128 : decode μX9_peace.2.1 128 = .ok (.aload_n 0, 1) := by decide +kernel
theorem dX9_peace_129 : decode μX9_peace.2.1 129 = .ok (.iload_n 2, 1) := by decide +kernel
theorem dX9_peace_130 : decode μX9_peace.2.1 130 = .ok (.invokevirtual 465, 3) := by decide +kernel
theorem dX9_peace_133 : decode μX9_peace.2.1 133 = .ok (.istore_n 2, 1) := by decide +kernel
theorem dX9_peace_134 : decode μX9_peace.2.1 134 = .ok (.goto (-100), 3) := by decide +kernel
theorem dX9_peace_137 : decode μX9_peace.2.1 137 = .ok (.aload_n 0, 1) := by decide +kernel
theorem dX9_peace_138 : decode μX9_peace.2.1 138 = .ok (.iload_n 2, 1) := by decide +kernel
theorem dX9_peace_139 : decode μX9_peace.2.1 139 = .ok (.invokevirtual 468, 3) := by decide +kernel
theorem dX9_peace_142 : decode μX9_peace.2.1 142 = .ok (.ifCond .eq 9, 3) := by decide +kernel
theorem dX9_peace_145 : decode μX9_peace.2.1 145 = .ok (.iinc 2 1, 3) := by decide +kernel
theorem dX9_peace_148 : decode μX9_peace.2.1 148 = .ok (.goto (-114), 3) := by decide +kernel
theorem dX9_peace_151 : decode μX9_peace.2.1 151 = .ok (.aload_n 0, 1) := by decide +kernel
theorem dX9_peace_152 : decode μX9_peace.2.1 152 = .ok (.getfield 60, 3) := by decide +kernel
theorem dX9_peace_155 : decode μX9_peace.2.1 155 = .ok (.iload_n 2, 1) := by decide +kernel
theorem dX9_peace_156 : decode μX9_peace.2.1 156 = .ok (.iaload, 1) := by decide +kernel
theorem dX9_peace_157 : decode μX9_peace.2.1 157 = .ok (.istore_n 3, 1) := by decide +kernel
theorem dX9_peace_158 : decode μX9_peace.2.1 158 = .ok (.iload_n 3, 1) := by decide +kernel
theorem dX9_peace_159 : decode μX9_peace.2.1 159 = .ok (.ifCond .lt 11, 3) := by decide +kernel
theorem dX9_peace_162 : decode μX9_peace.2.1 162 = .ok (.aload_n 0, 1) := by decide +kernel
theorem dX9_peace_163 : decode μX9_peace.2.1 163 = .ok (.getfield 60, 3) := by decide +kernel
theorem dX9_peace_166 : decode μX9_peace.2.1 166 = .ok (.iload_n 3, 1) := by decide +kernel
theorem dX9_peace_167 : decode μX9_peace.2.1 167 = .ok (.bipush (-2), 2) := by decide +kernel
theorem dX9_peace_169 : decode μX9_peace.2.1 169 = .ok (.iastore, 1) := by decide +kernel
theorem dX9_peace_170 : decode μX9_peace.2.1 170 = .ok (.aload_n 0, 1) := by decide +kernel
theorem dX9_peace_171 : decode μX9_peace.2.1 171 = .ok (.getfield 60, 3) := by decide +kernel
theorem dX9_peace_174 : decode μX9_peace.2.1 174 = .ok (.iload_n 2, 1) := by decide +kernel
theorem dX9_peace_175 : decode μX9_peace.2.1 175 = .ok (.aload_n 0, 1) := by decide +kernel
theorem dX9_peace_176 : decode μX9_peace.2.1 176 = .ok (.iload_n 2, 1) := by decide +kernel
theorem dX9_peace_177 : decode μX9_peace.2.1 177 = .ok (.iload_n 3, 1) := by decide +kernel
theorem dX9_peace_178 : decode μX9_peace.2.1 178 = .ok (.invokevirtual 471, 3) := by decide +kernel
theorem dX9_peace_181 : decode μX9_peace.2.1 181 = .ok (.iastore, 1) := by decide +kernel
theorem dX9_peace_182 : decode μX9_peace.2.1 182 = .ok (.aload_n 0, 1) := by decide +kernel
theorem dX9_peace_183 : decode μX9_peace.2.1 183 = .ok (.getfield 60, 3) := by decide +kernel
theorem dX9_peace_186 : decode μX9_peace.2.1 186 = .ok (.iload_n 2, 1) := by decide +kernel
theorem dX9_peace_187 : decode μX9_peace.2.1 187 = .ok (.iaload, 1) := by decide +kernel
theorem dX9_peace_188 : decode μX9_peace.2.1 188 = .ok (.ifCond .lt 15, 3) := by decide +kernel
theorem dX9_peace_191 : decode μX9_peace.2.1 191 = .ok (.aload_n 0, 1) := by decide +kernel
theorem dX9_peace_192 : decode μX9_peace.2.1 192 = .ok (.getfield 60, 3) := by decide +kernel
theorem dX9_peace_195 : decode μX9_peace.2.1 195 = .ok (.aload_n 0, 1) := by decide +kernel
theorem dX9_peace_196 : decode μX9_peace.2.1 196 = .ok (.getfield 60, 3) := by decide +kernel
theorem dX9_peace_199 : decode μX9_peace.2.1 199 = .ok (.iload_n 2, 1) := by decide +kernel
theorem dX9_peace_200 : decode μX9_peace.2.1 200 = .ok (.iaload, 1) := by decide +kernel
theorem dX9_peace_201 : decode μX9_peace.2.1 201 = .ok (.iload_n 2, 1) := by decide +kernel
theorem dX9_peace_202 : decode μX9_peace.2.1 202 = .ok (.iastore, 1) := by decide +kernel
theorem dX9_peace_203 : decode μX9_peace.2.1 203 = .ok (.aload_n 0, 1) := by decide +kernel
theorem dX9_peace_204 : decode μX9_peace.2.1 204 = .ok (.getfield 60, 3) := by decide +kernel
theorem dX9_peace_207 : decode μX9_peace.2.1 207 = .ok (.iload_n 2, 1) := by decide +kernel
theorem dX9_peace_208 : decode μX9_peace.2.1 208 = .ok (.iaload, 1) := by decide +kernel
theorem dX9_peace_209 : decode μX9_peace.2.1 209 = .ok (.bipush (-2), 2) := by decide +kernel
theorem dX9_peace_211 : decode μX9_peace.2.1 211 = .ok (.if_icmp .ne 11, 3) := by decide +kernel
theorem dX9_peace_214 : decode μX9_peace.2.1 214 = .ok (.aload_n 0, 1) := by decide +kernel
theorem dX9_peace_215 : decode μX9_peace.2.1 215 = .ok (.iload_n 2, 1) := by decide +kernel
theorem dX9_peace_216 : decode μX9_peace.2.1 216 = .ok (.invokevirtual 465, 3) := by decide +kernel
theorem dX9_peace_219 : decode μX9_peace.2.1 219 = .ok (.goto 6, 3) := by decide +kernel
theorem dX9_peace_222 : decode μX9_peace.2.1 222 = .ok (.iload_n 2, 1) := by decide +kernel
theorem dX9_peace_223 : decode μX9_peace.2.1 223 = .ok (.iconst 1, 1) := by decide +kernel
theorem dX9_peace_224 : decode μX9_peace.2.1 224 = .ok (.iadd, 1) := by decide +kernel
theorem dX9_peace_225 : decode μX9_peace.2.1 225 = .ok (.istore_n 2, 1) := by decide +kernel
theorem dX9_peace_226 : decode μX9_peace.2.1 226 = .ok (.goto (-192), 3) := by decide +kernel
theorem dX9_peace_229 : decode μX9_peace.2.1 229 = .ok (.aload_n 0, 1) := by decide +kernel
theorem dX9_peace_230 : decode μX9_peace.2.1 230 = .ok (.aload_n 0, 1) := by decide +kernel
theorem dX9_peace_231 : decode μX9_peace.2.1 231 = .ok (.getfield 326, 3) := by decide +kernel
theorem dX9_peace_234 : decode μX9_peace.2.1 234 = .ok (.putfield 417, 3) := by decide +kernel
theorem dX9_peace_237 : decode μX9_peace.2.1 237 = .ok (.iload_n 1, 1) := by decide +kernel
theorem dX9_peace_238 : decode μX9_peace.2.1 238 = .ok (.ireturn, 1) := by decide +kernel
set_option maxRecDepth 20000 in
theorem sg_X9_peace_0 {d : Nat}  {M : Mem} {K : (Int32 → Mem → Prop)}  (h : (CV d μX9_fill [.ref 58] M (fun M1 => (CV d μX9_layNexts [.ref 58] M1 (fun M2 => RI (d + 1) μX9_peace 10 [(0, .ref 58), (1, .int 0)] [] M2 K))))) : CI (d + 1) μX9_peace [.ref 58] M K := by
  show Rn (d + 1) μX9_peace 0 [(0, .ref 58)] [] M _
  refine rn_aload_n (i := 0) (x := 58) dX9_peace_0 rfl (by simp) ?_
  refine rn_callVv (as := []) (st := []) dX9_peace_1 mf_X9_fill lk_X9_424 im_X9_fill rfl rfl rfl rfl (Nat.le_of_ble_eq_true rfl) (Nat.le_of_ble_eq_true rfl) rfl (RV.mono h (fun M1 h => ?_))
  refine rn_aload_n (i := 0) (x := 58) dX9_peace_4 rfl (by simp) ?_
  refine rn_callVv (as := []) (st := []) dX9_peace_5 mf_X9_layNexts lk_X9_456 im_X9_layNexts rfl rfl rfl rfl (Nat.le_of_ble_eq_true rfl) (Nat.le_of_ble_eq_true rfl) rfl (RV.mono h (fun M2 h => ?_))
  refine rn_iconst (v := 0) dX9_peace_8 rfl ?_
  refine rn_istore_n (lv' := [(0, .ref 58), (1, .int 0)]) (hd := dX9_peace_9) (i := 1) (hi := rfl) (hn := by decide) (hf := rfl) (hl := rfl) ?_
  exact h
set_option maxRecDepth 20000 in
theorem sg_X9_peace_10 {d : Nat} {x1 : Int32} {M : Mem} {K : (Int32 → Mem → Prop)}  (h : (if 8 ≤ x1 then RI (d + 1) μX9_peace 34 [(0, .ref 58), (1, .int ((-1))), (2, .int 0)] [] M K else (vp_in x1 8 ∧ ∀ M1, M1 = wi M 74 (nx x1) ((-2)) → RI (d + 1) μX9_peace 10 [(0, .ref 58), (1, .int (x1 + 1))] [] M1 K))) : RI (d + 1) μX9_peace 10 [(0, .ref 58), (1, .int x1)] [] M K := by
  show Rn (d + 1) μX9_peace 10 [(0, .ref 58), (1, .int x1)] [] M _
  refine rn_iload_n (i := 1) (x := x1) dX9_peace_10 rfl (by simp) ?_
  refine rn_bipush (v := 8) dX9_peace_11 rfl ?_
  refine rn_icmp_ge (tgt := 30) dX9_peace_13 (by decide) (ite_go h (fun hc h => ?_) (fun hc h => ?_))
  · refine rn_iconst (v := -1) dX9_peace_30 rfl ?_
    refine rn_istore_n (lv' := [(0, .ref 58), (1, .int ((-1)))]) (hd := dX9_peace_31) (i := 1) (hi := rfl) (hn := by decide) (hf := rfl) (hl := rfl) ?_
    refine rn_iconst (v := 0) dX9_peace_32 rfl ?_
    refine rn_istore_n (lv' := [(0, .ref 58), (1, .int ((-1))), (2, .int 0)]) (hd := dX9_peace_33) (i := 2) (hi := rfl) (hn := by decide) (hf := rfl) (hl := rfl) ?_
    exact h
  · refine rn_aload_n (i := 0) (x := 58) dX9_peace_16 rfl (by simp) ?_
    refine rn_getr (t := 74) dX9_peace_17 rfl gf_X9_60 rfl rfl ?_
    refine rn_iload_n (i := 1) (x := x1) dX9_peace_20 rfl (by simp) ?_
    refine rn_bipush (v := -2) dX9_peace_21 rfl ?_
    obtain ⟨hi, h⟩ := h
    have h := h _ rfl
    refine rn_iastore dX9_peace_23 rfl hi ?_
    generalize wi M 74 (nx x1) ((-2)) = M1 at h ⊢
    refine rn_iinc (x := x1) (v := x1 + 1) (lv' := [(0, .ref 58), (1, .int (x1 + 1))]) dX9_peace_24 (by simp) rfl (by decide) rfl rfl ?_
    refine rn_goto (tgt := 10) dX9_peace_27 (by decide) ?_
    exact h
set_option maxRecDepth 20000 in
theorem sg_X9_peace_34 {d : Nat} {x1 : Int32} {x2 : Int32} {M : Mem} {K : (Int32 → Mem → Prop)}  (h : (if x2 < 0 then (∀ M1, M1 = wi M 58 45 (ri M 58 35) → K x1 M1) else (if x2 = ri M 58 35 then RI (d + 1) μX9_peace 51 [(0, .ref 58), (1, .int x1), (2, .int x2), (3, .int 0), (4, .int 0)] [] M K else (CI d μX9_isTaken [.ref 58, .int x2] M (fun r3 M2 => (if r3 = 0 then (vp_in x2 8 ∧ (if ri M2 74 (nx x2) < 0 then RI (d + 1) μX9_peace 170 [(0, .ref 58), (1, .int x1), (2, .int x2), (3, .int (ri M2 74 (nx x2)))] [] M2 K else (vp_in (ri M2 74 (nx x2)) 8 ∧ ∀ M4, M4 = wi M2 74 (nx (ri M2 74 (nx x2))) ((-2)) → RI (d + 1) μX9_peace 170 [(0, .ref 58), (1, .int x1), (2, .int x2), (3, .int (ri M2 74 (nx x2)))] [] M4 K))) else RI (d + 1) μX9_peace 34 [(0, .ref 58), (1, .int x1), (2, .int (x2 + 1))] [] M2 K)))))) : RI (d + 1) μX9_peace 34 [(0, .ref 58), (1, .int x1), (2, .int x2)] [] M K := by
  show Rn (d + 1) μX9_peace 34 [(0, .ref 58), (1, .int x1), (2, .int x2)] [] M _
  refine rn_iload_n (i := 2) (x := x2) dX9_peace_34 rfl (by simp) ?_
  refine rn_if_lt (tgt := 229) dX9_peace_35 (by decide) (ite_go h (fun hc h => ?_) (fun hc h => ?_))
  · refine rn_aload_n (i := 0) (x := 58) dX9_peace_229 rfl (by simp) ?_
    refine rn_aload_n (i := 0) (x := 58) dX9_peace_230 rfl (by simp) ?_
    refine rn_geti dX9_peace_231 rfl gf_X9_326 (by decide) ?_
    have h := h _ rfl
    refine rn_puti dX9_peace_234 rfl pf_X9_417 (by decide) rfl rfl ?_
    generalize wi M 58 45 (ri M 58 35) = M1 at h ⊢
    refine rn_iload_n (i := 1) (x := x1) dX9_peace_237 rfl (by simp) ?_
    exact rn_iret dX9_peace_238 rfl ⟨_, rfl, h⟩
  · refine rn_iload_n (i := 2) (x := x2) dX9_peace_38 rfl (by simp) ?_
    refine rn_aload_n (i := 0) (x := 58) dX9_peace_39 rfl (by simp) ?_
    refine rn_geti dX9_peace_40 rfl gf_X9_326 (by decide) ?_
    refine rn_icmp_ne (tgt := 137) dX9_peace_43 (by decide) (ite_go h (fun hc h => ?_) (fun hc h => ?_))
    · refine rn_iconst (v := 0) dX9_peace_46 rfl ?_
      refine rn_istore_n (lv' := [(0, .ref 58), (1, .int x1), (2, .int x2), (3, .int 0)]) (hd := dX9_peace_47) (i := 3) (hi := rfl) (hn := by decide) (hf := rfl) (hl := rfl) ?_
      refine rn_iconst (v := 0) dX9_peace_48 rfl ?_
      refine rn_istore (lv' := [(0, .ref 58), (1, .int x1), (2, .int x2), (3, .int 0), (4, .int 0)]) (hd := dX9_peace_49) (hn := by decide) (hf := rfl) (hl := rfl) ?_
      exact h
    · refine rn_aload_n (i := 0) (x := 58) dX9_peace_137 rfl (by simp) ?_
      refine rn_iload_n (i := 2) (x := x2) dX9_peace_138 rfl (by simp) ?_
      refine rn_callVi (as := [.int x2]) (st := []) dX9_peace_139 mf_X9_isTaken lk_X9_468 im_X9_isTaken rfl rfl rfl rfl (Nat.le_of_ble_eq_true rfl) (Nat.le_of_ble_eq_true rfl) rfl (RI.mono h (fun r3 M2 h => ?_))
      refine rn_if_eq (tgt := 151) dX9_peace_142 (by decide) (ite_go h (fun hc h => ?_) (fun hc h => ?_))
      · refine rn_aload_n (i := 0) (x := 58) dX9_peace_151 rfl (by simp) ?_
        refine rn_getr (t := 74) dX9_peace_152 rfl gf_X9_60 rfl rfl ?_
        refine rn_iload_n (i := 2) (x := x2) dX9_peace_155 rfl (by simp) ?_
        obtain ⟨hi, h⟩ := h
        refine rn_iaload dX9_peace_156 rfl hi ?_
        refine rn_istore_n (lv' := [(0, .ref 58), (1, .int x1), (2, .int x2), (3, .int (ri M2 74 (nx x2)))]) (hd := dX9_peace_157) (i := 3) (hi := rfl) (hn := by decide) (hf := rfl) (hl := rfl) ?_
        refine rn_iload_n (i := 3) (x := ri M2 74 (nx x2)) dX9_peace_158 rfl (by simp) ?_
        refine rn_if_lt (tgt := 170) dX9_peace_159 (by decide) (ite_go h (fun hc h => ?_) (fun hc h => ?_))
        · exact h
        · refine rn_aload_n (i := 0) (x := 58) dX9_peace_162 rfl (by simp) ?_
          refine rn_getr (t := 74) dX9_peace_163 rfl gf_X9_60 rfl rfl ?_
          refine rn_iload_n (i := 3) (x := ri M2 74 (nx x2)) dX9_peace_166 rfl (by simp) ?_
          refine rn_bipush (v := -2) dX9_peace_167 rfl ?_
          obtain ⟨hi, h⟩ := h
          have h := h _ rfl
          refine rn_iastore dX9_peace_169 rfl hi ?_
          generalize wi M2 74 (nx (ri M2 74 (nx x2))) ((-2)) = M4 at h ⊢
          exact h
      · refine rn_iinc (x := x2) (v := x2 + 1) (lv' := [(0, .ref 58), (1, .int x1), (2, .int (x2 + 1))]) dX9_peace_145 (by simp) rfl (by decide) rfl rfl ?_
        refine rn_goto (tgt := 34) dX9_peace_148 (by decide) ?_
        exact h
set_option maxRecDepth 20000 in
theorem sg_X9_peace_51 {d : Nat} {x1 : Int32} {x2 : Int32} {x3 : Int32} {x4 : Int32} {M : Mem} {K : (Int32 → Mem → Prop)}  (h : (if ri M 58 35 ≤ x4 then (if x3 ≤ x1 then (CI d μX9_ahead [.ref 58, .int x2] M (fun r2 M1 => RI (d + 1) μX9_peace 34 [(0, .ref 58), (1, .int x1), (2, .int r2)] [] M1 K)) else RI (d + 1) μX9_peace 99 [(0, .ref 58), (1, .int x3), (2, .int x2), (3, .int x3), (4, .int 0)] [] M K) else (vp_in x4 8 ∧ (if ri M 74 (nx x4) ≤ x4 then (CI d μX9_truth [.int 0] M (fun r4 M3 => RI (d + 1) μX9_peace 51 [(0, .ref 58), (1, .int x1), (2, .int x2), (3, .int (x3 + r4)), (4, .int (x4 + 1))] [] M3 K)) else (CI d μX9_truth [.int 1] M (fun r6 M5 => RI (d + 1) μX9_peace 51 [(0, .ref 58), (1, .int x1), (2, .int x2), (3, .int (x3 + r6)), (4, .int (x4 + 1))] [] M5 K)))))) : RI (d + 1) μX9_peace 51 [(0, .ref 58), (1, .int x1), (2, .int x2), (3, .int x3), (4, .int x4)] [] M K := by
  show Rn (d + 1) μX9_peace 51 [(0, .ref 58), (1, .int x1), (2, .int x2), (3, .int x3), (4, .int x4)] [] M _
  refine rn_iload (x := x4) dX9_peace_51 (by simp) ?_
  refine rn_aload_n (i := 0) (x := 58) dX9_peace_53 rfl (by simp) ?_
  refine rn_geti dX9_peace_54 rfl gf_X9_326 (by decide) ?_
  refine rn_icmp_ge (tgt := 89) dX9_peace_57 (by decide) (ite_go h (fun hc h => ?_) (fun hc h => ?_))
  · refine rn_iload_n (i := 3) (x := x3) dX9_peace_89 rfl (by simp) ?_
    refine rn_iload_n (i := 1) (x := x1) dX9_peace_90 rfl (by simp) ?_
    refine rn_icmp_le (tgt := 128) dX9_peace_91 (by decide) (ite_go h (fun hc h => ?_) (fun hc h => ?_))
    · refine rn_aload_n (i := 0) (x := 58) dX9_peace_128 rfl (by simp) ?_
      refine rn_iload_n (i := 2) (x := x2) dX9_peace_129 rfl (by simp) ?_
      refine rn_callVi (as := [.int x2]) (st := []) dX9_peace_130 mf_X9_ahead lk_X9_465 im_X9_ahead rfl rfl rfl rfl (Nat.le_of_ble_eq_true rfl) (Nat.le_of_ble_eq_true rfl) rfl (RI.mono h (fun r2 M1 h => ?_))
      refine rn_istore_n (lv' := [(0, .ref 58), (1, .int x1), (2, .int r2), (3, .int x3), (4, .int x4)]) (hd := dX9_peace_133) (i := 2) (hi := rfl) (hn := by decide) (hf := rfl) (hl := rfl) ?_
      refine rn_goto (tgt := 34) dX9_peace_134 (by decide) ?_
      refine Rn.sub (lv' := [(0, .ref 58), (1, .int x1), (2, .int r2)]) (by simp) ?_
      exact h
    · refine rn_iload_n (i := 3) (x := x3) dX9_peace_94 rfl (by simp) ?_
      refine rn_istore_n (lv' := [(0, .ref 58), (1, .int x3), (2, .int x2), (3, .int x3), (4, .int x4)]) (hd := dX9_peace_95) (i := 1) (hi := rfl) (hn := by decide) (hf := rfl) (hl := rfl) ?_
      refine rn_iconst (v := 0) dX9_peace_96 rfl ?_
      refine rn_istore (lv' := [(0, .ref 58), (1, .int x3), (2, .int x2), (3, .int x3), (4, .int 0)]) (hd := dX9_peace_97) (hn := by decide) (hf := rfl) (hl := rfl) ?_
      exact h
  · refine rn_iload_n (i := 3) (x := x3) dX9_peace_60 rfl (by simp) ?_
    refine rn_aload_n (i := 0) (x := 58) dX9_peace_61 rfl (by simp) ?_
    refine rn_getr (t := 74) dX9_peace_62 rfl gf_X9_60 rfl rfl ?_
    refine rn_iload (x := x4) dX9_peace_65 (by simp) ?_
    obtain ⟨hi, h⟩ := h
    refine rn_iaload dX9_peace_67 rfl hi ?_
    refine rn_iload (x := x4) dX9_peace_68 (by simp) ?_
    refine rn_icmp_le (tgt := 77) dX9_peace_70 (by decide) (ite_go h (fun hc h => ?_) (fun hc h => ?_))
    · refine rn_iconst (v := 0) dX9_peace_77 rfl ?_
      refine rn_callSi (as := [.int 0]) (st := [.int x3]) dX9_peace_78 mf_X9_truth lk_X9_261 sm_X9_truth rfl (Nat.le_of_ble_eq_true rfl) (Nat.le_of_ble_eq_true rfl) rfl (RI.mono h (fun r4 M3 h => ?_))
      refine rn_iadd dX9_peace_81 ?_
      refine rn_istore_n (lv' := [(0, .ref 58), (1, .int x1), (2, .int x2), (3, .int (x3 + r4)), (4, .int x4)]) (hd := dX9_peace_82) (i := 3) (hi := rfl) (hn := by decide) (hf := rfl) (hl := rfl) ?_
      refine rn_iinc (x := x4) (v := x4 + 1) (lv' := [(0, .ref 58), (1, .int x1), (2, .int x2), (3, .int (x3 + r4)), (4, .int (x4 + 1))]) dX9_peace_83 (by simp) rfl (by decide) rfl rfl ?_
      refine rn_goto (tgt := 51) dX9_peace_86 (by decide) ?_
      exact h
    · refine rn_iconst (v := 1) dX9_peace_73 rfl ?_
      refine rn_goto (tgt := 78) dX9_peace_74 (by decide) ?_
      refine rn_callSi (as := [.int 1]) (st := [.int x3]) dX9_peace_78 mf_X9_truth lk_X9_261 sm_X9_truth rfl (Nat.le_of_ble_eq_true rfl) (Nat.le_of_ble_eq_true rfl) rfl (RI.mono h (fun r6 M5 h => ?_))
      refine rn_iadd dX9_peace_81 ?_
      refine rn_istore_n (lv' := [(0, .ref 58), (1, .int x1), (2, .int x2), (3, .int (x3 + r6)), (4, .int x4)]) (hd := dX9_peace_82) (i := 3) (hi := rfl) (hn := by decide) (hf := rfl) (hl := rfl) ?_
      refine rn_iinc (x := x4) (v := x4 + 1) (lv' := [(0, .ref 58), (1, .int x1), (2, .int x2), (3, .int (x3 + r6)), (4, .int (x4 + 1))]) dX9_peace_83 (by simp) rfl (by decide) rfl rfl ?_
      refine rn_goto (tgt := 51) dX9_peace_86 (by decide) ?_
      exact h
set_option maxRecDepth 20000 in
theorem sg_X9_peace_99 {d : Nat} {x1 : Int32} {x2 : Int32} {x3 : Int32} {x4 : Int32} {M : Mem} {K : (Int32 → Mem → Prop)}  (h : (if ri M 58 35 ≤ x4 then (CI d μX9_ahead [.ref 58, .int x2] M (fun r2 M1 => RI (d + 1) μX9_peace 34 [(0, .ref 58), (1, .int x1), (2, .int r2)] [] M1 K)) else (vp_in x4 8 ∧ (vp_in x4 8 ∧ ∀ M3, M3 = wi M 73 (nx x4) (ri M 74 (nx x4)) → RI (d + 1) μX9_peace 99 [(0, .ref 58), (1, .int x1), (2, .int x2), (3, .int x3), (4, .int (x4 + 1))] [] M3 K)))) : RI (d + 1) μX9_peace 99 [(0, .ref 58), (1, .int x1), (2, .int x2), (3, .int x3), (4, .int x4)] [] M K := by
  show Rn (d + 1) μX9_peace 99 [(0, .ref 58), (1, .int x1), (2, .int x2), (3, .int x3), (4, .int x4)] [] M _
  refine rn_iload (x := x4) dX9_peace_99 (by simp) ?_
  refine rn_aload_n (i := 0) (x := 58) dX9_peace_101 rfl (by simp) ?_
  refine rn_geti dX9_peace_102 rfl gf_X9_326 (by decide) ?_
  refine rn_icmp_ge (tgt := 128) dX9_peace_105 (by decide) (ite_go h (fun hc h => ?_) (fun hc h => ?_))
  · refine rn_aload_n (i := 0) (x := 58) dX9_peace_128 rfl (by simp) ?_
    refine rn_iload_n (i := 2) (x := x2) dX9_peace_129 rfl (by simp) ?_
    refine rn_callVi (as := [.int x2]) (st := []) dX9_peace_130 mf_X9_ahead lk_X9_465 im_X9_ahead rfl rfl rfl rfl (Nat.le_of_ble_eq_true rfl) (Nat.le_of_ble_eq_true rfl) rfl (RI.mono h (fun r2 M1 h => ?_))
    refine rn_istore_n (lv' := [(0, .ref 58), (1, .int x1), (2, .int r2), (3, .int x3), (4, .int x4)]) (hd := dX9_peace_133) (i := 2) (hi := rfl) (hn := by decide) (hf := rfl) (hl := rfl) ?_
    refine rn_goto (tgt := 34) dX9_peace_134 (by decide) ?_
    refine Rn.sub (lv' := [(0, .ref 58), (1, .int x1), (2, .int r2)]) (by simp) ?_
    exact h
  · refine rn_aload_n (i := 0) (x := 58) dX9_peace_108 rfl (by simp) ?_
    refine rn_getr (t := 73) dX9_peace_109 rfl gf_X9_57 rfl rfl ?_
    refine rn_iload (x := x4) dX9_peace_112 (by simp) ?_
    refine rn_aload_n (i := 0) (x := 58) dX9_peace_114 rfl (by simp) ?_
    refine rn_getr (t := 74) dX9_peace_115 rfl gf_X9_60 rfl rfl ?_
    refine rn_iload (x := x4) dX9_peace_118 (by simp) ?_
    obtain ⟨hi, h⟩ := h
    refine rn_iaload dX9_peace_120 rfl hi ?_
    obtain ⟨hi, h⟩ := h
    have h := h _ rfl
    refine rn_iastore dX9_peace_121 rfl hi ?_
    generalize wi M 73 (nx x4) (ri M 74 (nx x4)) = M3 at h ⊢
    refine rn_iinc (x := x4) (v := x4 + 1) (lv' := [(0, .ref 58), (1, .int x1), (2, .int x2), (3, .int x3), (4, .int (x4 + 1))]) dX9_peace_122 (by simp) rfl (by decide) rfl rfl ?_
    refine rn_goto (tgt := 99) dX9_peace_125 (by decide) ?_
    exact h
set_option maxRecDepth 20000 in
theorem sg_X9_peace_170 {d : Nat} {x1 : Int32} {x2 : Int32} {x3 : Int32} {M : Mem} {K : (Int32 → Mem → Prop)}  (h : (CI d μX9_nextChoice [.ref 58, .int x2, .int x3] M (fun r2 M1 => (vp_in x2 8 ∧ ∀ M3, M3 = wi M1 74 (nx x2) r2 → (vp_in x2 8 ∧ (if ri M3 74 (nx x2) < 0 then RI (d + 1) μX9_peace 203 [(0, .ref 58), (1, .int x1), (2, .int x2), (3, .int x3)] [] M3 K else (vp_in x2 8 ∧ (vp_in (ri M3 74 (nx x2)) 8 ∧ ∀ M4, M4 = wi M3 74 (nx (ri M3 74 (nx x2))) x2 → RI (d + 1) μX9_peace 203 [(0, .ref 58), (1, .int x1), (2, .int x2), (3, .int x3)] [] M4 K)))))))) : RI (d + 1) μX9_peace 170 [(0, .ref 58), (1, .int x1), (2, .int x2), (3, .int x3)] [] M K := by
  show Rn (d + 1) μX9_peace 170 [(0, .ref 58), (1, .int x1), (2, .int x2), (3, .int x3)] [] M _
  refine rn_aload_n (i := 0) (x := 58) dX9_peace_170 rfl (by simp) ?_
  refine rn_getr (t := 74) dX9_peace_171 rfl gf_X9_60 rfl rfl ?_
  refine rn_iload_n (i := 2) (x := x2) dX9_peace_174 rfl (by simp) ?_
  refine rn_aload_n (i := 0) (x := 58) dX9_peace_175 rfl (by simp) ?_
  refine rn_iload_n (i := 2) (x := x2) dX9_peace_176 rfl (by simp) ?_
  refine rn_iload_n (i := 3) (x := x3) dX9_peace_177 rfl (by simp) ?_
  refine rn_callVi (as := [.int x2, .int x3]) (st := [.int x2, .ref 74]) dX9_peace_178 mf_X9_nextChoice lk_X9_471 im_X9_nextChoice rfl rfl rfl rfl (Nat.le_of_ble_eq_true rfl) (Nat.le_of_ble_eq_true rfl) rfl (RI.mono h (fun r2 M1 h => ?_))
  obtain ⟨hi, h⟩ := h
  have h := h _ rfl
  refine rn_iastore dX9_peace_181 rfl hi ?_
  generalize wi M1 74 (nx x2) r2 = M3 at h ⊢
  refine rn_aload_n (i := 0) (x := 58) dX9_peace_182 rfl (by simp) ?_
  refine rn_getr (t := 74) dX9_peace_183 rfl gf_X9_60 rfl rfl ?_
  refine rn_iload_n (i := 2) (x := x2) dX9_peace_186 rfl (by simp) ?_
  obtain ⟨hi, h⟩ := h
  refine rn_iaload dX9_peace_187 rfl hi ?_
  refine rn_if_lt (tgt := 203) dX9_peace_188 (by decide) (ite_go h (fun hc h => ?_) (fun hc h => ?_))
  · exact h
  · refine rn_aload_n (i := 0) (x := 58) dX9_peace_191 rfl (by simp) ?_
    refine rn_getr (t := 74) dX9_peace_192 rfl gf_X9_60 rfl rfl ?_
    refine rn_aload_n (i := 0) (x := 58) dX9_peace_195 rfl (by simp) ?_
    refine rn_getr (t := 74) dX9_peace_196 rfl gf_X9_60 rfl rfl ?_
    refine rn_iload_n (i := 2) (x := x2) dX9_peace_199 rfl (by simp) ?_
    obtain ⟨hi, h⟩ := h
    refine rn_iaload dX9_peace_200 rfl hi ?_
    refine rn_iload_n (i := 2) (x := x2) dX9_peace_201 rfl (by simp) ?_
    obtain ⟨hi, h⟩ := h
    have h := h _ rfl
    refine rn_iastore dX9_peace_202 rfl hi ?_
    generalize wi M3 74 (nx (ri M3 74 (nx x2))) x2 = M4 at h ⊢
    exact h
set_option maxRecDepth 20000 in
theorem sg_X9_peace_203 {d : Nat} {x1 : Int32} {x2 : Int32} {x3 : Int32} {M : Mem} {K : (Int32 → Mem → Prop)}  (h : (vp_in x2 8 ∧ (if ri M 74 (nx x2) = (-2) then (CI d μX9_ahead [.ref 58, .int x2] M (fun r2 M1 => RI (d + 1) μX9_peace 34 [(0, .ref 58), (1, .int x1), (2, .int r2)] [] M1 K)) else RI (d + 1) μX9_peace 34 [(0, .ref 58), (1, .int x1), (2, .int (x2 + 1))] [] M K))) : RI (d + 1) μX9_peace 203 [(0, .ref 58), (1, .int x1), (2, .int x2), (3, .int x3)] [] M K := by
  show Rn (d + 1) μX9_peace 203 [(0, .ref 58), (1, .int x1), (2, .int x2), (3, .int x3)] [] M _
  refine rn_aload_n (i := 0) (x := 58) dX9_peace_203 rfl (by simp) ?_
  refine rn_getr (t := 74) dX9_peace_204 rfl gf_X9_60 rfl rfl ?_
  refine rn_iload_n (i := 2) (x := x2) dX9_peace_207 rfl (by simp) ?_
  obtain ⟨hi, h⟩ := h
  refine rn_iaload dX9_peace_208 rfl hi ?_
  refine rn_bipush (v := -2) dX9_peace_209 rfl ?_
  refine rn_icmp_ne (tgt := 222) dX9_peace_211 (by decide) (ite_go h (fun hc h => ?_) (fun hc h => ?_))
  · refine rn_aload_n (i := 0) (x := 58) dX9_peace_214 rfl (by simp) ?_
    refine rn_iload_n (i := 2) (x := x2) dX9_peace_215 rfl (by simp) ?_
    refine rn_callVi (as := [.int x2]) (st := []) dX9_peace_216 mf_X9_ahead lk_X9_465 im_X9_ahead rfl rfl rfl rfl (Nat.le_of_ble_eq_true rfl) (Nat.le_of_ble_eq_true rfl) rfl (RI.mono h (fun r2 M1 h => ?_))
    refine rn_goto (tgt := 225) dX9_peace_219 (by decide) ?_
    refine rn_istore_n (lv' := [(0, .ref 58), (1, .int x1), (2, .int r2), (3, .int x3)]) (hd := dX9_peace_225) (i := 2) (hi := rfl) (hn := by decide) (hf := rfl) (hl := rfl) ?_
    refine rn_goto (tgt := 34) dX9_peace_226 (by decide) ?_
    refine Rn.sub (lv' := [(0, .ref 58), (1, .int x1), (2, .int r2)]) (by simp) ?_
    exact h
  · refine rn_iload_n (i := 2) (x := x2) dX9_peace_222 rfl (by simp) ?_
    refine rn_iconst (v := 1) dX9_peace_223 rfl ?_
    refine rn_iadd dX9_peace_224 ?_
    refine rn_istore_n (lv' := [(0, .ref 58), (1, .int x1), (2, .int (x2 + 1)), (3, .int x3)]) (hd := dX9_peace_225) (i := 2) (hi := rfl) (hn := by decide) (hf := rfl) (hl := rfl) ?_
    refine rn_goto (tgt := 34) dX9_peace_226 (by decide) ?_
    refine Rn.sub (lv' := [(0, .ref 58), (1, .int x1), (2, .int (x2 + 1))]) (by simp) ?_
    exact h
theorem dX9_ahead_0 : decode μX9_ahead.2.1 0 = .ok (.iload_n 1, 1) := by decide +kernel
theorem dX9_ahead_1 : decode μX9_ahead.2.1 1 = .ok (.iconst 1, 1) := by decide +kernel
theorem dX9_ahead_2 : decode μX9_ahead.2.1 2 = .ok (.isub, 1) := by decide +kernel
theorem dX9_ahead_3 : decode μX9_ahead.2.1 3 = .ok (.istore_n 2, 1) := by decide +kernel
theorem dX9_ahead_4 : decode μX9_ahead.2.1 4 = .ok (.iload_n 2, 1) := by decide +kernel
theorem dX9_ahead_5 : decode μX9_ahead.2.1 5 = .ok (.ifCond .lt 17, 3) := by decide +kernel
theorem dX9_ahead_8 : decode μX9_ahead.2.1 8 = .ok (.aload_n 0, 1) := by decide +kernel
theorem dX9_ahead_9 : decode μX9_ahead.2.1 9 = .ok (.iload_n 2, 1) := by decide +kernel
theorem dX9_ahead_10 : decode μX9_ahead.2.1 10 = .ok (.invokevirtual 468, 3) := by decide +kernel
theorem dX9_ahead_13 : decode μX9_ahead.2.1 13 = .ok (.ifCond .eq 9, 3) := by decide +kernel
theorem dX9_ahead_16 : decode μX9_ahead.2.1 16 = .ok (.iinc 2 (-1), 3) := by decide +kernel
theorem dX9_ahead_19 : decode μX9_ahead.2.1 19 = .ok (.goto (-15), 3) := by decide +kernel
theorem dX9_ahead_22 : decode μX9_ahead.2.1 22 = .ok (.iload_n 2, 1) := by decide +kernel
theorem dX9_ahead_23 : decode μX9_ahead.2.1 23 = .ok (.ireturn, 1) := by decide +kernel
set_option maxRecDepth 20000 in
theorem sg_X9_ahead_0 {d : Nat} {x1 : Int32} {M : Mem} {K : (Int32 → Mem → Prop)}  (h : RI (d + 1) μX9_ahead 4 [(0, .ref 58), (1, .int x1), (2, .int (x1 - 1))] [] M K) : CI (d + 1) μX9_ahead [.ref 58, .int x1] M K := by
  show Rn (d + 1) μX9_ahead 0 [(0, .ref 58), (1, .int x1)] [] M _
  refine rn_iload_n (i := 1) (x := x1) dX9_ahead_0 rfl (by simp) ?_
  refine rn_iconst (v := 1) dX9_ahead_1 rfl ?_
  refine rn_isub dX9_ahead_2 ?_
  refine rn_istore_n (lv' := [(0, .ref 58), (1, .int x1), (2, .int (x1 - 1))]) (hd := dX9_ahead_3) (i := 2) (hi := rfl) (hn := by decide) (hf := rfl) (hl := rfl) ?_
  exact h
set_option maxRecDepth 20000 in
theorem sg_X9_ahead_4 {d : Nat} {x1 : Int32} {x2 : Int32} {M : Mem} {K : (Int32 → Mem → Prop)}  (h : (if x2 < 0 then K x2 M else (CI d μX9_isTaken [.ref 58, .int x2] M (fun r2 M1 => (if r2 = 0 then K x2 M1 else RI (d + 1) μX9_ahead 4 [(0, .ref 58), (1, .int x1), (2, .int (x2 + (-1)))] [] M1 K))))) : RI (d + 1) μX9_ahead 4 [(0, .ref 58), (1, .int x1), (2, .int x2)] [] M K := by
  show Rn (d + 1) μX9_ahead 4 [(0, .ref 58), (1, .int x1), (2, .int x2)] [] M _
  refine rn_iload_n (i := 2) (x := x2) dX9_ahead_4 rfl (by simp) ?_
  refine rn_if_lt (tgt := 22) dX9_ahead_5 (by decide) (ite_go h (fun hc h => ?_) (fun hc h => ?_))
  · refine rn_iload_n (i := 2) (x := x2) dX9_ahead_22 rfl (by simp) ?_
    exact rn_iret dX9_ahead_23 rfl ⟨_, rfl, h⟩
  · refine rn_aload_n (i := 0) (x := 58) dX9_ahead_8 rfl (by simp) ?_
    refine rn_iload_n (i := 2) (x := x2) dX9_ahead_9 rfl (by simp) ?_
    refine rn_callVi (as := [.int x2]) (st := []) dX9_ahead_10 mf_X9_isTaken lk_X9_468 im_X9_isTaken rfl rfl rfl rfl (Nat.le_of_ble_eq_true rfl) (Nat.le_of_ble_eq_true rfl) rfl (RI.mono h (fun r2 M1 h => ?_))
    refine rn_if_eq (tgt := 22) dX9_ahead_13 (by decide) (ite_go h (fun hc h => ?_) (fun hc h => ?_))
    · refine rn_iload_n (i := 2) (x := x2) dX9_ahead_22 rfl (by simp) ?_
      exact rn_iret dX9_ahead_23 rfl ⟨_, rfl, h⟩
    · refine rn_iinc (x := x2) (v := x2 + (-1)) (lv' := [(0, .ref 58), (1, .int x1), (2, .int (x2 + (-1)))]) dX9_ahead_16 (by simp) rfl (by decide) rfl rfl ?_
      refine rn_goto (tgt := 4) dX9_ahead_19 (by decide) ?_
      exact h
theorem dX9_hermits_0 : decode μX9_hermits.2.1 0 = .ok (.iload_n 1, 1) := by decide +kernel
theorem dX9_hermits_1 : decode μX9_hermits.2.1 1 = .ok (.iconst 0, 1) := by decide +kernel
theorem dX9_hermits_2 : decode μX9_hermits.2.1 2 = .ok (.iconst 1, 1) := by decide +kernel
theorem dX9_hermits_3 : decode μX9_hermits.2.1 3 = .ok (.invokestatic 420, 3) := by decide +kernel
theorem dX9_hermits_6 : decode μX9_hermits.2.1 6 = .ok (.ifCond .ne 5, 3) := by decide +kernel
theorem dX9_hermits_9 : decode μX9_hermits.2.1 9 = .ok (.iconst (-1), 1) := by decide +kernel
theorem dX9_hermits_10 : decode μX9_hermits.2.1 10 = .ok (.ireturn, 1) := by decide +kernel
theorem dX9_hermits_11 : decode μX9_hermits.2.1 11 = .ok (.aload_n 0, 1) := by decide +kernel
theorem dX9_hermits_12 : decode μX9_hermits.2.1 12 = .ok (.invokevirtual 424, 3) := by decide +kernel
theorem dX9_hermits_15 : decode μX9_hermits.2.1 15 = .ok (.aload_n 0, 1) := by decide +kernel
theorem dX9_hermits_16 : decode μX9_hermits.2.1 16 = .ok (.invokevirtual 456, 3) := by decide +kernel
theorem dX9_hermits_19 : decode μX9_hermits.2.1 19 = .ok (.aload_n 0, 1) := by decide +kernel
theorem dX9_hermits_20 : decode μX9_hermits.2.1 20 = .ok (.getfield 45, 3) := by decide +kernel
theorem dX9_hermits_23 : decode μX9_hermits.2.1 23 = .ok (.bipush 13, 2) := by decide +kernel
theorem dX9_hermits_25 : decode μX9_hermits.2.1 25 = .ok (.iaload, 1) := by decide +kernel
theorem dX9_hermits_26 : decode μX9_hermits.2.1 26 = .ok (.istore_n 2, 1) := by decide +kernel
theorem dX9_hermits_27 : decode μX9_hermits.2.1 27 = .ok (.iconst 0, 1) := by decide +kernel
theorem dX9_hermits_28 : decode μX9_hermits.2.1 28 = .ok (.istore_n 3, 1) := by decide +kernel
theorem dX9_hermits_29 : decode μX9_hermits.2.1 29 = .ok (.iconst 1, 1) := by decide +kernel
theorem dX9_hermits_30 : decode μX9_hermits.2.1 30 = .ok (.istore 4, 2) := by decide +kernel
theorem dX9_hermits_32 : decode μX9_hermits.2.1 32 = .ok (.iload 4, 2) := by decide +kernel
theorem dX9_hermits_34 : decode μX9_hermits.2.1 34 = .ok (.iload_n 2, 1) := by decide +kernel
theorem dX9_hermits_35 : decode μX9_hermits.2.1 35 = .ok (.if_icmp .gt 97, 3) := by decide +kernel
theorem dX9_hermits_38 : decode μX9_hermits.2.1 38 = .ok (.iload 4, 2) := by decide +kernel
theorem dX9_hermits_40 : decode μX9_hermits.2.1 40 = .ok (.iload_n 2, 1) := by decide +kernel
theorem dX9_hermits_41 : decode μX9_hermits.2.1 41 = .ok (.iconst (-1), 1) := by decide +kernel
theorem dX9_hermits_42 : decode μX9_hermits.2.1 42 = .ok (.ixor, 1) := by decide +kernel
theorem dX9_hermits_43 : decode μX9_hermits.2.1 43 = .ok (.iand, 1) := by decide +kernel
theorem dX9_hermits_44 : decode μX9_hermits.2.1 44 = .ok (.ifCond .ne 82, 3) := by decide +kernel
theorem dX9_hermits_47 : decode μX9_hermits.2.1 47 = .ok (.iload 4, 2) := by decide +kernel
theorem dX9_hermits_49 : decode μX9_hermits.2.1 49 = .ok (.invokestatic 274, 3) := by decide +kernel
theorem dX9_hermits_52 : decode μX9_hermits.2.1 52 = .ok (.iload_n 3, 1) := by decide +kernel
theorem dX9_hermits_53 : decode μX9_hermits.2.1 53 = .ok (.invokestatic 274, 3) := by decide +kernel
theorem dX9_hermits_56 : decode μX9_hermits.2.1 56 = .ok (.if_icmp .gt 6, 3) := by decide +kernel
theorem dX9_hermits_59 : decode μX9_hermits.2.1 59 = .ok (.goto 67, 3) := by decide +kernel
theorem dX9_hermits_62 : decode μX9_hermits.2.1 62 = .ok (.iconst 1, 1) := by decide +kernel
theorem dX9_hermits_63 : decode μX9_hermits.2.1 63 = .ok (.istore 5, 2) := by decide +kernel
theorem dX9_hermits_65 : decode μX9_hermits.2.1 65 = .ok (.iconst 0, 1) := by decide +kernel
theorem dX9_hermits_66 : decode μX9_hermits.2.1 66 = .ok (.istore 6, 2) := by decide +kernel
theorem dX9_hermits_68 : decode μX9_hermits.2.1 68 = .ok (.iload 6, 2) := by decide +kernel
theorem dX9_hermits_70 : decode μX9_hermits.2.1 70 = .ok (.aload_n 0, 1) := by decide +kernel
theorem dX9_hermits_71 : decode μX9_hermits.2.1 71 = .ok (.getfield 326, 3) := by decide +kernel
theorem dX9_hermits_74 : decode μX9_hermits.2.1 74 = .ok (.if_icmp .ge 44, 3) := by decide +kernel
theorem dX9_hermits_77 : decode μX9_hermits.2.1 77 = .ok (.iload 5, 2) := by decide +kernel
theorem dX9_hermits_79 : decode μX9_hermits.2.1 79 = .ok (.ifCond .eq 30, 3) := by decide +kernel
theorem dX9_hermits_82 : decode μX9_hermits.2.1 82 = .ok (.iload 4, 2) := by decide +kernel
theorem dX9_hermits_84 : decode μX9_hermits.2.1 84 = .ok (.iload 6, 2) := by decide +kernel
theorem dX9_hermits_86 : decode μX9_hermits.2.1 86 = .ok (.ishr, 1) := by decide +kernel
theorem dX9_hermits_87 : decode μX9_hermits.2.1 87 = .ok (.iconst 1, 1) := by decide +kernel
theorem dX9_hermits_88 : decode μX9_hermits.2.1 88 = .ok (.iand, 1) := by decide +kernel
theorem dX9_hermits_89 : decode μX9_hermits.2.1 89 = .ok (.ifCond .eq 16, 3) := by decide +kernel
theorem dX9_hermits_92 : decode μX9_hermits.2.1 92 = .ok (.aload_n 0, 1) := by decide +kernel
theorem dX9_hermits_93 : decode μX9_hermits.2.1 93 = .ok (.getfield 63, 3) := by decide +kernel
theorem dX9_hermits_96 : decode μX9_hermits.2.1 96 = .ok (.iload 6, 2) := by decide +kernel
theorem dX9_hermits_98 : decode μX9_hermits.2.1 98 = .ok (.iaload, 1) := by decide +kernel
theorem dX9_hermits_99 : decode μX9_hermits.2.1 99 = .ok (.iload 4, 2) := by decide +kernel
theorem dX9_hermits_101 : decode μX9_hermits.2.1 101 = .ok (.iand, 1) := by decide +kernel
theorem dX9_hermits_102 : decode μX9_hermits.2.1 102 = .ok (.ifCond .ne 7, 3) := by decide +kernel
theorem dX9_hermits_105 : decode μX9_hermits.2.1 105 = .ok (.iconst 1, 1) := by decide +kernel
theorem dX9_hermits_106 : decode μX9_hermits.2.1 106 = .ok (.goto 4, 3) := by decide +kernel
theorem dX9_hermits_109 : decode μX9_hermits.2.1 109 = .ok (.iconst 0, 1) := by decide +kernel
theorem dX9_hermits_110 : decode μX9_hermits.2.1 110 = .ok (.istore 5, 2) := by decide +kernel
theorem dX9_hermits_112 : decode μX9_hermits.2.1 112 = .ok (.iinc 6 1, 3) := by decide +kernel
theorem dX9_hermits_115 : decode μX9_hermits.2.1 115 = .ok (.goto (-47), 3) := by decide +kernel
theorem dX9_hermits_118 : decode μX9_hermits.2.1 118 = .ok (.iload 5, 2) := by decide +kernel
theorem dX9_hermits_120 : decode μX9_hermits.2.1 120 = .ok (.ifCond .eq 6, 3) := by decide +kernel
theorem dX9_hermits_123 : decode μX9_hermits.2.1 123 = .ok (.iload 4, 2) := by decide +kernel
theorem dX9_hermits_125 : decode μX9_hermits.2.1 125 = .ok (.istore_n 3, 1) := by decide +kernel
theorem dX9_hermits_126 : decode μX9_hermits.2.1 126 = .ok (.iinc 4 1, 3) := by decide +kernel
theorem dX9_hermits_129 : decode μX9_hermits.2.1 129 = .ok (.goto (-97), 3) := by decide +kernel
theorem dX9_hermits_132 : decode μX9_hermits.2.1 132 = .ok (.iload_n 1, 1) := by decide +kernel
theorem dX9_hermits_133 : decode μX9_hermits.2.1 133 = .ok (.ifCond .ne 10, 3) := by decide +kernel
theorem dX9_hermits_136 : decode μX9_hermits.2.1 136 = .ok (.iload_n 3, 1) := by decide +kernel
theorem dX9_hermits_137 : decode μX9_hermits.2.1 137 = .ok (.invokestatic 274, 3) := by decide +kernel
theorem dX9_hermits_140 : decode μX9_hermits.2.1 140 = .ok (.goto 4, 3) := by decide +kernel
theorem dX9_hermits_143 : decode μX9_hermits.2.1 143 = .ok (.iload_n 3, 1) := by decide +kernel
theorem dX9_hermits_144 : decode μX9_hermits.2.1 144 = .ok (.ireturn, 1) := by decide +kernel
set_option maxRecDepth 20000 in
theorem sg_X9_hermits_0 {d : Nat} {x1 : Int32} {M : Mem} {K : (Int32 → Mem → Prop)}  (h : (CI d μX9_isIn [.int x1, .int 0, .int 1] M (fun r2 M1 => (if r2 = 0 then K ((-1)) M1 else (CV d μX9_fill [.ref 58] M1 (fun M3 => (CV d μX9_layNexts [.ref 58] M3 (fun M4 => RI (d + 1) μX9_hermits 32 [(0, .ref 58), (1, .int x1), (2, .int (ri M4 69 (nx 13))), (3, .int 0), (4, .int 1)] [] M4 K)))))))) : CI (d + 1) μX9_hermits [.ref 58, .int x1] M K := by
  show Rn (d + 1) μX9_hermits 0 [(0, .ref 58), (1, .int x1)] [] M _
  refine rn_iload_n (i := 1) (x := x1) dX9_hermits_0 rfl (by simp) ?_
  refine rn_iconst (v := 0) dX9_hermits_1 rfl ?_
  refine rn_iconst (v := 1) dX9_hermits_2 rfl ?_
  refine rn_callSi (as := [.int x1, .int 0, .int 1]) (st := []) dX9_hermits_3 mf_X9_isIn lk_X9_420 sm_X9_isIn rfl (Nat.le_of_ble_eq_true rfl) (Nat.le_of_ble_eq_true rfl) rfl (RI.mono h (fun r2 M1 h => ?_))
  refine rn_if_ne (tgt := 11) dX9_hermits_6 (by decide) (ite_go h (fun hc h => ?_) (fun hc h => ?_))
  · refine rn_iconst (v := -1) dX9_hermits_9 rfl ?_
    exact rn_iret dX9_hermits_10 rfl ⟨_, rfl, h⟩
  · refine rn_aload_n (i := 0) (x := 58) dX9_hermits_11 rfl (by simp) ?_
    refine rn_callVv (as := []) (st := []) dX9_hermits_12 mf_X9_fill lk_X9_424 im_X9_fill rfl rfl rfl rfl (Nat.le_of_ble_eq_true rfl) (Nat.le_of_ble_eq_true rfl) rfl (RV.mono h (fun M3 h => ?_))
    refine rn_aload_n (i := 0) (x := 58) dX9_hermits_15 rfl (by simp) ?_
    refine rn_callVv (as := []) (st := []) dX9_hermits_16 mf_X9_layNexts lk_X9_456 im_X9_layNexts rfl rfl rfl rfl (Nat.le_of_ble_eq_true rfl) (Nat.le_of_ble_eq_true rfl) rfl (RV.mono h (fun M4 h => ?_))
    refine rn_aload_n (i := 0) (x := 58) dX9_hermits_19 rfl (by simp) ?_
    refine rn_getr (t := 69) dX9_hermits_20 rfl gf_X9_45 rfl rfl ?_
    refine rn_bipush (v := 13) dX9_hermits_23 rfl ?_
    refine rn_iaload dX9_hermits_25 rfl (by unfold vp_in; decide) ?_
    refine rn_istore_n (lv' := [(0, .ref 58), (1, .int x1), (2, .int (ri M4 69 (nx 13)))]) (hd := dX9_hermits_26) (i := 2) (hi := rfl) (hn := by decide) (hf := rfl) (hl := rfl) ?_
    refine rn_iconst (v := 0) dX9_hermits_27 rfl ?_
    refine rn_istore_n (lv' := [(0, .ref 58), (1, .int x1), (2, .int (ri M4 69 (nx 13))), (3, .int 0)]) (hd := dX9_hermits_28) (i := 3) (hi := rfl) (hn := by decide) (hf := rfl) (hl := rfl) ?_
    refine rn_iconst (v := 1) dX9_hermits_29 rfl ?_
    refine rn_istore (lv' := [(0, .ref 58), (1, .int x1), (2, .int (ri M4 69 (nx 13))), (3, .int 0), (4, .int 1)]) (hd := dX9_hermits_30) (hn := by decide) (hf := rfl) (hl := rfl) ?_
    exact h
set_option maxRecDepth 20000 in
theorem sg_X9_hermits_32 {d : Nat} {x1 : Int32} {x2 : Int32} {x3 : Int32} {x4 : Int32} {M : Mem} {K : (Int32 → Mem → Prop)}  (h : (if x2 < x4 then (if x1 = 0 then (CI d μX9_members [.int x3] M (fun r2 M1 => K r2 M1)) else K x3 M) else (if x4 &&& (x2 ^^^ ((-1))) = 0 then (CI d μX9_members [.int x4] M (fun r4 M3 => (CI d μX9_members [.int x3] M3 (fun r6 M5 => (if r6 < r4 then RI (d + 1) μX9_hermits 68 [(0, .ref 58), (1, .int x1), (2, .int x2), (3, .int x3), (4, .int x4), (5, .int 1), (6, .int 0)] [] M5 K else RI (d + 1) μX9_hermits 32 [(0, .ref 58), (1, .int x1), (2, .int x2), (3, .int x3), (4, .int (x4 + 1))] [] M5 K))))) else RI (d + 1) μX9_hermits 32 [(0, .ref 58), (1, .int x1), (2, .int x2), (3, .int x3), (4, .int (x4 + 1))] [] M K))) : RI (d + 1) μX9_hermits 32 [(0, .ref 58), (1, .int x1), (2, .int x2), (3, .int x3), (4, .int x4)] [] M K := by
  show Rn (d + 1) μX9_hermits 32 [(0, .ref 58), (1, .int x1), (2, .int x2), (3, .int x3), (4, .int x4)] [] M _
  refine rn_iload (x := x4) dX9_hermits_32 (by simp) ?_
  refine rn_iload_n (i := 2) (x := x2) dX9_hermits_34 rfl (by simp) ?_
  refine rn_icmp_gt (tgt := 132) dX9_hermits_35 (by decide) (ite_go h (fun hc h => ?_) (fun hc h => ?_))
  · refine rn_iload_n (i := 1) (x := x1) dX9_hermits_132 rfl (by simp) ?_
    refine rn_if_ne (tgt := 143) dX9_hermits_133 (by decide) (ite_go h (fun hc h => ?_) (fun hc h => ?_))
    · refine rn_iload_n (i := 3) (x := x3) dX9_hermits_136 rfl (by simp) ?_
      refine rn_callSi (as := [.int x3]) (st := []) dX9_hermits_137 mf_X9_members lk_X9_274 sm_X9_members rfl (Nat.le_of_ble_eq_true rfl) (Nat.le_of_ble_eq_true rfl) rfl (RI.mono h (fun r2 M1 h => ?_))
      refine rn_goto (tgt := 144) dX9_hermits_140 (by decide) ?_
      exact rn_iret dX9_hermits_144 rfl ⟨_, rfl, h⟩
    · refine rn_iload_n (i := 3) (x := x3) dX9_hermits_143 rfl (by simp) ?_
      exact rn_iret dX9_hermits_144 rfl ⟨_, rfl, h⟩
  · refine rn_iload (x := x4) dX9_hermits_38 (by simp) ?_
    refine rn_iload_n (i := 2) (x := x2) dX9_hermits_40 rfl (by simp) ?_
    refine rn_iconst (v := -1) dX9_hermits_41 rfl ?_
    refine rn_ixor dX9_hermits_42 ?_
    refine rn_iand dX9_hermits_43 ?_
    refine rn_if_ne (tgt := 126) dX9_hermits_44 (by decide) (ite_go h (fun hc h => ?_) (fun hc h => ?_))
    · refine rn_iload (x := x4) dX9_hermits_47 (by simp) ?_
      refine rn_callSi (as := [.int x4]) (st := []) dX9_hermits_49 mf_X9_members lk_X9_274 sm_X9_members rfl (Nat.le_of_ble_eq_true rfl) (Nat.le_of_ble_eq_true rfl) rfl (RI.mono h (fun r4 M3 h => ?_))
      refine rn_iload_n (i := 3) (x := x3) dX9_hermits_52 rfl (by simp) ?_
      refine rn_callSi (as := [.int x3]) (st := [.int r4]) dX9_hermits_53 mf_X9_members lk_X9_274 sm_X9_members rfl (Nat.le_of_ble_eq_true rfl) (Nat.le_of_ble_eq_true rfl) rfl (RI.mono h (fun r6 M5 h => ?_))
      refine rn_icmp_gt (tgt := 62) dX9_hermits_56 (by decide) (ite_go h (fun hc h => ?_) (fun hc h => ?_))
      · refine rn_iconst (v := 1) dX9_hermits_62 rfl ?_
        refine rn_istore (lv' := [(0, .ref 58), (1, .int x1), (2, .int x2), (3, .int x3), (4, .int x4), (5, .int 1)]) (hd := dX9_hermits_63) (hn := by decide) (hf := rfl) (hl := rfl) ?_
        refine rn_iconst (v := 0) dX9_hermits_65 rfl ?_
        refine rn_istore (lv' := [(0, .ref 58), (1, .int x1), (2, .int x2), (3, .int x3), (4, .int x4), (5, .int 1), (6, .int 0)]) (hd := dX9_hermits_66) (hn := by decide) (hf := rfl) (hl := rfl) ?_
        exact h
      · refine rn_goto (tgt := 126) dX9_hermits_59 (by decide) ?_
        refine rn_iinc (x := x4) (v := x4 + 1) (lv' := [(0, .ref 58), (1, .int x1), (2, .int x2), (3, .int x3), (4, .int (x4 + 1))]) dX9_hermits_126 (by simp) rfl (by decide) rfl rfl ?_
        refine rn_goto (tgt := 32) dX9_hermits_129 (by decide) ?_
        exact h
    · refine rn_iinc (x := x4) (v := x4 + 1) (lv' := [(0, .ref 58), (1, .int x1), (2, .int x2), (3, .int x3), (4, .int (x4 + 1))]) dX9_hermits_126 (by simp) rfl (by decide) rfl rfl ?_
      refine rn_goto (tgt := 32) dX9_hermits_129 (by decide) ?_
      exact h
set_option maxRecDepth 20000 in
theorem sg_X9_hermits_68 {d : Nat} {x1 : Int32} {x2 : Int32} {x3 : Int32} {x4 : Int32} {x5 : Int32} {x6 : Int32} {M : Mem} {K : (Int32 → Mem → Prop)}  (h : (if ri M 58 35 ≤ x6 then (if x5 = 0 then RI (d + 1) μX9_hermits 32 [(0, .ref 58), (1, .int x1), (2, .int x2), (3, .int x3), (4, .int (x4 + 1))] [] M K else RI (d + 1) μX9_hermits 32 [(0, .ref 58), (1, .int x1), (2, .int x2), (3, .int x4), (4, .int (x4 + 1))] [] M K) else (if x5 = 0 then RI (d + 1) μX9_hermits 68 [(0, .ref 58), (1, .int x1), (2, .int x2), (3, .int x3), (4, .int x4), (5, .int 0), (6, .int (x6 + 1))] [] M K else (if (x4 >>> (x6 &&& 31)) &&& 1 = 0 then RI (d + 1) μX9_hermits 68 [(0, .ref 58), (1, .int x1), (2, .int x2), (3, .int x3), (4, .int x4), (5, .int 1), (6, .int (x6 + 1))] [] M K else (vp_in x6 8 ∧ (if (ri M 75 (nx x6)) &&& x4 = 0 then RI (d + 1) μX9_hermits 68 [(0, .ref 58), (1, .int x1), (2, .int x2), (3, .int x3), (4, .int x4), (5, .int 1), (6, .int (x6 + 1))] [] M K else RI (d + 1) μX9_hermits 68 [(0, .ref 58), (1, .int x1), (2, .int x2), (3, .int x3), (4, .int x4), (5, .int 0), (6, .int (x6 + 1))] [] M K)))))) : RI (d + 1) μX9_hermits 68 [(0, .ref 58), (1, .int x1), (2, .int x2), (3, .int x3), (4, .int x4), (5, .int x5), (6, .int x6)] [] M K := by
  show Rn (d + 1) μX9_hermits 68 [(0, .ref 58), (1, .int x1), (2, .int x2), (3, .int x3), (4, .int x4), (5, .int x5), (6, .int x6)] [] M _
  refine rn_iload (x := x6) dX9_hermits_68 (by simp) ?_
  refine rn_aload_n (i := 0) (x := 58) dX9_hermits_70 rfl (by simp) ?_
  refine rn_geti dX9_hermits_71 rfl gf_X9_326 (by decide) ?_
  refine rn_icmp_ge (tgt := 118) dX9_hermits_74 (by decide) (ite_go h (fun hc h => ?_) (fun hc h => ?_))
  · refine rn_iload (x := x5) dX9_hermits_118 (by simp) ?_
    refine rn_if_eq (tgt := 126) dX9_hermits_120 (by decide) (ite_go h (fun hc h => ?_) (fun hc h => ?_))
    · refine rn_iinc (x := x4) (v := x4 + 1) (lv' := [(0, .ref 58), (1, .int x1), (2, .int x2), (3, .int x3), (4, .int (x4 + 1)), (5, .int x5), (6, .int x6)]) dX9_hermits_126 (by simp) rfl (by decide) rfl rfl ?_
      refine rn_goto (tgt := 32) dX9_hermits_129 (by decide) ?_
      refine Rn.sub (lv' := [(0, .ref 58), (1, .int x1), (2, .int x2), (3, .int x3), (4, .int (x4 + 1))]) (by simp) ?_
      exact h
    · refine rn_iload (x := x4) dX9_hermits_123 (by simp) ?_
      refine rn_istore_n (lv' := [(0, .ref 58), (1, .int x1), (2, .int x2), (3, .int x4), (4, .int x4), (5, .int x5), (6, .int x6)]) (hd := dX9_hermits_125) (i := 3) (hi := rfl) (hn := by decide) (hf := rfl) (hl := rfl) ?_
      refine rn_iinc (x := x4) (v := x4 + 1) (lv' := [(0, .ref 58), (1, .int x1), (2, .int x2), (3, .int x4), (4, .int (x4 + 1)), (5, .int x5), (6, .int x6)]) dX9_hermits_126 (by simp) rfl (by decide) rfl rfl ?_
      refine rn_goto (tgt := 32) dX9_hermits_129 (by decide) ?_
      refine Rn.sub (lv' := [(0, .ref 58), (1, .int x1), (2, .int x2), (3, .int x4), (4, .int (x4 + 1))]) (by simp) ?_
      exact h
  · refine rn_iload (x := x5) dX9_hermits_77 (by simp) ?_
    refine rn_if_eq (tgt := 109) dX9_hermits_79 (by decide) (ite_go h (fun hc h => ?_) (fun hc h => ?_))
    · refine rn_iconst (v := 0) dX9_hermits_109 rfl ?_
      refine rn_istore (lv' := [(0, .ref 58), (1, .int x1), (2, .int x2), (3, .int x3), (4, .int x4), (5, .int 0), (6, .int x6)]) (hd := dX9_hermits_110) (hn := by decide) (hf := rfl) (hl := rfl) ?_
      refine rn_iinc (x := x6) (v := x6 + 1) (lv' := [(0, .ref 58), (1, .int x1), (2, .int x2), (3, .int x3), (4, .int x4), (5, .int 0), (6, .int (x6 + 1))]) dX9_hermits_112 (by simp) rfl (by decide) rfl rfl ?_
      refine rn_goto (tgt := 68) dX9_hermits_115 (by decide) ?_
      exact h
    · refine rn_iload (x := x4) dX9_hermits_82 (by simp) ?_
      refine rn_iload (x := x6) dX9_hermits_84 (by simp) ?_
      refine rn_ishr dX9_hermits_86 ?_
      refine rn_iconst (v := 1) dX9_hermits_87 rfl ?_
      refine rn_iand dX9_hermits_88 ?_
      refine rn_if_eq (tgt := 105) dX9_hermits_89 (by decide) (ite_go h (fun hc h => ?_) (fun hc h => ?_))
      · refine rn_iconst (v := 1) dX9_hermits_105 rfl ?_
        refine rn_goto (tgt := 110) dX9_hermits_106 (by decide) ?_
        refine rn_istore (lv' := [(0, .ref 58), (1, .int x1), (2, .int x2), (3, .int x3), (4, .int x4), (5, .int 1), (6, .int x6)]) (hd := dX9_hermits_110) (hn := by decide) (hf := rfl) (hl := rfl) ?_
        refine rn_iinc (x := x6) (v := x6 + 1) (lv' := [(0, .ref 58), (1, .int x1), (2, .int x2), (3, .int x3), (4, .int x4), (5, .int 1), (6, .int (x6 + 1))]) dX9_hermits_112 (by simp) rfl (by decide) rfl rfl ?_
        refine rn_goto (tgt := 68) dX9_hermits_115 (by decide) ?_
        exact h
      · refine rn_aload_n (i := 0) (x := 58) dX9_hermits_92 rfl (by simp) ?_
        refine rn_getr (t := 75) dX9_hermits_93 rfl gf_X9_63 rfl rfl ?_
        refine rn_iload (x := x6) dX9_hermits_96 (by simp) ?_
        obtain ⟨hi, h⟩ := h
        refine rn_iaload dX9_hermits_98 rfl hi ?_
        refine rn_iload (x := x4) dX9_hermits_99 (by simp) ?_
        refine rn_iand dX9_hermits_101 ?_
        refine rn_if_ne (tgt := 109) dX9_hermits_102 (by decide) (ite_go h (fun hc h => ?_) (fun hc h => ?_))
        · refine rn_iconst (v := 1) dX9_hermits_105 rfl ?_
          refine rn_goto (tgt := 110) dX9_hermits_106 (by decide) ?_
          refine rn_istore (lv' := [(0, .ref 58), (1, .int x1), (2, .int x2), (3, .int x3), (4, .int x4), (5, .int 1), (6, .int x6)]) (hd := dX9_hermits_110) (hn := by decide) (hf := rfl) (hl := rfl) ?_
          refine rn_iinc (x := x6) (v := x6 + 1) (lv' := [(0, .ref 58), (1, .int x1), (2, .int x2), (3, .int x3), (4, .int x4), (5, .int 1), (6, .int (x6 + 1))]) dX9_hermits_112 (by simp) rfl (by decide) rfl rfl ?_
          refine rn_goto (tgt := 68) dX9_hermits_115 (by decide) ?_
          exact h
        · refine rn_iconst (v := 0) dX9_hermits_109 rfl ?_
          refine rn_istore (lv' := [(0, .ref 58), (1, .int x1), (2, .int x2), (3, .int x3), (4, .int x4), (5, .int 0), (6, .int x6)]) (hd := dX9_hermits_110) (hn := by decide) (hf := rfl) (hl := rfl) ?_
          refine rn_iinc (x := x6) (v := x6 + 1) (lv' := [(0, .ref 58), (1, .int x1), (2, .int x2), (3, .int x3), (4, .int x4), (5, .int 0), (6, .int (x6 + 1))]) dX9_hermits_112 (by simp) rfl (by decide) rfl rfl ?_
          refine rn_goto (tgt := 68) dX9_hermits_115 (by decide) ?_
          exact h
theorem dX9_ringNext_0 : decode μX9_ringNext.2.1 0 = .ok (.iconst 0, 1) := by decide +kernel
theorem dX9_ringNext_1 : decode μX9_ringNext.2.1 1 = .ok (.istore_n 3, 1) := by decide +kernel
theorem dX9_ringNext_2 : decode μX9_ringNext.2.1 2 = .ok (.iconst 0, 1) := by decide +kernel
theorem dX9_ringNext_3 : decode μX9_ringNext.2.1 3 = .ok (.istore 4, 2) := by decide +kernel
theorem dX9_ringNext_5 : decode μX9_ringNext.2.1 5 = .ok (.iload 4, 2) := by decide +kernel
theorem dX9_ringNext_7 : decode μX9_ringNext.2.1 7 = .ok (.aload_n 0, 1) := by decide +kernel
theorem dX9_ringNext_8 : decode μX9_ringNext.2.1 8 = .ok (.getfield 45, 3) := by decide +kernel
theorem dX9_ringNext_11 : decode μX9_ringNext.2.1 11 = .ok (.bipush 12, 2) := by decide +kernel
theorem dX9_ringNext_13 : decode μX9_ringNext.2.1 13 = .ok (.iaload, 1) := by decide +kernel
theorem dX9_ringNext_14 : decode μX9_ringNext.2.1 14 = .ok (.if_icmp .ge 50, 3) := by decide +kernel
theorem dX9_ringNext_17 : decode μX9_ringNext.2.1 17 = .ok (.aload_n 0, 1) := by decide +kernel
theorem dX9_ringNext_18 : decode μX9_ringNext.2.1 18 = .ok (.getfield 45, 3) := by decide +kernel
theorem dX9_ringNext_21 : decode μX9_ringNext.2.1 21 = .ok (.iload 4, 2) := by decide +kernel
theorem dX9_ringNext_23 : decode μX9_ringNext.2.1 23 = .ok (.iaload, 1) := by decide +kernel
theorem dX9_ringNext_24 : decode μX9_ringNext.2.1 24 = .ok (.iload_n 1, 1) := by decide +kernel
theorem dX9_ringNext_25 : decode μX9_ringNext.2.1 25 = .ok (.invokestatic 300, 3) := by decide +kernel
theorem dX9_ringNext_28 : decode μX9_ringNext.2.1 28 = .ok (.ifCond .eq 30, 3) := by decide +kernel
theorem dX9_ringNext_31 : decode μX9_ringNext.2.1 31 = .ok (.aload_n 0, 1) := by decide +kernel
theorem dX9_ringNext_32 : decode μX9_ringNext.2.1 32 = .ok (.getfield 45, 3) := by decide +kernel
theorem dX9_ringNext_35 : decode μX9_ringNext.2.1 35 = .ok (.iload 4, 2) := by decide +kernel
theorem dX9_ringNext_37 : decode μX9_ringNext.2.1 37 = .ok (.iaload, 1) := by decide +kernel
theorem dX9_ringNext_38 : decode μX9_ringNext.2.1 38 = .ok (.iload_n 2, 1) := by decide +kernel
theorem dX9_ringNext_39 : decode μX9_ringNext.2.1 39 = .ok (.invokestatic 300, 3) := by decide +kernel
theorem dX9_ringNext_42 : decode μX9_ringNext.2.1 42 = .ok (.ifCond .eq 16, 3) := by decide +kernel
theorem dX9_ringNext_45 : decode μX9_ringNext.2.1 45 = .ok (.iload_n 3, 1) := by decide +kernel
theorem dX9_ringNext_46 : decode μX9_ringNext.2.1 46 = .ok (.aload_n 0, 1) := by decide +kernel
theorem dX9_ringNext_47 : decode μX9_ringNext.2.1 47 = .ok (.getfield 45, 3) := by decide +kernel
theorem dX9_ringNext_50 : decode μX9_ringNext.2.1 50 = .ok (.iload 4, 2) := by decide +kernel
theorem dX9_ringNext_52 : decode μX9_ringNext.2.1 52 = .ok (.iaload, 1) := by decide +kernel
theorem dX9_ringNext_53 : decode μX9_ringNext.2.1 53 = .ok (.invokestatic 304, 3) := by decide +kernel
theorem dX9_ringNext_56 : decode μX9_ringNext.2.1 56 = .ok (.ior, 1) := by decide +kernel
theorem dX9_ringNext_57 : decode μX9_ringNext.2.1 57 = .ok (.istore_n 3, 1) := by decide +kernel
theorem dX9_ringNext_58 : decode μX9_ringNext.2.1 58 = .ok (.iinc 4 1, 3) := by decide +kernel
theorem dX9_ringNext_61 : decode μX9_ringNext.2.1 61 = .ok (.goto (-56), 3) := by decide +kernel
theorem dX9_ringNext_64 : decode μX9_ringNext.2.1 64 = .ok (.iload_n 3, 1) := by decide +kernel
theorem dX9_ringNext_65 : decode μX9_ringNext.2.1 65 = .ok (.iconst 1, 1) := by decide +kernel
theorem dX9_ringNext_66 : decode μX9_ringNext.2.1 66 = .ok (.iload_n 1, 1) := by decide +kernel
theorem dX9_ringNext_67 : decode μX9_ringNext.2.1 67 = .ok (.ishl, 1) := by decide +kernel
theorem dX9_ringNext_68 : decode μX9_ringNext.2.1 68 = .ok (.iconst 1, 1) := by decide +kernel
theorem dX9_ringNext_69 : decode μX9_ringNext.2.1 69 = .ok (.iload_n 2, 1) := by decide +kernel
theorem dX9_ringNext_70 : decode μX9_ringNext.2.1 70 = .ok (.ishl, 1) := by decide +kernel
theorem dX9_ringNext_71 : decode μX9_ringNext.2.1 71 = .ok (.ior, 1) := by decide +kernel
theorem dX9_ringNext_72 : decode μX9_ringNext.2.1 72 = .ok (.iconst (-1), 1) := by decide +kernel
theorem dX9_ringNext_73 : decode μX9_ringNext.2.1 73 = .ok (.ixor, 1) := by decide +kernel
theorem dX9_ringNext_74 : decode μX9_ringNext.2.1 74 = .ok (.iand, 1) := by decide +kernel
theorem dX9_ringNext_75 : decode μX9_ringNext.2.1 75 = .ok (.ireturn, 1) := by decide +kernel
set_option maxRecDepth 20000 in
theorem sg_X9_ringNext_0 {d : Nat} {x1 : Int32} {x2 : Int32} {M : Mem} {K : (Int32 → Mem → Prop)}  (h : RI (d + 1) μX9_ringNext 5 [(0, .ref 58), (1, .int x1), (2, .int x2), (3, .int 0), (4, .int 0)] [] M K) : CI (d + 1) μX9_ringNext [.ref 58, .int x1, .int x2] M K := by
  show Rn (d + 1) μX9_ringNext 0 [(0, .ref 58), (1, .int x1), (2, .int x2)] [] M _
  refine rn_iconst (v := 0) dX9_ringNext_0 rfl ?_
  refine rn_istore_n (lv' := [(0, .ref 58), (1, .int x1), (2, .int x2), (3, .int 0)]) (hd := dX9_ringNext_1) (i := 3) (hi := rfl) (hn := by decide) (hf := rfl) (hl := rfl) ?_
  refine rn_iconst (v := 0) dX9_ringNext_2 rfl ?_
  refine rn_istore (lv' := [(0, .ref 58), (1, .int x1), (2, .int x2), (3, .int 0), (4, .int 0)]) (hd := dX9_ringNext_3) (hn := by decide) (hf := rfl) (hl := rfl) ?_
  exact h
set_option maxRecDepth 20000 in
theorem sg_X9_ringNext_5 {d : Nat} {x1 : Int32} {x2 : Int32} {x3 : Int32} {x4 : Int32} {M : Mem} {K : (Int32 → Mem → Prop)}  (h : (if ri M 69 (nx 12) ≤ x4 then K (x3 &&& ((((1 : Int32) <<< (x1 &&& 31)) ||| ((1 : Int32) <<< (x2 &&& 31))) ^^^ ((-1)))) M else (vp_in x4 24 ∧ (CI d μX9_has [.int (ri M 69 (nx x4)), .int x1] M (fun r2 M1 => (if r2 = 0 then RI (d + 1) μX9_ringNext 5 [(0, .ref 58), (1, .int x1), (2, .int x2), (3, .int x3), (4, .int (x4 + 1))] [] M1 K else (vp_in x4 24 ∧ (CI d μX9_has [.int (ri M1 69 (nx x4)), .int x2] M1 (fun r4 M3 => (if r4 = 0 then RI (d + 1) μX9_ringNext 5 [(0, .ref 58), (1, .int x1), (2, .int x2), (3, .int x3), (4, .int (x4 + 1))] [] M3 K else (vp_in x4 24 ∧ (CI d μX9_bitsOf [.int (ri M3 69 (nx x4))] M3 (fun r6 M5 => RI (d + 1) μX9_ringNext 5 [(0, .ref 58), (1, .int x1), (2, .int x2), (3, .int (x3 ||| r6)), (4, .int (x4 + 1))] [] M5 K))))))))))))) : RI (d + 1) μX9_ringNext 5 [(0, .ref 58), (1, .int x1), (2, .int x2), (3, .int x3), (4, .int x4)] [] M K := by
  show Rn (d + 1) μX9_ringNext 5 [(0, .ref 58), (1, .int x1), (2, .int x2), (3, .int x3), (4, .int x4)] [] M _
  refine rn_iload (x := x4) dX9_ringNext_5 (by simp) ?_
  refine rn_aload_n (i := 0) (x := 58) dX9_ringNext_7 rfl (by simp) ?_
  refine rn_getr (t := 69) dX9_ringNext_8 rfl gf_X9_45 rfl rfl ?_
  refine rn_bipush (v := 12) dX9_ringNext_11 rfl ?_
  refine rn_iaload dX9_ringNext_13 rfl (by unfold vp_in; decide) ?_
  refine rn_icmp_ge (tgt := 64) dX9_ringNext_14 (by decide) (ite_go h (fun hc h => ?_) (fun hc h => ?_))
  · refine rn_iload_n (i := 3) (x := x3) dX9_ringNext_64 rfl (by simp) ?_
    refine rn_iconst (v := 1) dX9_ringNext_65 rfl ?_
    refine rn_iload_n (i := 1) (x := x1) dX9_ringNext_66 rfl (by simp) ?_
    refine rn_ishl dX9_ringNext_67 ?_
    refine rn_iconst (v := 1) dX9_ringNext_68 rfl ?_
    refine rn_iload_n (i := 2) (x := x2) dX9_ringNext_69 rfl (by simp) ?_
    refine rn_ishl dX9_ringNext_70 ?_
    refine rn_ior dX9_ringNext_71 ?_
    refine rn_iconst (v := -1) dX9_ringNext_72 rfl ?_
    refine rn_ixor dX9_ringNext_73 ?_
    refine rn_iand dX9_ringNext_74 ?_
    exact rn_iret dX9_ringNext_75 rfl ⟨_, rfl, h⟩
  · refine rn_aload_n (i := 0) (x := 58) dX9_ringNext_17 rfl (by simp) ?_
    refine rn_getr (t := 69) dX9_ringNext_18 rfl gf_X9_45 rfl rfl ?_
    refine rn_iload (x := x4) dX9_ringNext_21 (by simp) ?_
    obtain ⟨hi, h⟩ := h
    refine rn_iaload dX9_ringNext_23 rfl hi ?_
    refine rn_iload_n (i := 1) (x := x1) dX9_ringNext_24 rfl (by simp) ?_
    refine rn_callSi (as := [.int (ri M 69 (nx x4)), .int x1]) (st := []) dX9_ringNext_25 mf_X9_has lk_X9_300 sm_X9_has rfl (Nat.le_of_ble_eq_true rfl) (Nat.le_of_ble_eq_true rfl) rfl (RI.mono h (fun r2 M1 h => ?_))
    refine rn_if_eq (tgt := 58) dX9_ringNext_28 (by decide) (ite_go h (fun hc h => ?_) (fun hc h => ?_))
    · refine rn_iinc (x := x4) (v := x4 + 1) (lv' := [(0, .ref 58), (1, .int x1), (2, .int x2), (3, .int x3), (4, .int (x4 + 1))]) dX9_ringNext_58 (by simp) rfl (by decide) rfl rfl ?_
      refine rn_goto (tgt := 5) dX9_ringNext_61 (by decide) ?_
      exact h
    · refine rn_aload_n (i := 0) (x := 58) dX9_ringNext_31 rfl (by simp) ?_
      refine rn_getr (t := 69) dX9_ringNext_32 rfl gf_X9_45 rfl rfl ?_
      refine rn_iload (x := x4) dX9_ringNext_35 (by simp) ?_
      obtain ⟨hi, h⟩ := h
      refine rn_iaload dX9_ringNext_37 rfl hi ?_
      refine rn_iload_n (i := 2) (x := x2) dX9_ringNext_38 rfl (by simp) ?_
      refine rn_callSi (as := [.int (ri M1 69 (nx x4)), .int x2]) (st := []) dX9_ringNext_39 mf_X9_has lk_X9_300 sm_X9_has rfl (Nat.le_of_ble_eq_true rfl) (Nat.le_of_ble_eq_true rfl) rfl (RI.mono h (fun r4 M3 h => ?_))
      refine rn_if_eq (tgt := 58) dX9_ringNext_42 (by decide) (ite_go h (fun hc h => ?_) (fun hc h => ?_))
      · refine rn_iinc (x := x4) (v := x4 + 1) (lv' := [(0, .ref 58), (1, .int x1), (2, .int x2), (3, .int x3), (4, .int (x4 + 1))]) dX9_ringNext_58 (by simp) rfl (by decide) rfl rfl ?_
        refine rn_goto (tgt := 5) dX9_ringNext_61 (by decide) ?_
        exact h
      · refine rn_iload_n (i := 3) (x := x3) dX9_ringNext_45 rfl (by simp) ?_
        refine rn_aload_n (i := 0) (x := 58) dX9_ringNext_46 rfl (by simp) ?_
        refine rn_getr (t := 69) dX9_ringNext_47 rfl gf_X9_45 rfl rfl ?_
        refine rn_iload (x := x4) dX9_ringNext_50 (by simp) ?_
        obtain ⟨hi, h⟩ := h
        refine rn_iaload dX9_ringNext_52 rfl hi ?_
        refine rn_callSi (as := [.int (ri M3 69 (nx x4))]) (st := [.int x3]) dX9_ringNext_53 mf_X9_bitsOf lk_X9_304 sm_X9_bitsOf rfl (Nat.le_of_ble_eq_true rfl) (Nat.le_of_ble_eq_true rfl) rfl (RI.mono h (fun r6 M5 h => ?_))
        refine rn_ior dX9_ringNext_56 ?_
        refine rn_istore_n (lv' := [(0, .ref 58), (1, .int x1), (2, .int x2), (3, .int (x3 ||| r6)), (4, .int x4)]) (hd := dX9_ringNext_57) (i := 3) (hi := rfl) (hn := by decide) (hf := rfl) (hl := rfl) ?_
        refine rn_iinc (x := x4) (v := x4 + 1) (lv' := [(0, .ref 58), (1, .int x1), (2, .int x2), (3, .int (x3 ||| r6)), (4, .int (x4 + 1))]) dX9_ringNext_58 (by simp) rfl (by decide) rfl rfl ?_
        refine rn_goto (tgt := 5) dX9_ringNext_61 (by decide) ?_
        exact h
theorem dX9_leastOf_0 : decode μX9_leastOf.2.1 0 = .ok (.iconst 0, 1) := by decide +kernel
theorem dX9_leastOf_1 : decode μX9_leastOf.2.1 1 = .ok (.istore_n 1, 1) := by decide +kernel
theorem dX9_leastOf_2 : decode μX9_leastOf.2.1 2 = .ok (.iload_n 0, 1) := by decide +kernel
theorem dX9_leastOf_3 : decode μX9_leastOf.2.1 3 = .ok (.iload_n 1, 1) := by decide +kernel
theorem dX9_leastOf_4 : decode μX9_leastOf.2.1 4 = .ok (.ishr, 1) := by decide +kernel
theorem dX9_leastOf_5 : decode μX9_leastOf.2.1 5 = .ok (.iconst 1, 1) := by decide +kernel
theorem dX9_leastOf_6 : decode μX9_leastOf.2.1 6 = .ok (.iand, 1) := by decide +kernel
theorem dX9_leastOf_7 : decode μX9_leastOf.2.1 7 = .ok (.ifCond .ne 9, 3) := by decide +kernel
theorem dX9_leastOf_10 : decode μX9_leastOf.2.1 10 = .ok (.iinc 1 1, 3) := by decide +kernel
theorem dX9_leastOf_13 : decode μX9_leastOf.2.1 13 = .ok (.goto (-11), 3) := by decide +kernel
theorem dX9_leastOf_16 : decode μX9_leastOf.2.1 16 = .ok (.iload_n 1, 1) := by decide +kernel
theorem dX9_leastOf_17 : decode μX9_leastOf.2.1 17 = .ok (.ireturn, 1) := by decide +kernel
set_option maxRecDepth 20000 in
theorem sg_X9_leastOf_0 {d : Nat} {x0 : Int32} {M : Mem} {K : (Int32 → Mem → Prop)}  (h : RI d μX9_leastOf 2 [(0, .int x0), (1, .int 0)] [] M K) : CI d μX9_leastOf [.int x0] M K := by
  show Rn d μX9_leastOf 0 [(0, .int x0)] [] M _
  refine rn_iconst (v := 0) dX9_leastOf_0 rfl ?_
  refine rn_istore_n (lv' := [(0, .int x0), (1, .int 0)]) (hd := dX9_leastOf_1) (i := 1) (hi := rfl) (hn := by decide) (hf := rfl) (hl := rfl) ?_
  exact h
set_option maxRecDepth 20000 in
theorem sg_X9_leastOf_2 {d : Nat} {x0 : Int32} {x1 : Int32} {M : Mem} {K : (Int32 → Mem → Prop)}  (h : (if (x0 >>> (x1 &&& 31)) &&& 1 = 0 then RI d μX9_leastOf 2 [(0, .int x0), (1, .int (x1 + 1))] [] M K else K x1 M)) : RI d μX9_leastOf 2 [(0, .int x0), (1, .int x1)] [] M K := by
  show Rn d μX9_leastOf 2 [(0, .int x0), (1, .int x1)] [] M _
  refine rn_iload_n (i := 0) (x := x0) dX9_leastOf_2 rfl (by simp) ?_
  refine rn_iload_n (i := 1) (x := x1) dX9_leastOf_3 rfl (by simp) ?_
  refine rn_ishr dX9_leastOf_4 ?_
  refine rn_iconst (v := 1) dX9_leastOf_5 rfl ?_
  refine rn_iand dX9_leastOf_6 ?_
  refine rn_if_ne (tgt := 16) dX9_leastOf_7 (by decide) (ite_go h (fun hc h => ?_) (fun hc h => ?_))
  · refine rn_iinc (x := x1) (v := x1 + 1) (lv' := [(0, .int x0), (1, .int (x1 + 1))]) dX9_leastOf_10 (by simp) rfl (by decide) rfl rfl ?_
    refine rn_goto (tgt := 2) dX9_leastOf_13 (by decide) ?_
    exact h
  · refine rn_iload_n (i := 1) (x := x1) dX9_leastOf_16 rfl (by simp) ?_
    exact rn_iret dX9_leastOf_17 rfl ⟨_, rfl, h⟩
theorem dX9_ring_0 : decode μX9_ring.2.1 0 = .ok (.aload_n 0, 1) := by decide +kernel
theorem dX9_ring_1 : decode μX9_ring.2.1 1 = .ok (.iconst 0, 1) := by decide +kernel
theorem dX9_ring_2 : decode μX9_ring.2.1 2 = .ok (.putfield 417, 3) := by decide +kernel
theorem dX9_ring_5 : decode μX9_ring.2.1 5 = .ok (.aload_n 0, 1) := by decide +kernel
theorem dX9_ring_6 : decode μX9_ring.2.1 6 = .ok (.iload_n 1, 1) := by decide +kernel
theorem dX9_ring_7 : decode μX9_ring.2.1 7 = .ok (.invokevirtual 430, 3) := by decide +kernel
theorem dX9_ring_10 : decode μX9_ring.2.1 10 = .ok (.ifCond .ne 5, 3) := by decide +kernel
theorem dX9_ring_13 : decode μX9_ring.2.1 13 = .ok (.iconst (-1), 1) := by decide +kernel
theorem dX9_ring_14 : decode μX9_ring.2.1 14 = .ok (.ireturn, 1) := by decide +kernel
theorem dX9_ring_15 : decode μX9_ring.2.1 15 = .ok (.aload_n 0, 1) := by decide +kernel
theorem dX9_ring_16 : decode μX9_ring.2.1 16 = .ok (.iload_n 1, 1) := by decide +kernel
theorem dX9_ring_17 : decode μX9_ring.2.1 17 = .ok (.invokevirtual 268, 3) := by decide +kernel
theorem dX9_ring_20 : decode μX9_ring.2.1 20 = .ok (.istore_n 2, 1) := by decide +kernel
theorem dX9_ring_21 : decode μX9_ring.2.1 21 = .ok (.iload_n 2, 1) := by decide +kernel
theorem dX9_ring_22 : decode μX9_ring.2.1 22 = .ok (.ifCond .ne 7, 3) := by decide +kernel
theorem dX9_ring_25 : decode μX9_ring.2.1 25 = .ok (.iconst (-1), 1) := by decide +kernel
theorem dX9_ring_26 : decode μX9_ring.2.1 26 = .ok (.goto 7, 3) := by decide +kernel
theorem dX9_ring_29 : decode μX9_ring.2.1 29 = .ok (.iload_n 2, 1) := by decide +kernel
theorem dX9_ring_30 : decode μX9_ring.2.1 30 = .ok (.invokestatic 474, 3) := by decide +kernel
theorem dX9_ring_33 : decode μX9_ring.2.1 33 = .ok (.istore_n 3, 1) := by decide +kernel
theorem dX9_ring_34 : decode μX9_ring.2.1 34 = .ok (.iload_n 3, 1) := by decide +kernel
theorem dX9_ring_35 : decode μX9_ring.2.1 35 = .ok (.ifCond .lt 59, 3) := by decide +kernel
theorem dX9_ring_38 : decode μX9_ring.2.1 38 = .ok (.aload_n 0, 1) := by decide +kernel
theorem dX9_ring_39 : decode μX9_ring.2.1 39 = .ok (.getfield 57, 3) := by decide +kernel
theorem dX9_ring_42 : decode μX9_ring.2.1 42 = .ok (.aload_n 0, 1) := by decide +kernel
theorem dX9_ring_43 : decode μX9_ring.2.1 43 = .ok (.getfield 417, 3) := by decide +kernel
theorem dX9_ring_46 : decode μX9_ring.2.1 46 = .ok (.iload_n 3, 1) := by decide +kernel
theorem dX9_ring_47 : decode μX9_ring.2.1 47 = .ok (.iastore, 1) := by decide +kernel
theorem dX9_ring_48 : decode μX9_ring.2.1 48 = .ok (.aload_n 0, 1) := by decide +kernel
theorem dX9_ring_49 : decode μX9_ring.2.1 49 = .ok (.dup, 1) := by decide +kernel
theorem dX9_ring_50 : decode μX9_ring.2.1 50 = .ok (.getfield 417, 3) := by decide +kernel
theorem dX9_ring_53 : decode μX9_ring.2.1 53 = .ok (.iconst 1, 1) := by decide +kernel
theorem dX9_ring_54 : decode μX9_ring.2.1 54 = .ok (.iadd, 1) := by decide +kernel
theorem dX9_ring_55 : decode μX9_ring.2.1 55 = .ok (.putfield 417, 3) := by decide +kernel
theorem dX9_ring_58 : decode μX9_ring.2.1 58 = .ok (.iload_n 2, 1) := by decide +kernel
theorem dX9_ring_59 : decode μX9_ring.2.1 59 = .ok (.iconst 1, 1) := by decide +kernel
theorem dX9_ring_60 : decode μX9_ring.2.1 60 = .ok (.iload_n 3, 1) := by decide +kernel
theorem dX9_ring_61 : decode μX9_ring.2.1 61 = .ok (.ishl, 1) := by decide +kernel
theorem dX9_ring_62 : decode μX9_ring.2.1 62 = .ok (.iconst (-1), 1) := by decide +kernel
theorem dX9_ring_63 : decode μX9_ring.2.1 63 = .ok (.ixor, 1) := by decide +kernel
theorem dX9_ring_64 : decode μX9_ring.2.1 64 = .ok (.iand, 1) := by decide +kernel
theorem dX9_ring_65 : decode μX9_ring.2.1 65 = .ok (.istore_n 2, 1) := by decide +kernel
theorem dX9_ring_66 : decode μX9_ring.2.1 66 = .ok (.aload_n 0, 1) := by decide +kernel
theorem dX9_ring_67 : decode μX9_ring.2.1 67 = .ok (.iload_n 1, 1) := by decide +kernel
theorem dX9_ring_68 : decode μX9_ring.2.1 68 = .ok (.iload_n 3, 1) := by decide +kernel
theorem dX9_ring_69 : decode μX9_ring.2.1 69 = .ok (.invokevirtual 477, 3) := by decide +kernel
theorem dX9_ring_72 : decode μX9_ring.2.1 72 = .ok (.iload_n 2, 1) := by decide +kernel
theorem dX9_ring_73 : decode μX9_ring.2.1 73 = .ok (.iand, 1) := by decide +kernel
theorem dX9_ring_74 : decode μX9_ring.2.1 74 = .ok (.istore 4, 2) := by decide +kernel
theorem dX9_ring_76 : decode μX9_ring.2.1 76 = .ok (.iload 4, 2) := by decide +kernel
theorem dX9_ring_78 : decode μX9_ring.2.1 78 = .ok (.ifCond .ne 7, 3) := by decide +kernel
theorem dX9_ring_81 : decode μX9_ring.2.1 81 = .ok (.iconst (-1), 1) := by decide +kernel
theorem dX9_ring_82 : decode μX9_ring.2.1 82 = .ok (.goto 8, 3) := by decide +kernel
theorem dX9_ring_85 : decode μX9_ring.2.1 85 = .ok (.iload 4, 2) := by decide +kernel
theorem dX9_ring_87 : decode μX9_ring.2.1 87 = .ok (.invokestatic 474, 3) := by decide +kernel
theorem dX9_ring_90 : decode μX9_ring.2.1 90 = .ok (.istore_n 3, 1) := by decide +kernel
theorem dX9_ring_91 : decode μX9_ring.2.1 91 = .ok (.goto (-57), 3) := by decide +kernel
theorem dX9_ring_94 : decode μX9_ring.2.1 94 = .ok (.aload_n 0, 1) := by decide +kernel
theorem dX9_ring_95 : decode μX9_ring.2.1 95 = .ok (.getfield 417, 3) := by decide +kernel
theorem dX9_ring_98 : decode μX9_ring.2.1 98 = .ok (.ireturn, 1) := by decide +kernel
set_option maxRecDepth 20000 in
theorem sg_X9_ring_0 {d : Nat} {x1 : Int32} {M : Mem} {K : (Int32 → Mem → Prop)}  (h : (∀ M1, M1 = wi M 58 45 0 → (CI d μX9_isThereNow [.ref 58, .int x1] M1 (fun r3 M2 => (if r3 = 0 then K ((-1)) M2 else (CI d μX9_bordersOf [.ref 58, .int x1] M2 (fun r5 M4 => (if r5 = 0 then RI (d + 1) μX9_ring 34 [(0, .ref 58), (1, .int x1), (2, .int r5), (3, .int ((-1)))] [] M4 K else (CI d μX9_leastOf [.int r5] M4 (fun r7 M6 => RI (d + 1) μX9_ring 34 [(0, .ref 58), (1, .int x1), (2, .int r5), (3, .int r7)] [] M6 K)))))))))) : CI (d + 1) μX9_ring [.ref 58, .int x1] M K := by
  show Rn (d + 1) μX9_ring 0 [(0, .ref 58), (1, .int x1)] [] M _
  refine rn_aload_n (i := 0) (x := 58) dX9_ring_0 rfl (by simp) ?_
  refine rn_iconst (v := 0) dX9_ring_1 rfl ?_
  have h := h _ rfl
  refine rn_puti dX9_ring_2 rfl pf_X9_417 (by decide) rfl rfl ?_
  generalize wi M 58 45 0 = M1 at h ⊢
  refine rn_aload_n (i := 0) (x := 58) dX9_ring_5 rfl (by simp) ?_
  refine rn_iload_n (i := 1) (x := x1) dX9_ring_6 rfl (by simp) ?_
  refine rn_callVi (as := [.int x1]) (st := []) dX9_ring_7 mf_X9_isThereNow lk_X9_430 im_X9_isThereNow rfl rfl rfl rfl (Nat.le_of_ble_eq_true rfl) (Nat.le_of_ble_eq_true rfl) rfl (RI.mono h (fun r3 M2 h => ?_))
  refine rn_if_ne (tgt := 15) dX9_ring_10 (by decide) (ite_go h (fun hc h => ?_) (fun hc h => ?_))
  · refine rn_iconst (v := -1) dX9_ring_13 rfl ?_
    exact rn_iret dX9_ring_14 rfl ⟨_, rfl, h⟩
  · refine rn_aload_n (i := 0) (x := 58) dX9_ring_15 rfl (by simp) ?_
    refine rn_iload_n (i := 1) (x := x1) dX9_ring_16 rfl (by simp) ?_
    refine rn_callVi (as := [.int x1]) (st := []) dX9_ring_17 mf_X9_bordersOf lk_X9_268 im_X9_bordersOf rfl rfl rfl rfl (Nat.le_of_ble_eq_true rfl) (Nat.le_of_ble_eq_true rfl) rfl (RI.mono h (fun r5 M4 h => ?_))
    refine rn_istore_n (lv' := [(0, .ref 58), (1, .int x1), (2, .int r5)]) (hd := dX9_ring_20) (i := 2) (hi := rfl) (hn := by decide) (hf := rfl) (hl := rfl) ?_
    refine rn_iload_n (i := 2) (x := r5) dX9_ring_21 rfl (by simp) ?_
    refine rn_if_ne (tgt := 29) dX9_ring_22 (by decide) (ite_go h (fun hc h => ?_) (fun hc h => ?_))
    · refine rn_iconst (v := -1) dX9_ring_25 rfl ?_
      refine rn_goto (tgt := 33) dX9_ring_26 (by decide) ?_
      refine rn_istore_n (lv' := [(0, .ref 58), (1, .int x1), (2, .int r5), (3, .int ((-1)))]) (hd := dX9_ring_33) (i := 3) (hi := rfl) (hn := by decide) (hf := rfl) (hl := rfl) ?_
      exact h
    · refine rn_iload_n (i := 2) (x := r5) dX9_ring_29 rfl (by simp) ?_
      refine rn_callSi (as := [.int r5]) (st := []) dX9_ring_30 mf_X9_leastOf lk_X9_474 sm_X9_leastOf rfl (Nat.le_of_ble_eq_true rfl) (Nat.le_of_ble_eq_true rfl) rfl (RI.mono h (fun r7 M6 h => ?_))
      refine rn_istore_n (lv' := [(0, .ref 58), (1, .int x1), (2, .int r5), (3, .int r7)]) (hd := dX9_ring_33) (i := 3) (hi := rfl) (hn := by decide) (hf := rfl) (hl := rfl) ?_
      exact h
set_option maxRecDepth 20000 in
theorem sg_X9_ring_34 {d : Nat} {x1 : Int32} {x2 : Int32} {x3 : Int32} {M : Mem} {K : (Int32 → Mem → Prop)}  (h : (if x3 < 0 then K (ri M 58 45) M else (vp_in (ri M 58 45) 8 ∧ ∀ M1, M1 = wi M 73 (nx (ri M 58 45)) x3 → (∀ M2, M2 = wi M1 58 45 ((ri M1 58 45) + 1) → (CI d μX9_ringNext [.ref 58, .int x1, .int x3] M2 (fun r4 M3 => (if r4 &&& (x2 &&& (((1 : Int32) <<< (x3 &&& 31)) ^^^ ((-1)))) = 0 then RI (d + 1) μX9_ring 34 [(0, .ref 58), (1, .int x1), (2, .int (x2 &&& (((1 : Int32) <<< (x3 &&& 31)) ^^^ ((-1))))), (3, .int ((-1)))] [] M3 K else (CI d μX9_leastOf [.int (r4 &&& (x2 &&& (((1 : Int32) <<< (x3 &&& 31)) ^^^ ((-1)))))] M3 (fun r6 M5 => RI (d + 1) μX9_ring 34 [(0, .ref 58), (1, .int x1), (2, .int (x2 &&& (((1 : Int32) <<< (x3 &&& 31)) ^^^ ((-1))))), (3, .int r6)] [] M5 K))))))))) : RI (d + 1) μX9_ring 34 [(0, .ref 58), (1, .int x1), (2, .int x2), (3, .int x3)] [] M K := by
  show Rn (d + 1) μX9_ring 34 [(0, .ref 58), (1, .int x1), (2, .int x2), (3, .int x3)] [] M _
  refine rn_iload_n (i := 3) (x := x3) dX9_ring_34 rfl (by simp) ?_
  refine rn_if_lt (tgt := 94) dX9_ring_35 (by decide) (ite_go h (fun hc h => ?_) (fun hc h => ?_))
  · refine rn_aload_n (i := 0) (x := 58) dX9_ring_94 rfl (by simp) ?_
    refine rn_geti dX9_ring_95 rfl gf_X9_417 (by decide) ?_
    exact rn_iret dX9_ring_98 rfl ⟨_, rfl, h⟩
  · refine rn_aload_n (i := 0) (x := 58) dX9_ring_38 rfl (by simp) ?_
    refine rn_getr (t := 73) dX9_ring_39 rfl gf_X9_57 rfl rfl ?_
    refine rn_aload_n (i := 0) (x := 58) dX9_ring_42 rfl (by simp) ?_
    refine rn_geti dX9_ring_43 rfl gf_X9_417 (by decide) ?_
    refine rn_iload_n (i := 3) (x := x3) dX9_ring_46 rfl (by simp) ?_
    obtain ⟨hi, h⟩ := h
    have h := h _ rfl
    refine rn_iastore dX9_ring_47 rfl hi ?_
    generalize wi M 73 (nx (ri M 58 45)) x3 = M1 at h ⊢
    refine rn_aload_n (i := 0) (x := 58) dX9_ring_48 rfl (by simp) ?_
    refine rn_dup dX9_ring_49 rfl ?_
    refine rn_geti dX9_ring_50 rfl gf_X9_417 (by decide) ?_
    refine rn_iconst (v := 1) dX9_ring_53 rfl ?_
    refine rn_iadd dX9_ring_54 ?_
    have h := h _ rfl
    refine rn_puti dX9_ring_55 rfl pf_X9_417 (by decide) rfl rfl ?_
    generalize wi M1 58 45 ((ri M1 58 45) + 1) = M2 at h ⊢
    refine rn_iload_n (i := 2) (x := x2) dX9_ring_58 rfl (by simp) ?_
    refine rn_iconst (v := 1) dX9_ring_59 rfl ?_
    refine rn_iload_n (i := 3) (x := x3) dX9_ring_60 rfl (by simp) ?_
    refine rn_ishl dX9_ring_61 ?_
    refine rn_iconst (v := -1) dX9_ring_62 rfl ?_
    refine rn_ixor dX9_ring_63 ?_
    refine rn_iand dX9_ring_64 ?_
    refine rn_istore_n (lv' := [(0, .ref 58), (1, .int x1), (2, .int (x2 &&& (((1 : Int32) <<< (x3 &&& 31)) ^^^ ((-1))))), (3, .int x3)]) (hd := dX9_ring_65) (i := 2) (hi := rfl) (hn := by decide) (hf := rfl) (hl := rfl) ?_
    refine rn_aload_n (i := 0) (x := 58) dX9_ring_66 rfl (by simp) ?_
    refine rn_iload_n (i := 1) (x := x1) dX9_ring_67 rfl (by simp) ?_
    refine rn_iload_n (i := 3) (x := x3) dX9_ring_68 rfl (by simp) ?_
    refine rn_callVi (as := [.int x1, .int x3]) (st := []) dX9_ring_69 mf_X9_ringNext lk_X9_477 im_X9_ringNext rfl rfl rfl rfl (Nat.le_of_ble_eq_true rfl) (Nat.le_of_ble_eq_true rfl) rfl (RI.mono h (fun r4 M3 h => ?_))
    refine rn_iload_n (i := 2) (x := x2 &&& (((1 : Int32) <<< (x3 &&& 31)) ^^^ ((-1)))) dX9_ring_72 rfl (by simp) ?_
    refine rn_iand dX9_ring_73 ?_
    refine rn_istore (lv' := [(0, .ref 58), (1, .int x1), (2, .int (x2 &&& (((1 : Int32) <<< (x3 &&& 31)) ^^^ ((-1))))), (3, .int x3), (4, .int (r4 &&& (x2 &&& (((1 : Int32) <<< (x3 &&& 31)) ^^^ ((-1))))))]) (hd := dX9_ring_74) (hn := by decide) (hf := rfl) (hl := rfl) ?_
    refine rn_iload (x := r4 &&& (x2 &&& (((1 : Int32) <<< (x3 &&& 31)) ^^^ ((-1))))) dX9_ring_76 (by simp) ?_
    refine rn_if_ne (tgt := 85) dX9_ring_78 (by decide) (ite_go h (fun hc h => ?_) (fun hc h => ?_))
    · refine rn_iconst (v := -1) dX9_ring_81 rfl ?_
      refine rn_goto (tgt := 90) dX9_ring_82 (by decide) ?_
      refine rn_istore_n (lv' := [(0, .ref 58), (1, .int x1), (2, .int (x2 &&& (((1 : Int32) <<< (x3 &&& 31)) ^^^ ((-1))))), (3, .int ((-1))), (4, .int (r4 &&& (x2 &&& (((1 : Int32) <<< (x3 &&& 31)) ^^^ ((-1))))))]) (hd := dX9_ring_90) (i := 3) (hi := rfl) (hn := by decide) (hf := rfl) (hl := rfl) ?_
      refine rn_goto (tgt := 34) dX9_ring_91 (by decide) ?_
      refine Rn.sub (lv' := [(0, .ref 58), (1, .int x1), (2, .int (x2 &&& (((1 : Int32) <<< (x3 &&& 31)) ^^^ ((-1))))), (3, .int ((-1)))]) (by simp) ?_
      exact h
    · refine rn_iload (x := r4 &&& (x2 &&& (((1 : Int32) <<< (x3 &&& 31)) ^^^ ((-1))))) dX9_ring_85 (by simp) ?_
      refine rn_callSi (as := [.int (r4 &&& (x2 &&& (((1 : Int32) <<< (x3 &&& 31)) ^^^ ((-1)))))]) (st := []) dX9_ring_87 mf_X9_leastOf lk_X9_474 sm_X9_leastOf rfl (Nat.le_of_ble_eq_true rfl) (Nat.le_of_ble_eq_true rfl) rfl (RI.mono h (fun r6 M5 h => ?_))
      refine rn_istore_n (lv' := [(0, .ref 58), (1, .int x1), (2, .int (x2 &&& (((1 : Int32) <<< (x3 &&& 31)) ^^^ ((-1))))), (3, .int r6), (4, .int (r4 &&& (x2 &&& (((1 : Int32) <<< (x3 &&& 31)) ^^^ ((-1))))))]) (hd := dX9_ring_90) (i := 3) (hi := rfl) (hn := by decide) (hf := rfl) (hl := rfl) ?_
      refine rn_goto (tgt := 34) dX9_ring_91 (by decide) ?_
      refine Rn.sub (lv' := [(0, .ref 58), (1, .int x1), (2, .int (x2 &&& (((1 : Int32) <<< (x3 &&& 31)) ^^^ ((-1))))), (3, .int r6)]) (by simp) ?_
      exact h
theorem dX9_save_0 : decode μX9_save.2.1 0 = .ok (.aload_n 0, 1) := by decide +kernel
theorem dX9_save_1 : decode μX9_save.2.1 1 = .ok (.iload_n 1, 1) := by decide +kernel
theorem dX9_save_2 : decode μX9_save.2.1 2 = .ok (.invokevirtual 430, 3) := by decide +kernel
theorem dX9_save_5 : decode μX9_save.2.1 5 = .ok (.ifCond .eq 13, 3) := by decide +kernel
theorem dX9_save_8 : decode μX9_save.2.1 8 = .ok (.iload_n 2, 1) := by decide +kernel
theorem dX9_save_9 : decode μX9_save.2.1 9 = .ok (.iconst 0, 1) := by decide +kernel
theorem dX9_save_10 : decode μX9_save.2.1 10 = .ok (.bipush 30, 2) := by decide +kernel
theorem dX9_save_12 : decode μX9_save.2.1 12 = .ok (.invokestatic 420, 3) := by decide +kernel
theorem dX9_save_15 : decode μX9_save.2.1 15 = .ok (.ifCond .ne 5, 3) := by decide +kernel
theorem dX9_save_18 : decode μX9_save.2.1 18 = .ok (.iconst (-1), 1) := by decide +kernel
theorem dX9_save_19 : decode μX9_save.2.1 19 = .ok (.ireturn, 1) := by decide +kernel
theorem dX9_save_20 : decode μX9_save.2.1 20 = .ok (.iconst 0, 1) := by decide +kernel
theorem dX9_save_21 : decode μX9_save.2.1 21 = .ok (.istore_n 3, 1) := by decide +kernel
theorem dX9_save_22 : decode μX9_save.2.1 22 = .ok (.iload_n 3, 1) := by decide +kernel
theorem dX9_save_23 : decode μX9_save.2.1 23 = .ok (.aload_n 0, 1) := by decide +kernel
theorem dX9_save_24 : decode μX9_save.2.1 24 = .ok (.getfield 326, 3) := by decide +kernel
theorem dX9_save_27 : decode μX9_save.2.1 27 = .ok (.if_icmp .ge 79, 3) := by decide +kernel
theorem dX9_save_30 : decode μX9_save.2.1 30 = .ok (.iconst 0, 1) := by decide +kernel
theorem dX9_save_31 : decode μX9_save.2.1 31 = .ok (.istore 4, 2) := by decide +kernel
theorem dX9_save_33 : decode μX9_save.2.1 33 = .ok (.iload 4, 2) := by decide +kernel
theorem dX9_save_35 : decode μX9_save.2.1 35 = .ok (.aload_n 0, 1) := by decide +kernel
theorem dX9_save_36 : decode μX9_save.2.1 36 = .ok (.getfield 326, 3) := by decide +kernel
theorem dX9_save_39 : decode μX9_save.2.1 39 = .ok (.if_icmp .ge 61, 3) := by decide +kernel
theorem dX9_save_42 : decode μX9_save.2.1 42 = .ok (.aload_n 0, 1) := by decide +kernel
theorem dX9_save_43 : decode μX9_save.2.1 43 = .ok (.invokevirtual 424, 3) := by decide +kernel
theorem dX9_save_46 : decode μX9_save.2.1 46 = .ok (.iload 4, 2) := by decide +kernel
theorem dX9_save_48 : decode μX9_save.2.1 48 = .ok (.iload_n 1, 1) := by decide +kernel
theorem dX9_save_49 : decode μX9_save.2.1 49 = .ok (.if_icmp .eq 45, 3) := by decide +kernel
theorem dX9_save_52 : decode μX9_save.2.1 52 = .ok (.aload_n 0, 1) := by decide +kernel
theorem dX9_save_53 : decode μX9_save.2.1 53 = .ok (.iload_n 3, 1) := by decide +kernel
theorem dX9_save_54 : decode μX9_save.2.1 54 = .ok (.iload 4, 2) := by decide +kernel
theorem dX9_save_56 : decode μX9_save.2.1 56 = .ok (.invokevirtual 433, 3) := by decide +kernel
theorem dX9_save_59 : decode μX9_save.2.1 59 = .ok (.ifCond .ne 6, 3) := by decide +kernel
theorem dX9_save_62 : decode μX9_save.2.1 62 = .ok (.goto 32, 3) := by decide +kernel
theorem dX9_save_65 : decode μX9_save.2.1 65 = .ok (.aload_n 0, 1) := by decide +kernel
theorem dX9_save_66 : decode μX9_save.2.1 66 = .ok (.iload_n 3, 1) := by decide +kernel
theorem dX9_save_67 : decode μX9_save.2.1 67 = .ok (.iload 4, 2) := by decide +kernel
theorem dX9_save_69 : decode μX9_save.2.1 69 = .ok (.invokevirtual 443, 3) := by decide +kernel
theorem dX9_save_72 : decode μX9_save.2.1 72 = .ok (.aload_n 0, 1) := by decide +kernel
theorem dX9_save_73 : decode μX9_save.2.1 73 = .ok (.iload_n 2, 1) := by decide +kernel
theorem dX9_save_74 : decode μX9_save.2.1 74 = .ok (.iconst 0, 1) := by decide +kernel
theorem dX9_save_75 : decode μX9_save.2.1 75 = .ok (.invokevirtual 449, 3) := by decide +kernel
theorem dX9_save_78 : decode μX9_save.2.1 78 = .ok (.aload_n 0, 1) := by decide +kernel
theorem dX9_save_79 : decode μX9_save.2.1 79 = .ok (.iload_n 1, 1) := by decide +kernel
theorem dX9_save_80 : decode μX9_save.2.1 80 = .ok (.invokevirtual 335, 3) := by decide +kernel
theorem dX9_save_83 : decode μX9_save.2.1 83 = .ok (.ifCond .eq 11, 3) := by decide +kernel
theorem dX9_save_86 : decode μX9_save.2.1 86 = .ok (.bipush 8, 2) := by decide +kernel
theorem dX9_save_88 : decode μX9_save.2.1 88 = .ok (.iload_n 3, 1) := by decide +kernel
theorem dX9_save_89 : decode μX9_save.2.1 89 = .ok (.imul, 1) := by decide +kernel
theorem dX9_save_90 : decode μX9_save.2.1 90 = .ok (.iload 4, 2) := by decide +kernel
theorem dX9_save_92 : decode μX9_save.2.1 92 = .ok (.iadd, 1) := by decide +kernel
theorem dX9_save_93 : decode μX9_save.2.1 93 = .ok (.ireturn, 1) := by decide +kernel
theorem dX9_save_94 : decode μX9_save.2.1 94 = .ok (.iinc 4 1, 3) := by decide +kernel
theorem dX9_save_97 : decode μX9_save.2.1 97 = .ok (.goto (-64), 3) := by decide +kernel
theorem dX9_save_100 : decode μX9_save.2.1 100 = .ok (.iinc 3 1, 3) := by decide +kernel
theorem dX9_save_103 : decode μX9_save.2.1 103 = .ok (.goto (-81), 3) := by decide +kernel
theorem dX9_save_106 : decode μX9_save.2.1 106 = .ok (.iconst (-1), 1) := by decide +kernel
theorem dX9_save_107 : decode μX9_save.2.1 107 = .ok (.ireturn, 1) := by decide +kernel
set_option maxRecDepth 20000 in
theorem sg_X9_save_0 {d : Nat} {x1 : Int32} {x2 : Int32} {M : Mem} {K : (Int32 → Mem → Prop)}  (h : (CI d μX9_isThereNow [.ref 58, .int x1] M (fun r2 M1 => (if r2 = 0 then K ((-1)) M1 else (CI d μX9_isIn [.int x2, .int 0, .int 30] M1 (fun r4 M3 => (if r4 = 0 then K ((-1)) M3 else RI (d + 1) μX9_save 22 [(0, .ref 58), (1, .int x1), (2, .int x2), (3, .int 0)] [] M3 K))))))) : CI (d + 1) μX9_save [.ref 58, .int x1, .int x2] M K := by
  show Rn (d + 1) μX9_save 0 [(0, .ref 58), (1, .int x1), (2, .int x2)] [] M _
  refine rn_aload_n (i := 0) (x := 58) dX9_save_0 rfl (by simp) ?_
  refine rn_iload_n (i := 1) (x := x1) dX9_save_1 rfl (by simp) ?_
  refine rn_callVi (as := [.int x1]) (st := []) dX9_save_2 mf_X9_isThereNow lk_X9_430 im_X9_isThereNow rfl rfl rfl rfl (Nat.le_of_ble_eq_true rfl) (Nat.le_of_ble_eq_true rfl) rfl (RI.mono h (fun r2 M1 h => ?_))
  refine rn_if_eq (tgt := 18) dX9_save_5 (by decide) (ite_go h (fun hc h => ?_) (fun hc h => ?_))
  · refine rn_iconst (v := -1) dX9_save_18 rfl ?_
    exact rn_iret dX9_save_19 rfl ⟨_, rfl, h⟩
  · refine rn_iload_n (i := 2) (x := x2) dX9_save_8 rfl (by simp) ?_
    refine rn_iconst (v := 0) dX9_save_9 rfl ?_
    refine rn_bipush (v := 30) dX9_save_10 rfl ?_
    refine rn_callSi (as := [.int x2, .int 0, .int 30]) (st := []) dX9_save_12 mf_X9_isIn lk_X9_420 sm_X9_isIn rfl (Nat.le_of_ble_eq_true rfl) (Nat.le_of_ble_eq_true rfl) rfl (RI.mono h (fun r4 M3 h => ?_))
    refine rn_if_ne (tgt := 20) dX9_save_15 (by decide) (ite_go h (fun hc h => ?_) (fun hc h => ?_))
    · refine rn_iconst (v := -1) dX9_save_18 rfl ?_
      exact rn_iret dX9_save_19 rfl ⟨_, rfl, h⟩
    · refine rn_iconst (v := 0) dX9_save_20 rfl ?_
      refine rn_istore_n (lv' := [(0, .ref 58), (1, .int x1), (2, .int x2), (3, .int 0)]) (hd := dX9_save_21) (i := 3) (hi := rfl) (hn := by decide) (hf := rfl) (hl := rfl) ?_
      exact h
set_option maxRecDepth 20000 in
theorem sg_X9_save_22 {d : Nat} {x1 : Int32} {x2 : Int32} {x3 : Int32} {M : Mem} {K : (Int32 → Mem → Prop)}  (h : (if ri M 58 35 ≤ x3 then K ((-1)) M else RI (d + 1) μX9_save 33 [(0, .ref 58), (1, .int x1), (2, .int x2), (3, .int x3), (4, .int 0)] [] M K)) : RI (d + 1) μX9_save 22 [(0, .ref 58), (1, .int x1), (2, .int x2), (3, .int x3)] [] M K := by
  show Rn (d + 1) μX9_save 22 [(0, .ref 58), (1, .int x1), (2, .int x2), (3, .int x3)] [] M _
  refine rn_iload_n (i := 3) (x := x3) dX9_save_22 rfl (by simp) ?_
  refine rn_aload_n (i := 0) (x := 58) dX9_save_23 rfl (by simp) ?_
  refine rn_geti dX9_save_24 rfl gf_X9_326 (by decide) ?_
  refine rn_icmp_ge (tgt := 106) dX9_save_27 (by decide) (ite_go h (fun hc h => ?_) (fun hc h => ?_))
  · refine rn_iconst (v := -1) dX9_save_106 rfl ?_
    exact rn_iret dX9_save_107 rfl ⟨_, rfl, h⟩
  · refine rn_iconst (v := 0) dX9_save_30 rfl ?_
    refine rn_istore (lv' := [(0, .ref 58), (1, .int x1), (2, .int x2), (3, .int x3), (4, .int 0)]) (hd := dX9_save_31) (hn := by decide) (hf := rfl) (hl := rfl) ?_
    exact h
set_option maxRecDepth 20000 in
theorem sg_X9_save_33 {d : Nat} {x1 : Int32} {x2 : Int32} {x3 : Int32} {x4 : Int32} {M : Mem} {K : (Int32 → Mem → Prop)}  (h : (if ri M 58 35 ≤ x4 then RI (d + 1) μX9_save 22 [(0, .ref 58), (1, .int x1), (2, .int x2), (3, .int (x3 + 1))] [] M K else (CV d μX9_fill [.ref 58] M (fun M1 => (if x4 = x1 then RI (d + 1) μX9_save 33 [(0, .ref 58), (1, .int x1), (2, .int x2), (3, .int x3), (4, .int (x4 + 1))] [] M1 K else (CI d μX9_canPop [.ref 58, .int x3, .int x4] M1 (fun r3 M2 => (if r3 = 0 then RI (d + 1) μX9_save 33 [(0, .ref 58), (1, .int x1), (2, .int x2), (3, .int x3), (4, .int (x4 + 1))] [] M2 K else (CV d μX9_doPop [.ref 58, .int x3, .int x4] M2 (fun M4 => (CV d μX9_go [.ref 58, .int x2, .int 0] M4 (fun M5 => (CI d μX9_isThere [.ref 58, .int x1] M5 (fun r7 M6 => (if r7 = 0 then RI (d + 1) μX9_save 33 [(0, .ref 58), (1, .int x1), (2, .int x2), (3, .int x3), (4, .int (x4 + 1))] [] M6 K else K ((8 * x3) + x4) M6))))))))))))))) : RI (d + 1) μX9_save 33 [(0, .ref 58), (1, .int x1), (2, .int x2), (3, .int x3), (4, .int x4)] [] M K := by
  show Rn (d + 1) μX9_save 33 [(0, .ref 58), (1, .int x1), (2, .int x2), (3, .int x3), (4, .int x4)] [] M _
  refine rn_iload (x := x4) dX9_save_33 (by simp) ?_
  refine rn_aload_n (i := 0) (x := 58) dX9_save_35 rfl (by simp) ?_
  refine rn_geti dX9_save_36 rfl gf_X9_326 (by decide) ?_
  refine rn_icmp_ge (tgt := 100) dX9_save_39 (by decide) (ite_go h (fun hc h => ?_) (fun hc h => ?_))
  · refine rn_iinc (x := x3) (v := x3 + 1) (lv' := [(0, .ref 58), (1, .int x1), (2, .int x2), (3, .int (x3 + 1)), (4, .int x4)]) dX9_save_100 (by simp) rfl (by decide) rfl rfl ?_
    refine rn_goto (tgt := 22) dX9_save_103 (by decide) ?_
    refine Rn.sub (lv' := [(0, .ref 58), (1, .int x1), (2, .int x2), (3, .int (x3 + 1))]) (by simp) ?_
    exact h
  · refine rn_aload_n (i := 0) (x := 58) dX9_save_42 rfl (by simp) ?_
    refine rn_callVv (as := []) (st := []) dX9_save_43 mf_X9_fill lk_X9_424 im_X9_fill rfl rfl rfl rfl (Nat.le_of_ble_eq_true rfl) (Nat.le_of_ble_eq_true rfl) rfl (RV.mono h (fun M1 h => ?_))
    refine rn_iload (x := x4) dX9_save_46 (by simp) ?_
    refine rn_iload_n (i := 1) (x := x1) dX9_save_48 rfl (by simp) ?_
    refine rn_icmp_eq (tgt := 94) dX9_save_49 (by decide) (ite_go h (fun hc h => ?_) (fun hc h => ?_))
    · refine rn_iinc (x := x4) (v := x4 + 1) (lv' := [(0, .ref 58), (1, .int x1), (2, .int x2), (3, .int x3), (4, .int (x4 + 1))]) dX9_save_94 (by simp) rfl (by decide) rfl rfl ?_
      refine rn_goto (tgt := 33) dX9_save_97 (by decide) ?_
      exact h
    · refine rn_aload_n (i := 0) (x := 58) dX9_save_52 rfl (by simp) ?_
      refine rn_iload_n (i := 3) (x := x3) dX9_save_53 rfl (by simp) ?_
      refine rn_iload (x := x4) dX9_save_54 (by simp) ?_
      refine rn_callVi (as := [.int x3, .int x4]) (st := []) dX9_save_56 mf_X9_canPop lk_X9_433 im_X9_canPop rfl rfl rfl rfl (Nat.le_of_ble_eq_true rfl) (Nat.le_of_ble_eq_true rfl) rfl (RI.mono h (fun r3 M2 h => ?_))
      refine rn_if_ne (tgt := 65) dX9_save_59 (by decide) (ite_go h (fun hc h => ?_) (fun hc h => ?_))
      · refine rn_goto (tgt := 94) dX9_save_62 (by decide) ?_
        refine rn_iinc (x := x4) (v := x4 + 1) (lv' := [(0, .ref 58), (1, .int x1), (2, .int x2), (3, .int x3), (4, .int (x4 + 1))]) dX9_save_94 (by simp) rfl (by decide) rfl rfl ?_
        refine rn_goto (tgt := 33) dX9_save_97 (by decide) ?_
        exact h
      · refine rn_aload_n (i := 0) (x := 58) dX9_save_65 rfl (by simp) ?_
        refine rn_iload_n (i := 3) (x := x3) dX9_save_66 rfl (by simp) ?_
        refine rn_iload (x := x4) dX9_save_67 (by simp) ?_
        refine rn_callVv (as := [.int x3, .int x4]) (st := []) dX9_save_69 mf_X9_doPop lk_X9_443 im_X9_doPop rfl rfl rfl rfl (Nat.le_of_ble_eq_true rfl) (Nat.le_of_ble_eq_true rfl) rfl (RV.mono h (fun M4 h => ?_))
        refine rn_aload_n (i := 0) (x := 58) dX9_save_72 rfl (by simp) ?_
        refine rn_iload_n (i := 2) (x := x2) dX9_save_73 rfl (by simp) ?_
        refine rn_iconst (v := 0) dX9_save_74 rfl ?_
        refine rn_callVv (as := [.int x2, .int 0]) (st := []) dX9_save_75 mf_X9_go lk_X9_449 im_X9_go rfl rfl rfl rfl (Nat.le_of_ble_eq_true rfl) (Nat.le_of_ble_eq_true rfl) rfl (RV.mono h (fun M5 h => ?_))
        refine rn_aload_n (i := 0) (x := 58) dX9_save_78 rfl (by simp) ?_
        refine rn_iload_n (i := 1) (x := x1) dX9_save_79 rfl (by simp) ?_
        refine rn_callVi (as := [.int x1]) (st := []) dX9_save_80 mf_X9_isThere lk_X9_335 im_X9_isThere rfl rfl rfl rfl (Nat.le_of_ble_eq_true rfl) (Nat.le_of_ble_eq_true rfl) rfl (RI.mono h (fun r7 M6 h => ?_))
        refine rn_if_eq (tgt := 94) dX9_save_83 (by decide) (ite_go h (fun hc h => ?_) (fun hc h => ?_))
        · refine rn_iinc (x := x4) (v := x4 + 1) (lv' := [(0, .ref 58), (1, .int x1), (2, .int x2), (3, .int x3), (4, .int (x4 + 1))]) dX9_save_94 (by simp) rfl (by decide) rfl rfl ?_
          refine rn_goto (tgt := 33) dX9_save_97 (by decide) ?_
          exact h
        · refine rn_bipush (v := 8) dX9_save_86 rfl ?_
          refine rn_iload_n (i := 3) (x := x3) dX9_save_88 rfl (by simp) ?_
          refine rn_imul dX9_save_89 ?_
          refine rn_iload (x := x4) dX9_save_90 (by simp) ?_
          refine rn_iadd dX9_save_92 ?_
          exact rn_iret dX9_save_93 rfl ⟨_, rfl, h⟩
theorem dX9_boost_0 : decode μX9_boost.2.1 0 = .ok (.aload_n 0, 1) := by decide +kernel
theorem dX9_boost_1 : decode μX9_boost.2.1 1 = .ok (.iload_n 1, 1) := by decide +kernel
theorem dX9_boost_2 : decode μX9_boost.2.1 2 = .ok (.invokevirtual 430, 3) := by decide +kernel
theorem dX9_boost_5 : decode μX9_boost.2.1 5 = .ok (.ifCond .eq 22, 3) := by decide +kernel
theorem dX9_boost_8 : decode μX9_boost.2.1 8 = .ok (.iload_n 2, 1) := by decide +kernel
theorem dX9_boost_9 : decode μX9_boost.2.1 9 = .ok (.iconst 0, 1) := by decide +kernel
theorem dX9_boost_10 : decode μX9_boost.2.1 10 = .ok (.bipush 30, 2) := by decide +kernel
theorem dX9_boost_12 : decode μX9_boost.2.1 12 = .ok (.invokestatic 420, 3) := by decide +kernel
theorem dX9_boost_15 : decode μX9_boost.2.1 15 = .ok (.ifCond .eq 12, 3) := by decide +kernel
theorem dX9_boost_18 : decode μX9_boost.2.1 18 = .ok (.iload_n 3, 1) := by decide +kernel
theorem dX9_boost_19 : decode μX9_boost.2.1 19 = .ok (.iconst 0, 1) := by decide +kernel
theorem dX9_boost_20 : decode μX9_boost.2.1 20 = .ok (.iconst 1, 1) := by decide +kernel
theorem dX9_boost_21 : decode μX9_boost.2.1 21 = .ok (.invokestatic 420, 3) := by decide +kernel
theorem dX9_boost_24 : decode μX9_boost.2.1 24 = .ok (.ifCond .ne 5, 3) := by decide +kernel
theorem dX9_boost_27 : decode μX9_boost.2.1 27 = .ok (.iconst (-1), 1) := by decide +kernel
theorem dX9_boost_28 : decode μX9_boost.2.1 28 = .ok (.ireturn, 1) := by decide +kernel
theorem dX9_boost_29 : decode μX9_boost.2.1 29 = .ok (.iconst (-1), 1) := by decide +kernel
theorem dX9_boost_30 : decode μX9_boost.2.1 30 = .ok (.istore 4, 2) := by decide +kernel
theorem dX9_boost_32 : decode μX9_boost.2.1 32 = .ok (.iconst (-1), 1) := by decide +kernel
theorem dX9_boost_33 : decode μX9_boost.2.1 33 = .ok (.istore 5, 2) := by decide +kernel
theorem dX9_boost_35 : decode μX9_boost.2.1 35 = .ok (.iconst 0, 1) := by decide +kernel
theorem dX9_boost_36 : decode μX9_boost.2.1 36 = .ok (.istore 6, 2) := by decide +kernel
theorem dX9_boost_38 : decode μX9_boost.2.1 38 = .ok (.iload 6, 2) := by decide +kernel
theorem dX9_boost_40 : decode μX9_boost.2.1 40 = .ok (.aload_n 0, 1) := by decide +kernel
theorem dX9_boost_41 : decode μX9_boost.2.1 41 = .ok (.getfield 326, 3) := by decide +kernel
theorem dX9_boost_44 : decode μX9_boost.2.1 44 = .ok (.if_icmp .ge 101, 3) := by decide +kernel
theorem dX9_boost_47 : decode μX9_boost.2.1 47 = .ok (.iload 6, 2) := by decide +kernel
theorem dX9_boost_49 : decode μX9_boost.2.1 49 = .ok (.iconst 1, 1) := by decide +kernel
theorem dX9_boost_50 : decode μX9_boost.2.1 50 = .ok (.iadd, 1) := by decide +kernel
theorem dX9_boost_51 : decode μX9_boost.2.1 51 = .ok (.istore 7, 2) := by decide +kernel
theorem dX9_boost_53 : decode μX9_boost.2.1 53 = .ok (.iload 7, 2) := by decide +kernel
theorem dX9_boost_55 : decode μX9_boost.2.1 55 = .ok (.aload_n 0, 1) := by decide +kernel
theorem dX9_boost_56 : decode μX9_boost.2.1 56 = .ok (.getfield 326, 3) := by decide +kernel
theorem dX9_boost_59 : decode μX9_boost.2.1 59 = .ok (.if_icmp .ge 80, 3) := by decide +kernel
theorem dX9_boost_62 : decode μX9_boost.2.1 62 = .ok (.aload_n 0, 1) := by decide +kernel
theorem dX9_boost_63 : decode μX9_boost.2.1 63 = .ok (.invokevirtual 424, 3) := by decide +kernel
theorem dX9_boost_66 : decode μX9_boost.2.1 66 = .ok (.aload_n 0, 1) := by decide +kernel
theorem dX9_boost_67 : decode μX9_boost.2.1 67 = .ok (.iload 6, 2) := by decide +kernel
theorem dX9_boost_69 : decode μX9_boost.2.1 69 = .ok (.iload 7, 2) := by decide +kernel
theorem dX9_boost_71 : decode μX9_boost.2.1 71 = .ok (.invokevirtual 329, 3) := by decide +kernel
theorem dX9_boost_74 : decode μX9_boost.2.1 74 = .ok (.ifCond .ne 6, 3) := by decide +kernel
theorem dX9_boost_77 : decode μX9_boost.2.1 77 = .ok (.goto 56, 3) := by decide +kernel
theorem dX9_boost_80 : decode μX9_boost.2.1 80 = .ok (.aload_n 0, 1) := by decide +kernel
theorem dX9_boost_81 : decode μX9_boost.2.1 81 = .ok (.iload 6, 2) := by decide +kernel
theorem dX9_boost_83 : decode μX9_boost.2.1 83 = .ok (.iload 7, 2) := by decide +kernel
theorem dX9_boost_85 : decode μX9_boost.2.1 85 = .ok (.invokevirtual 332, 3) := by decide +kernel
theorem dX9_boost_88 : decode μX9_boost.2.1 88 = .ok (.pop, 1) := by decide +kernel
theorem dX9_boost_89 : decode μX9_boost.2.1 89 = .ok (.aload_n 0, 1) := by decide +kernel
theorem dX9_boost_90 : decode μX9_boost.2.1 90 = .ok (.iload_n 2, 1) := by decide +kernel
theorem dX9_boost_91 : decode μX9_boost.2.1 91 = .ok (.iconst 0, 1) := by decide +kernel
theorem dX9_boost_92 : decode μX9_boost.2.1 92 = .ok (.invokevirtual 449, 3) := by decide +kernel
theorem dX9_boost_95 : decode μX9_boost.2.1 95 = .ok (.aload_n 0, 1) := by decide +kernel
theorem dX9_boost_96 : decode μX9_boost.2.1 96 = .ok (.getfield 45, 3) := by decide +kernel
theorem dX9_boost_99 : decode μX9_boost.2.1 99 = .ok (.bipush 14, 2) := by decide +kernel
theorem dX9_boost_101 : decode μX9_boost.2.1 101 = .ok (.iload_n 1, 1) := by decide +kernel
theorem dX9_boost_102 : decode μX9_boost.2.1 102 = .ok (.iadd, 1) := by decide +kernel
theorem dX9_boost_103 : decode μX9_boost.2.1 103 = .ok (.iaload, 1) := by decide +kernel
theorem dX9_boost_104 : decode μX9_boost.2.1 104 = .ok (.iload 5, 2) := by decide +kernel
theorem dX9_boost_106 : decode μX9_boost.2.1 106 = .ok (.if_icmp .gt 6, 3) := by decide +kernel
theorem dX9_boost_109 : decode μX9_boost.2.1 109 = .ok (.goto 24, 3) := by decide +kernel
theorem dX9_boost_112 : decode μX9_boost.2.1 112 = .ok (.aload_n 0, 1) := by decide +kernel
theorem dX9_boost_113 : decode μX9_boost.2.1 113 = .ok (.getfield 45, 3) := by decide +kernel
theorem dX9_boost_116 : decode μX9_boost.2.1 116 = .ok (.bipush 14, 2) := by decide +kernel
theorem dX9_boost_118 : decode μX9_boost.2.1 118 = .ok (.iload_n 1, 1) := by decide +kernel
theorem dX9_boost_119 : decode μX9_boost.2.1 119 = .ok (.iadd, 1) := by decide +kernel
theorem dX9_boost_120 : decode μX9_boost.2.1 120 = .ok (.iaload, 1) := by decide +kernel
theorem dX9_boost_121 : decode μX9_boost.2.1 121 = .ok (.istore 5, 2) := by decide +kernel
theorem dX9_boost_123 : decode μX9_boost.2.1 123 = .ok (.bipush 8, 2) := by decide +kernel
theorem dX9_boost_125 : decode μX9_boost.2.1 125 = .ok (.iload 6, 2) := by decide +kernel
theorem dX9_boost_127 : decode μX9_boost.2.1 127 = .ok (.imul, 1) := by decide +kernel
theorem dX9_boost_128 : decode μX9_boost.2.1 128 = .ok (.iload 7, 2) := by decide +kernel
theorem dX9_boost_130 : decode μX9_boost.2.1 130 = .ok (.iadd, 1) := by decide +kernel
theorem dX9_boost_131 : decode μX9_boost.2.1 131 = .ok (.istore 4, 2) := by decide +kernel
theorem dX9_boost_133 : decode μX9_boost.2.1 133 = .ok (.iinc 7 1, 3) := by decide +kernel
theorem dX9_boost_136 : decode μX9_boost.2.1 136 = .ok (.goto (-83), 3) := by decide +kernel
theorem dX9_boost_139 : decode μX9_boost.2.1 139 = .ok (.iinc 6 1, 3) := by decide +kernel
theorem dX9_boost_142 : decode μX9_boost.2.1 142 = .ok (.goto (-104), 3) := by decide +kernel
theorem dX9_boost_145 : decode μX9_boost.2.1 145 = .ok (.iload_n 3, 1) := by decide +kernel
theorem dX9_boost_146 : decode μX9_boost.2.1 146 = .ok (.ifCond .ne 8, 3) := by decide +kernel
theorem dX9_boost_149 : decode μX9_boost.2.1 149 = .ok (.iload 4, 2) := by decide +kernel
theorem dX9_boost_151 : decode μX9_boost.2.1 151 = .ok (.goto 5, 3) := by decide +kernel
theorem dX9_boost_154 : decode μX9_boost.2.1 154 = .ok (.iload 5, 2) := by decide +kernel
theorem dX9_boost_156 : decode μX9_boost.2.1 156 = .ok (.ireturn, 1) := by decide +kernel
set_option maxRecDepth 20000 in
theorem sg_X9_boost_0 {d : Nat} {x1 : Int32} {x2 : Int32} {x3 : Int32} {M : Mem} {K : (Int32 → Mem → Prop)}  (h : (CI d μX9_isThereNow [.ref 58, .int x1] M (fun r2 M1 => (if r2 = 0 then K ((-1)) M1 else (CI d μX9_isIn [.int x2, .int 0, .int 30] M1 (fun r4 M3 => (if r4 = 0 then K ((-1)) M3 else (CI d μX9_isIn [.int x3, .int 0, .int 1] M3 (fun r6 M5 => (if r6 = 0 then K ((-1)) M5 else RI (d + 1) μX9_boost 38 [(0, .ref 58), (1, .int x1), (2, .int x2), (3, .int x3), (4, .int ((-1))), (5, .int ((-1))), (6, .int 0)] [] M5 K)))))))))) : CI (d + 1) μX9_boost [.ref 58, .int x1, .int x2, .int x3] M K := by
  show Rn (d + 1) μX9_boost 0 [(0, .ref 58), (1, .int x1), (2, .int x2), (3, .int x3)] [] M _
  refine rn_aload_n (i := 0) (x := 58) dX9_boost_0 rfl (by simp) ?_
  refine rn_iload_n (i := 1) (x := x1) dX9_boost_1 rfl (by simp) ?_
  refine rn_callVi (as := [.int x1]) (st := []) dX9_boost_2 mf_X9_isThereNow lk_X9_430 im_X9_isThereNow rfl rfl rfl rfl (Nat.le_of_ble_eq_true rfl) (Nat.le_of_ble_eq_true rfl) rfl (RI.mono h (fun r2 M1 h => ?_))
  refine rn_if_eq (tgt := 27) dX9_boost_5 (by decide) (ite_go h (fun hc h => ?_) (fun hc h => ?_))
  · refine rn_iconst (v := -1) dX9_boost_27 rfl ?_
    exact rn_iret dX9_boost_28 rfl ⟨_, rfl, h⟩
  · refine rn_iload_n (i := 2) (x := x2) dX9_boost_8 rfl (by simp) ?_
    refine rn_iconst (v := 0) dX9_boost_9 rfl ?_
    refine rn_bipush (v := 30) dX9_boost_10 rfl ?_
    refine rn_callSi (as := [.int x2, .int 0, .int 30]) (st := []) dX9_boost_12 mf_X9_isIn lk_X9_420 sm_X9_isIn rfl (Nat.le_of_ble_eq_true rfl) (Nat.le_of_ble_eq_true rfl) rfl (RI.mono h (fun r4 M3 h => ?_))
    refine rn_if_eq (tgt := 27) dX9_boost_15 (by decide) (ite_go h (fun hc h => ?_) (fun hc h => ?_))
    · refine rn_iconst (v := -1) dX9_boost_27 rfl ?_
      exact rn_iret dX9_boost_28 rfl ⟨_, rfl, h⟩
    · refine rn_iload_n (i := 3) (x := x3) dX9_boost_18 rfl (by simp) ?_
      refine rn_iconst (v := 0) dX9_boost_19 rfl ?_
      refine rn_iconst (v := 1) dX9_boost_20 rfl ?_
      refine rn_callSi (as := [.int x3, .int 0, .int 1]) (st := []) dX9_boost_21 mf_X9_isIn lk_X9_420 sm_X9_isIn rfl (Nat.le_of_ble_eq_true rfl) (Nat.le_of_ble_eq_true rfl) rfl (RI.mono h (fun r6 M5 h => ?_))
      refine rn_if_ne (tgt := 29) dX9_boost_24 (by decide) (ite_go h (fun hc h => ?_) (fun hc h => ?_))
      · refine rn_iconst (v := -1) dX9_boost_27 rfl ?_
        exact rn_iret dX9_boost_28 rfl ⟨_, rfl, h⟩
      · refine rn_iconst (v := -1) dX9_boost_29 rfl ?_
        refine rn_istore (lv' := [(0, .ref 58), (1, .int x1), (2, .int x2), (3, .int x3), (4, .int ((-1)))]) (hd := dX9_boost_30) (hn := by decide) (hf := rfl) (hl := rfl) ?_
        refine rn_iconst (v := -1) dX9_boost_32 rfl ?_
        refine rn_istore (lv' := [(0, .ref 58), (1, .int x1), (2, .int x2), (3, .int x3), (4, .int ((-1))), (5, .int ((-1)))]) (hd := dX9_boost_33) (hn := by decide) (hf := rfl) (hl := rfl) ?_
        refine rn_iconst (v := 0) dX9_boost_35 rfl ?_
        refine rn_istore (lv' := [(0, .ref 58), (1, .int x1), (2, .int x2), (3, .int x3), (4, .int ((-1))), (5, .int ((-1))), (6, .int 0)]) (hd := dX9_boost_36) (hn := by decide) (hf := rfl) (hl := rfl) ?_
        exact h
set_option maxRecDepth 20000 in
theorem sg_X9_boost_38 {d : Nat} {x1 : Int32} {x2 : Int32} {x3 : Int32} {x4 : Int32} {x5 : Int32} {x6 : Int32} {M : Mem} {K : (Int32 → Mem → Prop)}  (h : (if ri M 58 35 ≤ x6 then (if x3 = 0 then K x4 M else K x5 M) else RI (d + 1) μX9_boost 53 [(0, .ref 58), (1, .int x1), (2, .int x2), (3, .int x3), (4, .int x4), (5, .int x5), (6, .int x6), (7, .int (x6 + 1))] [] M K)) : RI (d + 1) μX9_boost 38 [(0, .ref 58), (1, .int x1), (2, .int x2), (3, .int x3), (4, .int x4), (5, .int x5), (6, .int x6)] [] M K := by
  show Rn (d + 1) μX9_boost 38 [(0, .ref 58), (1, .int x1), (2, .int x2), (3, .int x3), (4, .int x4), (5, .int x5), (6, .int x6)] [] M _
  refine rn_iload (x := x6) dX9_boost_38 (by simp) ?_
  refine rn_aload_n (i := 0) (x := 58) dX9_boost_40 rfl (by simp) ?_
  refine rn_geti dX9_boost_41 rfl gf_X9_326 (by decide) ?_
  refine rn_icmp_ge (tgt := 145) dX9_boost_44 (by decide) (ite_go h (fun hc h => ?_) (fun hc h => ?_))
  · refine rn_iload_n (i := 3) (x := x3) dX9_boost_145 rfl (by simp) ?_
    refine rn_if_ne (tgt := 154) dX9_boost_146 (by decide) (ite_go h (fun hc h => ?_) (fun hc h => ?_))
    · refine rn_iload (x := x4) dX9_boost_149 (by simp) ?_
      refine rn_goto (tgt := 156) dX9_boost_151 (by decide) ?_
      exact rn_iret dX9_boost_156 rfl ⟨_, rfl, h⟩
    · refine rn_iload (x := x5) dX9_boost_154 (by simp) ?_
      exact rn_iret dX9_boost_156 rfl ⟨_, rfl, h⟩
  · refine rn_iload (x := x6) dX9_boost_47 (by simp) ?_
    refine rn_iconst (v := 1) dX9_boost_49 rfl ?_
    refine rn_iadd dX9_boost_50 ?_
    refine rn_istore (lv' := [(0, .ref 58), (1, .int x1), (2, .int x2), (3, .int x3), (4, .int x4), (5, .int x5), (6, .int x6), (7, .int (x6 + 1))]) (hd := dX9_boost_51) (hn := by decide) (hf := rfl) (hl := rfl) ?_
    exact h
set_option maxRecDepth 20000 in
theorem sg_X9_boost_53 {d : Nat} {x1 : Int32} {x2 : Int32} {x3 : Int32} {x4 : Int32} {x5 : Int32} {x6 : Int32} {x7 : Int32} {M : Mem} {K : (Int32 → Mem → Prop)}  (h : (if ri M 58 35 ≤ x7 then RI (d + 1) μX9_boost 38 [(0, .ref 58), (1, .int x1), (2, .int x2), (3, .int x3), (4, .int x4), (5, .int x5), (6, .int (x6 + 1))] [] M K else (CV d μX9_fill [.ref 58] M (fun M1 => (CI d μX9_canFlip [.ref 58, .int x6, .int x7] M1 (fun r3 M2 => (if r3 = 0 then RI (d + 1) μX9_boost 53 [(0, .ref 58), (1, .int x1), (2, .int x2), (3, .int x3), (4, .int x4), (5, .int x5), (6, .int x6), (7, .int (x7 + 1))] [] M2 K else (CI d μX9_doFlip [.ref 58, .int x6, .int x7] M2 (fun r5 M4 => (CV d μX9_go [.ref 58, .int x2, .int 0] M4 (fun M6 => (vp_in (14 + x1) 24 ∧ (if x5 < ri M6 69 (nx (14 + x1)) then (vp_in (14 + x1) 24 ∧ RI (d + 1) μX9_boost 53 [(0, .ref 58), (1, .int x1), (2, .int x2), (3, .int x3), (4, .int ((8 * x6) + x7)), (5, .int (ri M6 69 (nx (14 + x1)))), (6, .int x6), (7, .int (x7 + 1))] [] M6 K) else RI (d + 1) μX9_boost 53 [(0, .ref 58), (1, .int x1), (2, .int x2), (3, .int x3), (4, .int x4), (5, .int x5), (6, .int x6), (7, .int (x7 + 1))] [] M6 K))))))))))))) : RI (d + 1) μX9_boost 53 [(0, .ref 58), (1, .int x1), (2, .int x2), (3, .int x3), (4, .int x4), (5, .int x5), (6, .int x6), (7, .int x7)] [] M K := by
  show Rn (d + 1) μX9_boost 53 [(0, .ref 58), (1, .int x1), (2, .int x2), (3, .int x3), (4, .int x4), (5, .int x5), (6, .int x6), (7, .int x7)] [] M _
  refine rn_iload (x := x7) dX9_boost_53 (by simp) ?_
  refine rn_aload_n (i := 0) (x := 58) dX9_boost_55 rfl (by simp) ?_
  refine rn_geti dX9_boost_56 rfl gf_X9_326 (by decide) ?_
  refine rn_icmp_ge (tgt := 139) dX9_boost_59 (by decide) (ite_go h (fun hc h => ?_) (fun hc h => ?_))
  · refine rn_iinc (x := x6) (v := x6 + 1) (lv' := [(0, .ref 58), (1, .int x1), (2, .int x2), (3, .int x3), (4, .int x4), (5, .int x5), (6, .int (x6 + 1)), (7, .int x7)]) dX9_boost_139 (by simp) rfl (by decide) rfl rfl ?_
    refine rn_goto (tgt := 38) dX9_boost_142 (by decide) ?_
    refine Rn.sub (lv' := [(0, .ref 58), (1, .int x1), (2, .int x2), (3, .int x3), (4, .int x4), (5, .int x5), (6, .int (x6 + 1))]) (by simp) ?_
    exact h
  · refine rn_aload_n (i := 0) (x := 58) dX9_boost_62 rfl (by simp) ?_
    refine rn_callVv (as := []) (st := []) dX9_boost_63 mf_X9_fill lk_X9_424 im_X9_fill rfl rfl rfl rfl (Nat.le_of_ble_eq_true rfl) (Nat.le_of_ble_eq_true rfl) rfl (RV.mono h (fun M1 h => ?_))
    refine rn_aload_n (i := 0) (x := 58) dX9_boost_66 rfl (by simp) ?_
    refine rn_iload (x := x6) dX9_boost_67 (by simp) ?_
    refine rn_iload (x := x7) dX9_boost_69 (by simp) ?_
    refine rn_callVi (as := [.int x6, .int x7]) (st := []) dX9_boost_71 mf_X9_canFlip lk_X9_329 im_X9_canFlip rfl rfl rfl rfl (Nat.le_of_ble_eq_true rfl) (Nat.le_of_ble_eq_true rfl) rfl (RI.mono h (fun r3 M2 h => ?_))
    refine rn_if_ne (tgt := 80) dX9_boost_74 (by decide) (ite_go h (fun hc h => ?_) (fun hc h => ?_))
    · refine rn_goto (tgt := 133) dX9_boost_77 (by decide) ?_
      refine rn_iinc (x := x7) (v := x7 + 1) (lv' := [(0, .ref 58), (1, .int x1), (2, .int x2), (3, .int x3), (4, .int x4), (5, .int x5), (6, .int x6), (7, .int (x7 + 1))]) dX9_boost_133 (by simp) rfl (by decide) rfl rfl ?_
      refine rn_goto (tgt := 53) dX9_boost_136 (by decide) ?_
      exact h
    · refine rn_aload_n (i := 0) (x := 58) dX9_boost_80 rfl (by simp) ?_
      refine rn_iload (x := x6) dX9_boost_81 (by simp) ?_
      refine rn_iload (x := x7) dX9_boost_83 (by simp) ?_
      refine rn_callVi (as := [.int x6, .int x7]) (st := []) dX9_boost_85 mf_X9_doFlip lk_X9_332 im_X9_doFlip rfl rfl rfl rfl (Nat.le_of_ble_eq_true rfl) (Nat.le_of_ble_eq_true rfl) rfl (RI.mono h (fun r5 M4 h => ?_))
      refine rn_pop dX9_boost_88 rfl ?_
      refine rn_aload_n (i := 0) (x := 58) dX9_boost_89 rfl (by simp) ?_
      refine rn_iload_n (i := 2) (x := x2) dX9_boost_90 rfl (by simp) ?_
      refine rn_iconst (v := 0) dX9_boost_91 rfl ?_
      refine rn_callVv (as := [.int x2, .int 0]) (st := []) dX9_boost_92 mf_X9_go lk_X9_449 im_X9_go rfl rfl rfl rfl (Nat.le_of_ble_eq_true rfl) (Nat.le_of_ble_eq_true rfl) rfl (RV.mono h (fun M6 h => ?_))
      refine rn_aload_n (i := 0) (x := 58) dX9_boost_95 rfl (by simp) ?_
      refine rn_getr (t := 69) dX9_boost_96 rfl gf_X9_45 rfl rfl ?_
      refine rn_bipush (v := 14) dX9_boost_99 rfl ?_
      refine rn_iload_n (i := 1) (x := x1) dX9_boost_101 rfl (by simp) ?_
      refine rn_iadd dX9_boost_102 ?_
      obtain ⟨hi, h⟩ := h
      refine rn_iaload dX9_boost_103 rfl hi ?_
      refine rn_iload (x := x5) dX9_boost_104 (by simp) ?_
      refine rn_icmp_gt (tgt := 112) dX9_boost_106 (by decide) (ite_go h (fun hc h => ?_) (fun hc h => ?_))
      · refine rn_aload_n (i := 0) (x := 58) dX9_boost_112 rfl (by simp) ?_
        refine rn_getr (t := 69) dX9_boost_113 rfl gf_X9_45 rfl rfl ?_
        refine rn_bipush (v := 14) dX9_boost_116 rfl ?_
        refine rn_iload_n (i := 1) (x := x1) dX9_boost_118 rfl (by simp) ?_
        refine rn_iadd dX9_boost_119 ?_
        obtain ⟨hi, h⟩ := h
        refine rn_iaload dX9_boost_120 rfl hi ?_
        refine rn_istore (lv' := [(0, .ref 58), (1, .int x1), (2, .int x2), (3, .int x3), (4, .int x4), (5, .int (ri M6 69 (nx (14 + x1)))), (6, .int x6), (7, .int x7)]) (hd := dX9_boost_121) (hn := by decide) (hf := rfl) (hl := rfl) ?_
        refine rn_bipush (v := 8) dX9_boost_123 rfl ?_
        refine rn_iload (x := x6) dX9_boost_125 (by simp) ?_
        refine rn_imul dX9_boost_127 ?_
        refine rn_iload (x := x7) dX9_boost_128 (by simp) ?_
        refine rn_iadd dX9_boost_130 ?_
        refine rn_istore (lv' := [(0, .ref 58), (1, .int x1), (2, .int x2), (3, .int x3), (4, .int ((8 * x6) + x7)), (5, .int (ri M6 69 (nx (14 + x1)))), (6, .int x6), (7, .int x7)]) (hd := dX9_boost_131) (hn := by decide) (hf := rfl) (hl := rfl) ?_
        refine rn_iinc (x := x7) (v := x7 + 1) (lv' := [(0, .ref 58), (1, .int x1), (2, .int x2), (3, .int x3), (4, .int ((8 * x6) + x7)), (5, .int (ri M6 69 (nx (14 + x1)))), (6, .int x6), (7, .int (x7 + 1))]) dX9_boost_133 (by simp) rfl (by decide) rfl rfl ?_
        refine rn_goto (tgt := 53) dX9_boost_136 (by decide) ?_
        exact h
      · refine rn_goto (tgt := 133) dX9_boost_109 (by decide) ?_
        refine rn_iinc (x := x7) (v := x7 + 1) (lv' := [(0, .ref 58), (1, .int x1), (2, .int x2), (3, .int x3), (4, .int x4), (5, .int x5), (6, .int x6), (7, .int (x7 + 1))]) dX9_boost_133 (by simp) rfl (by decide) rfl rfl ?_
        refine rn_goto (tgt := 53) dX9_boost_136 (by decide) ?_
        exact h
