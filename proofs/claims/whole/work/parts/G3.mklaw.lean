/-! the law makes both -/
theorem cl_L_7 : Cond.classLink μL_law.1.cls 7 RX8 ∈ gtb := gm 133 (by decide +kernel) rfl
theorem li_L_9 : Cond.methodLink μL_law.1.cls 9 μX8_init.1 ∈ gtb ∨ (μL_law.1.cls, 9, μX8_init.1) ∈ nst := Or.inl (gm 135 (by decide +kernel) rfl)
theorem cl_L_10 : Cond.classLink μL_law.1.cls 10 RX9 ∈ gtb := gm 1164 (by decide +kernel) rfl
theorem li_L_12 : Cond.methodLink μL_law.1.cls 12 μX9_init.1 ∈ gtb ∨ (μL_law.1.cls, 12, μX9_init.1) ∈ nst := Or.inl (gm 1166 (by decide +kernel) rfl)
def pmE : Pm := (pmk_58 (pmk_0 pm0))
set_option maxRecDepth 20000 in
theorem mk_law : Rc 5 μL_law 0 [(0, .ref SC)] [] 0 88 0 pm0 (fun pc lv st n pm => pc = 18 ∧ lv = [(0, .ref SC), (1, .ref 0), (2, .ref 58), (3, .int 0)] ∧ st = [] ∧ n = 88 ∧ pm = pmE) := by
  refine rc_new (ci := 8) tyX8 dL_law_0 (by decide) (by decide) (by decide) rfl rfl rfl in_X8 tyX8_ok df_X8 cl_L_7 it_X8 iz_X8 rfl rfl ?_
  refine rc_dup dL_law_3 rfl ?_
  refine rc_callI (n' := 58) dL_law_4 mf_X8_init rfl li_L_9 ii_X8_init rfl (by decide) (by decide) (by decide) (by decide) (by decide) rfl rfl (Rc.deeper (d := 4) (by decide) mk_0) ?_
  refine rc_astore_n (lv' := [(0, .ref SC), (1, .ref 0)]) dL_law_7 rfl (by decide) rfl rfl ?_
  refine rc_new (ci := 9) tyX9 dL_law_8 (by decide) (by decide) (by decide) rfl rfl rfl in_X9 tyX9_ok df_X9 cl_L_10 it_X9 iz_X9 rfl rfl ?_
  refine rc_dup dL_law_11 rfl ?_
  refine rc_callI (n' := 88) dL_law_12 mf_X9_init rfl li_L_12 ii_X9_init rfl (by decide) (by decide) (by decide) (by decide) (by decide) rfl rfl (Rc.deeper (d := 1) (by decide) mk_58) ?_
  refine rc_astore_n (lv' := [(0, .ref SC), (1, .ref 0), (2, .ref 58)]) dL_law_15 rfl (by decide) rfl rfl ?_
  refine rc_iconst (v := 0) dL_law_16 rfl ?_
  refine rc_istore_n (lv' := [(0, .ref SC), (1, .ref 0), (2, .ref 58), (3, .int 0)]) dL_law_17 rfl (by decide) rfl rfl ?_
  exact rc_end ⟨rfl, rfl, rfl, rfl, rfl⟩
