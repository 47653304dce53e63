theorem r_doPop {d : Nat} {M : Mem} {K : Mem → Prop} {S : Sh} {a b : Nat} (ha : a < sn S) (hb : b < sn S) (hab : a ≠ b) (hS : SOk S) (hs : srt (sc S)) (h1 : N1 (sc S)) (hm : (nbm (sc S) a).testBit b = true) (hA : Ar M 69 S) (hK : ∀ M', Sa M M' → Ar M' 69 (mgS S a b) → K M') : CV (d + 3) μX9_doPop [.ref 58, .int (nI a), .int (nI b)] M K := by
  have h8 := hS.1
  have h12 := hS.2.2.1
  have h2 : cnm (pr a b) (sc S) = 2 := by
    have := (nbm_tb hab).mp hm
    rcases h1 a b (by omega) (by omega) hab with z | z <;> omega
  obtain ⟨c, e, hc, he, ca, cb, ea, eb, hpf, t0, t1, hen, hdr⟩ := two_at hS.2.2.2.1 (by omega) (by omega) hab h2
  have m1 : tri a b c ∈ sc S := cnm_mem (by rw [hpf]; simp)
  have len1 := tk_len m1
  have hcn := drp_cnm (pr a b) (sc S)
  have m2 : tri a b e ∈ tk (tri a b c) (sc S) := by
    by_cases q : tri a b e ∈ tk (tri a b c) (sc S)
    · exact q
    · rw [hdr, tk_not q] at hcn
      omega
  have len2 := tk_len m2
  refine sg_X9_doPop_0 ?_
  refine r_third0 (d := d + 1) (by omega) (by omega) hab hS hA ?_
  rw [t0]
  refine r_third1 (d := d + 1) (by omega) (by omega) hab hS hA ?_
  rw [t1]
  refine r_cornerOf (d := d + 1) (a := a) (b := b) (c := c) (by omega) (by omega) hc hab (fun z => ca z.symm) (fun z => cb z.symm) ?_
  refine r_takeCorner hS m1 hA (fun M7 s7 A7 => ?_)
  refine r_cornerOf (d := d + 1) (a := a) (b := b) (c := e) (by omega) (by omega) he hab (fun z => ea z.symm) (fun z => eb z.symm) ?_
  have ok7 : SOk (setC S (tk (tri a b c) (sc S))) := hS.set (by omega) (tk_T3 hS.2.2.2.1)
  refine r_takeCorner ok7 m2 A7 (fun M10 s10 A10 => ?_)
  refine r_popLoop (d := d) hS (by omega) (by omega) hab M (fun M' s' A' => hK M' s' A') _ (tk (tri a b e) (tk (tri a b c) (sc S))) M10 rfl (by omega) (tk_T3 (tk_T3 hS.2.2.2.1)) (tk_srt m2 (tk_srt m1 hs)) (fun m hm z => ?_) (by rw [← hdr]; rfl) (s7.trans s10) A10
  rw [← hdr] at hm
  have := (List.mem_filter.mp hm).2
  simp [z] at this
