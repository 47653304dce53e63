/-! the two String constants: rules, facts (by program, tools/genstr.py), the JDK's own methods -/
section Str
variable {d : Nat} {μ μ' : Mt} {pc : Nat} {lv : List (Nat × Value)} {st : List Value} {M : Mem} {Q : Option Value → Mem → Prop}
theorem rn_ldcS {i idx : Nat} {tx : String} (hd : decode μ.2.1 pc = .ok (.ldc idx, 2)) (hR : ∀ b0 ad s, OX b0 ad s → vk_R μ.1.cls idx tx (ad (102 + 2 * i)) s) (h : Rn d μ (pc + 2) lv (.ref (102 + 2 * i) :: st) M Q) : Rn d μ pc lv st M Q := by
  intro b0 ad dC dI cA p l e R s m args below meth c cells slots Z hX hkk H locs ls hH hlv
  exact va_ldcS hX.1 hX.2.1 hX.2.2.2.2.2.1 (hR _ _ _ hX.2.2.2.2.2.2.2.1.2.1) hd (h b0 ad dC dI cA p l e R s m args below meth c cells slots Z hX hkk H locs ls hH hlv)
theorem rn_getV {i idx : Nat} (hi : i < 2) (hd : decode μ.2.1 pc = .ok (.getfield idx, 3)) (hl : Cond.fieldLink μ.1.cls idx "java/lang/String" "value" "[B" ∈ gtb) (h : Rn d μ (pc + 3) lv (.ref (103 + 2 * i) :: st) M Q) : Rn d μ pc lv (.ref (102 + 2 * i) :: st) M Q := by
  intro b0 ad dC dI cA p l e R s m args below meth c cells slots Z hX hkk H locs ls hH hlv
  have hO := hX.2.2.2.2.2.2.2.1.2.1.2.2.2.2.2.1.1 i hi
  exact vk_getf hX.1 hX.2.1 hO.2.2.1 hH.2.2.1 hX.2.2.2.2.2.1 (hX.2.2.2.2.2.2.1 _ hl) (fun _ q => q) hd (h b0 ad dC dI cA p l e R s m args below meth c cells slots Z hX hkk H locs ls hH hlv)
theorem rn_getC {i idx : Nat} (hi : i < 2) (hd : decode μ.2.1 pc = .ok (.getfield idx, 3)) (hl : Cond.fieldLink μ.1.cls idx "java/lang/String" "coder" "B" ∈ gtb) (h : Rn d μ (pc + 3) lv (.int 0 :: st) M Q) : Rn d μ pc lv (.ref (102 + 2 * i) :: st) M Q := by
  intro b0 ad dC dI cA p l e R s m args below meth c cells slots Z hX hkk H locs ls hH hlv
  have hO := hX.2.2.2.2.2.2.2.1.2.1.2.2.2.2.2.1.1 i hi
  exact vk_getf hX.1 hX.2.1 hO.2.1 hH.2.2.1 hX.2.2.2.2.2.1 (hX.2.2.2.2.2.2.1 _ hl) (fun _ q => q) hd (h b0 ad dC dI cA p l e R s m args below meth c cells slots Z hX hkk H locs ls hH hlv)
theorem rn_getZ {idx : Nat} (hd : decode μ.2.1 pc = .ok (.getstatic idx, 3)) (hl : Cond.fieldLink μ.1.cls idx "java/lang/String" "COMPACT_STRINGS" "Z" ∈ gtb) (h : Rn d μ (pc + 3) lv (.int 1 :: st) M Q) : Rn d μ pc lv st M Q := by
  intro b0 ad dC dI cA p l e R s m args below meth c cells slots Z hX hkk H locs ls hH hlv
  exact va_gets hX.1 hX.2.1 hX.2.2.2.2.2.2.2.1.2.1.2.2.2.2.2.2.1 hH.2.2.1 hX.2.2.2.2.2.1 (hX.2.2.2.2.2.2.1 _ hl) (fun _ q => q) hd (h b0 ad dC dI cA p l e R s m args below meth c cells slots Z hX hkk H locs ls hH hlv)
theorem rn_getF {idx : Nat} (hd : decode μ.2.1 pc = .ok (.getstatic idx, 3)) (hl : Cond.fieldLink μ.1.cls idx "jdk/internal/util/Preconditions" "SIOOBE_FORMATTER" "Ljava/util/function/BiFunction;" ∈ gtb) (h : ∀ v : Value, v.category = 1 → Rn d μ (pc + 3) lv (v :: st) M Q) : Rn d μ pc lv st M Q := by
  intro b0 ad dC dI cA p l e R s m args below meth c cells slots Z hX hkk H locs ls hH hlv
  obtain ⟨v, hv, hZ⟩ := hX.2.2.2.2.2.2.2.1.2.1.2.2.2.2.2.2.2
  exact va_gets hX.1 hX.2.1 hZ hH.2.2.1 hX.2.2.2.2.2.1 (hX.2.2.2.2.2.2.1 _ hl) (fun _ q => q) hd (h v hv b0 ad dC dI cA p l e R s m args below meth c cells slots Z hX hkk H locs ls hH hlv)
theorem rn_tb {i : Nat} {x : Int32} (hi : i < 2) (hd : decode μ.2.1 pc = .ok (.baload, 1)) (hx : vp_in x (lenS.getD i 0)) (h : Rn d μ (pc + 1) lv (.int ((bytS.getD i []).getD (nx x) 0) :: st) M Q) : Rn d μ pc lv (.int x :: .ref (103 + 2 * i) :: st) M Q := by
  intro b0 ad dC dI cA p l e R s m args below meth c cells slots Z hX hkk H locs ls hH hlv
  have hO := hX.2.2.2.2.2.2.2.1.2.1.2.2.2.2.2.1.1 i hi
  exact va_tb hX.1 hX.2.1 hO.2.2.2 hH.2.2.1 hx rfl hd (h b0 ad dC dI cA p l e R s m args below meth c cells slots Z hX hkk H locs ls hH hlv)
theorem rn_tlen {i : Nat} (hi : i < 2) (hd : decode μ.2.1 pc = .ok (.arraylength, 1)) (h : Rn d μ (pc + 1) lv (.int (Int32.ofNat (lenS.getD i 0)) :: st) M Q) : Rn d μ pc lv (.ref (103 + 2 * i) :: st) M Q := by
  intro b0 ad dC dI cA p l e R s m args below meth c cells slots Z hX hkk H locs ls hH hlv
  have hO := hX.2.2.2.2.2.2.2.1.2.1.2.2.2.2.2.1.1 i hi
  exact va_tlen hX.1 hX.2.1 hO.2.2.2 hH.2.2.1 rfl hd (h b0 ad dC dI cA p l e R s m args below meth c cells slots Z hX hkk H locs ls hH hlv)
theorem rn_nret {x : Int32} {ty : FieldType} (hd : decode μ.2.1 pc = .ok (.ireturn, 1)) (hr : μ.2.2.2 = some ty) (hn : narrow ty (.int x) = .int x) (h : Q (some (.int x)) M) : Rn d μ pc lv [.int x] M Q := by
  intro b0 ad dC dI cA p l e R s m args below meth c cells slots Z hX hkk H locs ls hH hlv
  exact hkk pc (some (.int x)) M H locs ls h hH (Or.inr ⟨x, ty, rfl, hr, hn, hd⟩)
theorem rn_callSv {idx n : Nat} {as : List Value} {st0 : List Value} (hd : decode μ.2.1 pc = .ok (.invokestatic idx, 3)) (hF : MF μ' n) (hl : Cond.methodLink μ.1.cls idx μ'.1 ∈ gtb) (hi : Cond.static μ'.1 ∈ gtb) (hn : as.length = n) (hlen : (lg_sl as).length ≤ μ'.2.2.1) (hs : (st.map fun v => v.category).sum ≤ 8) (hst : st0 = as.reverse ++ st)
    (h : CV d μ' as M (fun M' => Rn (d + 1) μ (pc + 3) lv st M' Q)) : Rn (d + 1) μ pc lv st0 M Q :=
  rn_callS hd hF hl hi hn hlen hs hst (Rn.mono h (fun v M' ⟨hr, hk⟩ => by subst hr; exact hk))
/-- a method of a String constant is called -/
theorem rn_callT {idx n i : Nat} {as : List Value} {st0 : List Value} (hi : i < 2) (hd : decode μ.2.1 pc = .ok (.invokevirtual idx, 3)) (hF : MF μ' n) (hl : Cond.methodLink μ.1.cls idx μ'.1 ∈ gtb) (hI : IM μ') (hC : μ'.1.cls = "java/lang/String") (hn : as.length = n) (hlen : (lg_sl (.ref (102 + 2 * i) :: as)).length ≤ μ'.2.2.1) (hs : (st.map fun v => v.category).sum ≤ 8) (hst : st0 = as.reverse ++ .ref (102 + 2 * i) :: st)
    (h : CI d μ' (.ref (102 + 2 * i) :: as) M (fun r M' => Rn (d + 1) μ (pc + 3) lv (.int r :: st) M' Q)) : Rn (d + 1) μ pc lv st0 M Q := by
  have h : Rn d μ' 0 (lv_args 0 (.ref (102 + 2 * i) :: as)) [] M (fun v M' => Rn (d + 1) μ (pc + 3) lv (v.toList ++ st) M' Q) := Rn.mono h (fun v M' ⟨r, hr, hk⟩ => by subst hr; exact hk)
  intro b0 ad dC dI cA p l e R s m args below meth c cells slots Z hX hkk H locs ls hH hlv
  have hT := hX.2.2.2.2.2.2.1
  have hG := hX.2.2.2.2.2.2.2.1
  have hR := hX.2.2.2.2.2.2.2.2
  subst hst
  have hrecv := vk_recv hG.2.1.2.2.2.2.2.1 hi hH.2.2.1
  rw [← hC] at hrecv
  have hmx := hF.2.2.2.2.2
  refine behind hG hH (va_runV (As := as.map (cv ad)) (b := ad (102 + 2 * i)) (n := n) (C := μ'.1.cls) (own := μ.1.cls) (index := idx) ⟨hX.1, hX.2.1, hX.2.2.1, hX.2.2.2.2.2.1, hT⟩ (met_of l b0 ad dC dI cA hF hlen h) (cwV (own := μ.1.cls) n hT (fun w hw => ?_) rfl rfl rfl ⟨rfl, hF.2.2.2.1.1, hF.2.2.2.1.2, hF.2.2.2.2.1⟩ ⟨?_, ?_⟩) ⟨blindB, hrecv, preB hG hH⟩ rfl (by rw [List.length_map]; exact hn) hlv.1 ?_ (lv_room (by rw [cv_sum]; exact hs)) hd ⟨hR.2.2.1, hR.2.2.2⟩) (fun v M' H1 locs1 hq hH1 => hq b0 ad dC dI cA p l e R s m args below meth c cells slots Z hX hkk H1 locs1 ls hH1 hlv)
  · unfold wsV at hw
    rcases List.mem_append.mp hw with hw | hw
    · simp only [List.mem_cons, List.not_mem_nil, or_false] at hw
      rcases hw with rfl | rfl | rfl | rfl
      · exact gtb_good _ hl
      · exact gtb_good _ hI.1
      · exact gtb_good _ hI.2
      · exact gtb_good _ hF.2.2.1
    · exact goodF hF.2.1 w hw
  · show d + 1 ≤ R.frames; omega
  · show 8 + (μ'.2.2.1 + 11) + 80 * d ≤ R.locals; omega
  · rw [List.map_append, List.map_reverse]; rfl
theorem lg3 {x y : Int32} {v : Value} (h : v.category = 1) : (lg_sl [.int x, .int y, v]).length ≤ 3 := by
  have e : lg_sl [Value.int x, .int y, v] = [.val (.int x)] ++ ([.val (.int y)] ++ ((if v.category = 2 then [.val v, .second] else [.val v]) ++ [])) := rfl
  rw [e, h]
  simp
end Str
theorem st_95 : ∀ b0 ad s, OX b0 ad s → vk_R RX6 95 txS (ad (102 + 2 * 0)) s := fun _ _ _ h => h.2.2.2.1
theorem st_108 : ∀ b0 ad s, OX b0 ad s → vk_R RX6 108 txW (ad (102 + 2 * 1)) s := fun _ _ _ h => h.2.2.2.2.1

def μJ0_isLatin1_aae02 : Mt := (yJ0_isLatin1_aae02, cJ0_isLatin1_aae02, 1, (some .boolean))
def μJ0_coder_7d493 : Mt := (yJ0_coder_7d493, cJ0_coder_7d493, 1, (some .byte))
def μJ0_length_8abf5 : Mt := (yJ0_length_8abf5, cJ0_length_8abf5, 1, (some .int))
def μJ3_checkIndex_8e157 : Mt := (yJ3_checkIndex_8e157, cJ3_checkIndex_8e157, 3, (some .int))
def μJ0_checkIndex_df160 : Mt := (yJ0_checkIndex_df160, cJ0_checkIndex_df160, 2, none)
def μJ1_charAt_3b067 : Mt := (yJ1_charAt_3b067, cJ1_charAt_3b067, 2, (some .char))
def μJ0_charAt_5068e : Mt := (yJ0_charAt_5068e, cJ0_charAt_5068e, 2, (some .char))
def μJ1_canEncode_9a6ad : Mt := (yJ1_canEncode_9a6ad, cJ1_canEncode_9a6ad, 1, (some .boolean))
def μJ1_indexOfChar_4cfef : Mt := (yJ1_indexOfChar_4cfef, cJ1_indexOfChar_4cfef, 6, (some .int))
def μJ1_indexOf_4cfef : Mt := (yJ1_indexOf_4cfef, cJ1_indexOf_4cfef, 4, (some .int))
def μJ0_indexOf_7cf53 : Mt := (yJ0_indexOf_7cf53, cJ0_indexOf_7cf53, 3, (some .int))
def μJ0_indexOf_0f7a4 : Mt := (yJ0_indexOf_0f7a4, cJ0_indexOf_0f7a4, 2, (some .int))
theorem mf_J0_isLatin1_aae02 : MF μJ0_isLatin1_aae02 0 := ⟨by decide +kernel, gm 533 (by decide +kernel) rfl, gm 125 (by decide +kernel) rfl, ⟨by decide +kernel, by decide +kernel⟩, by decide +kernel, by decide⟩
theorem im_J0_isLatin1_aae02 : IM μJ0_isLatin1_aae02 := ⟨gm 531 (by decide +kernel) rfl, gm 532 (by decide +kernel) rfl⟩
theorem mf_J0_coder_7d493 : MF μJ0_coder_7d493 0 := ⟨by decide +kernel, gm 590 (by decide +kernel) rfl, gm 125 (by decide +kernel) rfl, ⟨by decide +kernel, by decide +kernel⟩, by decide +kernel, by decide⟩
theorem im_J0_coder_7d493 : IM μJ0_coder_7d493 := ⟨gm 588 (by decide +kernel) rfl, gm 589 (by decide +kernel) rfl⟩
theorem mf_J0_length_8abf5 : MF μJ0_length_8abf5 0 := ⟨by decide +kernel, gm 586 (by decide +kernel) rfl, gm 125 (by decide +kernel) rfl, ⟨by decide +kernel, by decide +kernel⟩, by decide +kernel, by decide⟩
theorem im_J0_length_8abf5 : IM μJ0_length_8abf5 := ⟨gm 584 (by decide +kernel) rfl, gm 585 (by decide +kernel) rfl⟩
theorem mf_J3_checkIndex_8e157 : MF μJ3_checkIndex_8e157 3 := ⟨by decide +kernel, gm 546 (by decide +kernel) rfl, gm 127 (by decide +kernel) rfl, ⟨by decide +kernel, by decide +kernel⟩, by decide +kernel, by decide⟩
theorem sm_J3_checkIndex_8e157 : Cond.static μJ3_checkIndex_8e157.1 ∈ gtb := gm 545 (by decide +kernel) rfl
theorem mf_J0_checkIndex_df160 : MF μJ0_checkIndex_df160 2 := ⟨by decide +kernel, gm 541 (by decide +kernel) rfl, gm 125 (by decide +kernel) rfl, ⟨by decide +kernel, by decide +kernel⟩, by decide +kernel, by decide⟩
theorem sm_J0_checkIndex_df160 : Cond.static μJ0_checkIndex_df160.1 ∈ gtb := gm 540 (by decide +kernel) rfl
theorem mf_J1_charAt_3b067 : MF μJ1_charAt_3b067 2 := ⟨by decide +kernel, gm 538 (by decide +kernel) rfl, gm 126 (by decide +kernel) rfl, ⟨by decide +kernel, by decide +kernel⟩, by decide +kernel, by decide⟩
theorem sm_J1_charAt_3b067 : Cond.static μJ1_charAt_3b067.1 ∈ gtb := gm 537 (by decide +kernel) rfl
theorem mf_J0_charAt_5068e : MF μJ0_charAt_5068e 1 := ⟨by decide +kernel, gm 529 (by decide +kernel) rfl, gm 125 (by decide +kernel) rfl, ⟨by decide +kernel, by decide +kernel⟩, by decide +kernel, by decide⟩
theorem im_J0_charAt_5068e : IM μJ0_charAt_5068e := ⟨gm 527 (by decide +kernel) rfl, gm 528 (by decide +kernel) rfl⟩
theorem mf_J1_canEncode_9a6ad : MF μJ1_canEncode_9a6ad 1 := ⟨by decide +kernel, gm 596 (by decide +kernel) rfl, gm 126 (by decide +kernel) rfl, ⟨by decide +kernel, by decide +kernel⟩, by decide +kernel, by decide⟩
theorem sm_J1_canEncode_9a6ad : Cond.static μJ1_canEncode_9a6ad.1 ∈ gtb := gm 595 (by decide +kernel) rfl
theorem mf_J1_indexOfChar_4cfef : MF μJ1_indexOfChar_4cfef 4 := ⟨by decide +kernel, gm 605 (by decide +kernel) rfl, gm 126 (by decide +kernel) rfl, ⟨by decide +kernel, by decide +kernel⟩, by decide +kernel, by decide⟩
theorem sm_J1_indexOfChar_4cfef : Cond.static μJ1_indexOfChar_4cfef.1 ∈ gtb := gm 604 (by decide +kernel) rfl
theorem mf_J1_indexOf_4cfef : MF μJ1_indexOf_4cfef 4 := ⟨by decide +kernel, gm 593 (by decide +kernel) rfl, gm 126 (by decide +kernel) rfl, ⟨by decide +kernel, by decide +kernel⟩, by decide +kernel, by decide⟩
theorem sm_J1_indexOf_4cfef : Cond.static μJ1_indexOf_4cfef.1 ∈ gtb := gm 592 (by decide +kernel) rfl
theorem mf_J0_indexOf_7cf53 : MF μJ0_indexOf_7cf53 2 := ⟨by decide +kernel, gm 582 (by decide +kernel) rfl, gm 125 (by decide +kernel) rfl, ⟨by decide +kernel, by decide +kernel⟩, by decide +kernel, by decide⟩
theorem im_J0_indexOf_7cf53 : IM μJ0_indexOf_7cf53 := ⟨gm 580 (by decide +kernel) rfl, gm 581 (by decide +kernel) rfl⟩
theorem mf_J0_indexOf_0f7a4 : MF μJ0_indexOf_0f7a4 1 := ⟨by decide +kernel, gm 578 (by decide +kernel) rfl, gm 125 (by decide +kernel) rfl, ⟨by decide +kernel, by decide +kernel⟩, by decide +kernel, by decide⟩
theorem im_J0_indexOf_0f7a4 : IM μJ0_indexOf_0f7a4 := ⟨gm 576 (by decide +kernel) rfl, gm 577 (by decide +kernel) rfl⟩
theorem pf_X6_38 : PF RX6 38 6 7 .int := ⟨_, _, _, tyX6, rfl, in_X6, rfl, by decide, gm 286 (by decide +kernel) rfl, rfl, tyX6_ok, nmX6, rfl, rfl⟩
theorem pf_X6_44 : PF RX6 44 6 9 .int := ⟨_, _, _, tyX6, rfl, in_X6, rfl, by decide, gm 288 (by decide +kernel) rfl, rfl, tyX6_ok, nmX6, rfl, rfl⟩
theorem lk_J0_1059 : Cond.methodLink RJ0 1059 μJ3_checkIndex_8e157.1 ∈ gtb := gm 544 (by decide +kernel) rfl
theorem lk_J0_335 : Cond.methodLink RJ0 335 μJ0_coder_7d493.1 ∈ gtb := gm 587 (by decide +kernel) rfl
theorem lk_J0_492 : Cond.methodLink RJ0 492 μJ0_isLatin1_aae02.1 ∈ gtb := gm 530 (by decide +kernel) rfl
theorem lk_J0_495 : Cond.methodLink RJ0 495 μJ1_charAt_3b067.1 ∈ gtb := gm 536 (by decide +kernel) rfl
theorem lk_J0_505 : Cond.methodLink RJ0 505 μJ0_length_8abf5.1 ∈ gtb := gm 583 (by decide +kernel) rfl
theorem lk_J0_633 : Cond.methodLink RJ0 633 μJ0_indexOf_7cf53.1 ∈ gtb := gm 579 (by decide +kernel) rfl
theorem lk_J0_637 : Cond.methodLink RJ0 637 μJ1_indexOf_4cfef.1 ∈ gtb := gm 591 (by decide +kernel) rfl
theorem mi_J1_38 : MathIn RJ1 38 Lib.Math.min.name Lib.Math.min.code := ⟨gm 600 (by decide +kernel) rfl, gm 601 (by decide +kernel) rfl, gm 129 (by decide +kernel) rfl, gm 602 (by decide +kernel) rfl⟩
theorem lk_J1_88 : Cond.methodLink RJ1 88 μJ1_canEncode_9a6ad.1 ∈ gtb := gm 594 (by decide +kernel) rfl
theorem lk_J1_9 : Cond.methodLink RJ1 9 μJ0_checkIndex_df160.1 ∈ gtb := gm 539 (by decide +kernel) rfl
theorem mi_J1_92 : MathIn RJ1 92 Lib.Math.max.name Lib.Math.max.code := ⟨gm 597 (by decide +kernel) rfl, gm 598 (by decide +kernel) rfl, gm 129 (by decide +kernel) rfl, gm 599 (by decide +kernel) rfl⟩
theorem lk_J1_95 : Cond.methodLink RJ1 95 μJ1_indexOfChar_4cfef.1 ∈ gtb := gm 603 (by decide +kernel) rfl
theorem lk_X6_110 : Cond.methodLink RX6 110 μJ0_charAt_5068e.1 ∈ gtb := gm 526 (by decide +kernel) rfl
theorem lk_X6_86 : Cond.methodLink RX6 86 μX6_scanWord.1 ∈ gtb := gm 512 (by decide +kernel) rfl
theorem lk_X6_92 : Cond.methodLink RX6 92 μX6_scanNumber.1 ∈ gtb := gm 570 (by decide +kernel) rfl
theorem lk_X6_97 : Cond.methodLink RX6 97 μJ0_indexOf_0f7a4.1 ∈ gtb := gm 575 (by decide +kernel) rfl
theorem fl_J0_9 : Cond.fieldLink RJ0 9 "java/lang/String" "value" "[B" ∈ gtb := gm 1894 (by decide +kernel) rfl
theorem fl_J0_15 : Cond.fieldLink RJ0 15 "java/lang/String" "coder" "B" ∈ gtb := gm 1893 (by decide +kernel) rfl
theorem fl_J0_38 : Cond.fieldLink RJ0 38 "java/lang/String" "COMPACT_STRINGS" "Z" ∈ gtb := gm 534 (by decide +kernel) rfl
theorem fl_J0_1053 : Cond.fieldLink RJ0 1053 "jdk/internal/util/Preconditions" "SIOOBE_FORMATTER" "Ljava/util/function/BiFunction;" ∈ gtb := gm 542 (by decide +kernel) rfl
theorem dJ0_isLatin1_aae02_0 : decode μJ0_isLatin1_aae02.2.1 0 = .ok (.getstatic 38, 3) := by decide +kernel
theorem dJ0_isLatin1_aae02_3 : decode μJ0_isLatin1_aae02.2.1 3 = .ok (.ifCond .eq 14, 3) := by decide +kernel
theorem dJ0_isLatin1_aae02_6 : decode μJ0_isLatin1_aae02.2.1 6 = .ok (.aload_n 0, 1) := by decide +kernel
theorem dJ0_isLatin1_aae02_7 : decode μJ0_isLatin1_aae02.2.1 7 = .ok (.getfield 15, 3) := by decide +kernel
theorem dJ0_isLatin1_aae02_10 : decode μJ0_isLatin1_aae02.2.1 10 = .ok (.ifCond .ne 7, 3) := by decide +kernel
theorem dJ0_isLatin1_aae02_13 : decode μJ0_isLatin1_aae02.2.1 13 = .ok (.iconst 1, 1) := by decide +kernel
theorem dJ0_isLatin1_aae02_14 : decode μJ0_isLatin1_aae02.2.1 14 = .ok (.goto 4, 3) := by decide +kernel
theorem dJ0_isLatin1_aae02_17 : decode μJ0_isLatin1_aae02.2.1 17 = .ok (.iconst 0, 1) := by decide +kernel
theorem dJ0_isLatin1_aae02_18 : decode μJ0_isLatin1_aae02.2.1 18 = .ok (.ireturn, 1) := by decide +kernel
set_option maxRecDepth 20000 in
theorem sg_J0_isLatin1_aae02_0 {d : Nat} {sx : Nat} {M : Mem} {K : (Int32 → Mem → Prop)} (hsx : sx < 2) (h : (if (1 : Int32) = 0 then K 0 M else (if (0 : Int32) = 0 then K 1 M else K 0 M))) : CI d μJ0_isLatin1_aae02 [.ref (102 + 2 * sx)] M K := by
  show Rn d μJ0_isLatin1_aae02 0 [(0, .ref (102 + 2 * sx))] [] M _
  refine rn_getZ dJ0_isLatin1_aae02_0 fl_J0_38 ?_
  refine rn_if_eq (tgt := 17) dJ0_isLatin1_aae02_3 (by decide) (ite_go h (fun hc h => ?_) (fun hc h => ?_))
  · refine rn_iconst (v := 0) dJ0_isLatin1_aae02_17 rfl ?_
    exact rn_zret dJ0_isLatin1_aae02_18 rfl (by decide) ⟨_, rfl, h⟩
  · refine rn_aload_n (i := 0) (x := 102 + 2 * sx) dJ0_isLatin1_aae02_6 rfl (by simp) ?_
    refine rn_getC hsx dJ0_isLatin1_aae02_7 fl_J0_15 ?_
    refine rn_if_ne (tgt := 17) dJ0_isLatin1_aae02_10 (by decide) (ite_go h (fun hc h => ?_) (fun hc h => ?_))
    · refine rn_iconst (v := 1) dJ0_isLatin1_aae02_13 rfl ?_
      refine rn_goto (tgt := 18) dJ0_isLatin1_aae02_14 (by decide) ?_
      exact rn_zret dJ0_isLatin1_aae02_18 rfl (by decide) ⟨_, rfl, h⟩
    · refine rn_iconst (v := 0) dJ0_isLatin1_aae02_17 rfl ?_
      exact rn_zret dJ0_isLatin1_aae02_18 rfl (by decide) ⟨_, rfl, h⟩
theorem dJ0_coder_7d493_0 : decode μJ0_coder_7d493.2.1 0 = .ok (.getstatic 38, 3) := by decide +kernel
theorem dJ0_coder_7d493_3 : decode μJ0_coder_7d493.2.1 3 = .ok (.ifCond .eq 10, 3) := by decide +kernel
theorem dJ0_coder_7d493_6 : decode μJ0_coder_7d493.2.1 6 = .ok (.aload_n 0, 1) := by decide +kernel
theorem dJ0_coder_7d493_7 : decode μJ0_coder_7d493.2.1 7 = .ok (.getfield 15, 3) := by decide +kernel
theorem dJ0_coder_7d493_10 : decode μJ0_coder_7d493.2.1 10 = .ok (.goto 4, 3) := by decide +kernel
theorem dJ0_coder_7d493_13 : decode μJ0_coder_7d493.2.1 13 = .ok (.iconst 1, 1) := by decide +kernel
theorem dJ0_coder_7d493_14 : decode μJ0_coder_7d493.2.1 14 = .ok (.ireturn, 1) := by decide +kernel
set_option maxRecDepth 20000 in
theorem sg_J0_coder_7d493_0 {d : Nat} {sx : Nat} {M : Mem} {K : (Int32 → Mem → Prop)} (hsx : sx < 2) (h : (if (1 : Int32) = 0 then (narrow .byte (.int 1) = .int 1 ∧ K 1 M) else (narrow .byte (.int ((0 : Int32))) = .int ((0 : Int32)) ∧ K ((0 : Int32)) M))) : CI d μJ0_coder_7d493 [.ref (102 + 2 * sx)] M K := by
  show Rn d μJ0_coder_7d493 0 [(0, .ref (102 + 2 * sx))] [] M _
  refine rn_getZ dJ0_coder_7d493_0 fl_J0_38 ?_
  refine rn_if_eq (tgt := 13) dJ0_coder_7d493_3 (by decide) (ite_go h (fun hc h => ?_) (fun hc h => ?_))
  · refine rn_iconst (v := 1) dJ0_coder_7d493_13 rfl ?_
    exact rn_nret dJ0_coder_7d493_14 rfl h.1 ⟨_, rfl, h.2⟩
  · refine rn_aload_n (i := 0) (x := 102 + 2 * sx) dJ0_coder_7d493_6 rfl (by simp) ?_
    refine rn_getC hsx dJ0_coder_7d493_7 fl_J0_15 ?_
    refine rn_goto (tgt := 14) dJ0_coder_7d493_10 (by decide) ?_
    exact rn_nret dJ0_coder_7d493_14 rfl h.1 ⟨_, rfl, h.2⟩
theorem dJ0_length_8abf5_0 : decode μJ0_length_8abf5.2.1 0 = .ok (.aload_n 0, 1) := by decide +kernel
theorem dJ0_length_8abf5_1 : decode μJ0_length_8abf5.2.1 1 = .ok (.getfield 9, 3) := by decide +kernel
theorem dJ0_length_8abf5_4 : decode μJ0_length_8abf5.2.1 4 = .ok (.arraylength, 1) := by decide +kernel
theorem dJ0_length_8abf5_5 : decode μJ0_length_8abf5.2.1 5 = .ok (.aload_n 0, 1) := by decide +kernel
theorem dJ0_length_8abf5_6 : decode μJ0_length_8abf5.2.1 6 = .ok (.invokevirtual 335, 3) := by decide +kernel
theorem dJ0_length_8abf5_9 : decode μJ0_length_8abf5.2.1 9 = .ok (.ishr, 1) := by decide +kernel
theorem dJ0_length_8abf5_10 : decode μJ0_length_8abf5.2.1 10 = .ok (.ireturn, 1) := by decide +kernel
set_option maxRecDepth 20000 in
theorem sg_J0_length_8abf5_0 {d : Nat} {sx : Nat} {M : Mem} {K : (Int32 → Mem → Prop)} (hsx : sx < 2) (h : (CI d μJ0_coder_7d493 [.ref (102 + 2 * sx)] M (fun r2 M1 => K ((Int32.ofNat (lenS.getD sx 0)) >>> (r2 &&& 31)) M1))) : CI (d + 1) μJ0_length_8abf5 [.ref (102 + 2 * sx)] M K := by
  show Rn (d + 1) μJ0_length_8abf5 0 [(0, .ref (102 + 2 * sx))] [] M _
  refine rn_aload_n (i := 0) (x := 102 + 2 * sx) dJ0_length_8abf5_0 rfl (by simp) ?_
  refine rn_getV hsx dJ0_length_8abf5_1 fl_J0_9 ?_
  refine rn_tlen hsx dJ0_length_8abf5_4 ?_
  refine rn_aload_n (i := 0) (x := 102 + 2 * sx) dJ0_length_8abf5_5 rfl (by simp) ?_
  refine rn_callT (i := sx) (as := []) (st := [.int (Int32.ofNat (lenS.getD sx 0))]) hsx dJ0_length_8abf5_6 mf_J0_coder_7d493 lk_J0_335 im_J0_coder_7d493 rfl rfl (Nat.le_of_ble_eq_true rfl) (Nat.le_of_ble_eq_true rfl) rfl (RI.mono h (fun r2 M1 h => ?_))
  refine rn_ishr dJ0_length_8abf5_9 ?_
  exact rn_iret dJ0_length_8abf5_10 rfl ⟨_, rfl, h⟩
theorem dJ3_checkIndex_8e157_0 : decode μJ3_checkIndex_8e157.2.1 0 = .ok (.iload_n 0, 1) := by decide +kernel
theorem dJ3_checkIndex_8e157_1 : decode μJ3_checkIndex_8e157.2.1 1 = .ok (.ifCond .lt 8, 3) := by decide +kernel
theorem dJ3_checkIndex_8e157_4 : decode μJ3_checkIndex_8e157.2.1 4 = .ok (.iload_n 0, 1) := by decide +kernel
theorem dJ3_checkIndex_8e157_5 : decode μJ3_checkIndex_8e157.2.1 5 = .ok (.iload_n 1, 1) := by decide +kernel
theorem dJ3_checkIndex_8e157_6 : decode μJ3_checkIndex_8e157.2.1 6 = .ok (.if_icmp .lt 10, 3) := by decide +kernel
theorem dJ3_checkIndex_8e157_9 : decode μJ3_checkIndex_8e157.2.1 9 = .ok (.aload_n 2, 1) := by decide +kernel
theorem dJ3_checkIndex_8e157_10 : decode μJ3_checkIndex_8e157.2.1 10 = .ok (.iload_n 0, 1) := by decide +kernel
theorem dJ3_checkIndex_8e157_11 : decode μJ3_checkIndex_8e157.2.1 11 = .ok (.iload_n 1, 1) := by decide +kernel
theorem dJ3_checkIndex_8e157_12 : decode μJ3_checkIndex_8e157.2.1 12 = .ok (.invokestatic 95, 3) := by decide +kernel
theorem dJ3_checkIndex_8e157_15 : decode μJ3_checkIndex_8e157.2.1 15 = .ok (.athrow, 1) := by decide +kernel
theorem dJ3_checkIndex_8e157_16 : decode μJ3_checkIndex_8e157.2.1 16 = .ok (.iload_n 0, 1) := by decide +kernel
theorem dJ3_checkIndex_8e157_17 : decode μJ3_checkIndex_8e157.2.1 17 = .ok (.ireturn, 1) := by decide +kernel
set_option maxRecDepth 20000 in
theorem sg_J3_checkIndex_8e157_0 {d : Nat} {x0 : Int32} {x1 : Int32} {v2 : Value} {M : Mem} {K : (Int32 → Mem → Prop)}  (h : (if x0 < 0 then False else (if x0 < x1 then K x0 M else False))) : CI (d + 1) μJ3_checkIndex_8e157 [.int x0, .int x1, v2] M K := by
  show Rn (d + 1) μJ3_checkIndex_8e157 0 [(0, .int x0), (1, .int x1), (2, v2)] [] M _
  refine rn_iload_n (i := 0) (x := x0) dJ3_checkIndex_8e157_0 rfl (by simp) ?_
  refine rn_if_lt (tgt := 9) dJ3_checkIndex_8e157_1 (by decide) (ite_go h (fun hc h => ?_) (fun hc h => ?_))
  · exact h.elim
  · refine rn_iload_n (i := 0) (x := x0) dJ3_checkIndex_8e157_4 rfl (by simp) ?_
    refine rn_iload_n (i := 1) (x := x1) dJ3_checkIndex_8e157_5 rfl (by simp) ?_
    refine rn_icmp_lt (tgt := 16) dJ3_checkIndex_8e157_6 (by decide) (ite_go h (fun hc h => ?_) (fun hc h => ?_))
    · refine rn_iload_n (i := 0) (x := x0) dJ3_checkIndex_8e157_16 rfl (by simp) ?_
      exact rn_iret dJ3_checkIndex_8e157_17 rfl ⟨_, rfl, h⟩
    · exact h.elim
theorem dJ0_checkIndex_df160_0 : decode μJ0_checkIndex_df160.2.1 0 = .ok (.iload_n 0, 1) := by decide +kernel
theorem dJ0_checkIndex_df160_1 : decode μJ0_checkIndex_df160.2.1 1 = .ok (.iload_n 1, 1) := by decide +kernel
theorem dJ0_checkIndex_df160_2 : decode μJ0_checkIndex_df160.2.1 2 = .ok (.getstatic 1053, 3) := by decide +kernel
theorem dJ0_checkIndex_df160_5 : decode μJ0_checkIndex_df160.2.1 5 = .ok (.invokestatic 1059, 3) := by decide +kernel
theorem dJ0_checkIndex_df160_8 : decode μJ0_checkIndex_df160.2.1 8 = .ok (.pop, 1) := by decide +kernel
theorem dJ0_checkIndex_df160_9 : decode μJ0_checkIndex_df160.2.1 9 = .ok (.return_, 1) := by decide +kernel
set_option maxRecDepth 20000 in
theorem sg_J0_checkIndex_df160_0 {d : Nat} {x0 : Int32} {x1 : Int32} {M : Mem} {K : (Mem → Prop)}  (h : (∀ v1 : Value, v1.category = 1 → (CI d μJ3_checkIndex_8e157 [.int x0, .int x1, v1] M (fun r3 M2 => K M2)))) : CV (d + 1) μJ0_checkIndex_df160 [.int x0, .int x1] M K := by
  show Rn (d + 1) μJ0_checkIndex_df160 0 [(0, .int x0), (1, .int x1)] [] M _
  refine rn_iload_n (i := 0) (x := x0) dJ0_checkIndex_df160_0 rfl (by simp) ?_
  refine rn_iload_n (i := 1) (x := x1) dJ0_checkIndex_df160_1 rfl (by simp) ?_
  refine rn_getF dJ0_checkIndex_df160_2 fl_J0_1053 (fun v1 hv1 => ?_)
  have h := h v1 hv1
  refine rn_callSi (as := [.int x0, .int x1, v1]) (st := []) dJ0_checkIndex_df160_5 mf_J3_checkIndex_8e157 lk_J0_1059 sm_J3_checkIndex_8e157 rfl (lg3 hv1) (Nat.le_of_ble_eq_true rfl) rfl (RI.mono h (fun r3 M2 h => ?_))
  refine rn_pop dJ0_checkIndex_df160_8 rfl ?_
  exact rn_ret dJ0_checkIndex_df160_9 rfl ⟨rfl, h⟩
theorem dJ1_charAt_3b067_0 : decode μJ1_charAt_3b067.2.1 0 = .ok (.iload_n 1, 1) := by decide +kernel
theorem dJ1_charAt_3b067_1 : decode μJ1_charAt_3b067.2.1 1 = .ok (.aload_n 0, 1) := by decide +kernel
theorem dJ1_charAt_3b067_2 : decode μJ1_charAt_3b067.2.1 2 = .ok (.arraylength, 1) := by decide +kernel
theorem dJ1_charAt_3b067_3 : decode μJ1_charAt_3b067.2.1 3 = .ok (.invokestatic 9, 3) := by decide +kernel
theorem dJ1_charAt_3b067_6 : decode μJ1_charAt_3b067.2.1 6 = .ok (.aload_n 0, 1) := by decide +kernel
theorem dJ1_charAt_3b067_7 : decode μJ1_charAt_3b067.2.1 7 = .ok (.iload_n 1, 1) := by decide +kernel
theorem dJ1_charAt_3b067_8 : decode μJ1_charAt_3b067.2.1 8 = .ok (.baload, 1) := by decide +kernel
theorem dJ1_charAt_3b067_9 : decode μJ1_charAt_3b067.2.1 9 = .ok (.sipush 255, 3) := by decide +kernel
theorem dJ1_charAt_3b067_12 : decode μJ1_charAt_3b067.2.1 12 = .ok (.iand, 1) := by decide +kernel
theorem dJ1_charAt_3b067_13 : decode μJ1_charAt_3b067.2.1 13 = .ok (.i2c, 1) := by decide +kernel
theorem dJ1_charAt_3b067_14 : decode μJ1_charAt_3b067.2.1 14 = .ok (.ireturn, 1) := by decide +kernel
set_option maxRecDepth 20000 in
theorem sg_J1_charAt_3b067_0 {d : Nat} {sx : Nat} {x1 : Int32} {M : Mem} {K : (Int32 → Mem → Prop)} (hsx : sx < 2) (h : (CV d μJ0_checkIndex_df160 [.int x1, .int (Int32.ofNat (lenS.getD sx 0))] M (fun M1 => (vp_in x1 (lenS.getD sx 0) ∧ (narrow .char (.int (((((bytS.getD sx []).getD (nx x1) 0) &&& 255).toUInt32 % 65536).toInt32)) = .int (((((bytS.getD sx []).getD (nx x1) 0) &&& 255).toUInt32 % 65536).toInt32) ∧ K (((((bytS.getD sx []).getD (nx x1) 0) &&& 255).toUInt32 % 65536).toInt32) M1))))) : CI (d + 1) μJ1_charAt_3b067 [.ref (103 + 2 * sx), .int x1] M K := by
  show Rn (d + 1) μJ1_charAt_3b067 0 [(0, .ref (103 + 2 * sx)), (1, .int x1)] [] M _
  refine rn_iload_n (i := 1) (x := x1) dJ1_charAt_3b067_0 rfl (by simp) ?_
  refine rn_aload_n (i := 0) (x := 103 + 2 * sx) dJ1_charAt_3b067_1 rfl (by simp) ?_
  refine rn_tlen hsx dJ1_charAt_3b067_2 ?_
  refine rn_callSv (as := [.int x1, .int (Int32.ofNat (lenS.getD sx 0))]) (st := []) dJ1_charAt_3b067_3 mf_J0_checkIndex_df160 lk_J1_9 sm_J0_checkIndex_df160 rfl (Nat.le_of_ble_eq_true rfl) (Nat.le_of_ble_eq_true rfl) rfl (RV.mono h (fun M1 h => ?_))
  refine rn_aload_n (i := 0) (x := 103 + 2 * sx) dJ1_charAt_3b067_6 rfl (by simp) ?_
  refine rn_iload_n (i := 1) (x := x1) dJ1_charAt_3b067_7 rfl (by simp) ?_
  obtain ⟨hi, h⟩ := h
  refine rn_tb hsx dJ1_charAt_3b067_8 hi ?_
  refine rn_sipush (v := 255) dJ1_charAt_3b067_9 rfl ?_
  refine rn_iand dJ1_charAt_3b067_12 ?_
  refine rn_i2c dJ1_charAt_3b067_13 ?_
  exact rn_nret dJ1_charAt_3b067_14 rfl h.1 ⟨_, rfl, h.2⟩
theorem dJ0_charAt_5068e_0 : decode μJ0_charAt_5068e.2.1 0 = .ok (.aload_n 0, 1) := by decide +kernel
theorem dJ0_charAt_5068e_1 : decode μJ0_charAt_5068e.2.1 1 = .ok (.invokevirtual 492, 3) := by decide +kernel
theorem dJ0_charAt_5068e_4 : decode μJ0_charAt_5068e.2.1 4 = .ok (.ifCond .eq 12, 3) := by decide +kernel
theorem dJ0_charAt_5068e_7 : decode μJ0_charAt_5068e.2.1 7 = .ok (.aload_n 0, 1) := by decide +kernel
theorem dJ0_charAt_5068e_8 : decode μJ0_charAt_5068e.2.1 8 = .ok (.getfield 9, 3) := by decide +kernel
theorem dJ0_charAt_5068e_11 : decode μJ0_charAt_5068e.2.1 11 = .ok (.iload_n 1, 1) := by decide +kernel
theorem dJ0_charAt_5068e_12 : decode μJ0_charAt_5068e.2.1 12 = .ok (.invokestatic 495, 3) := by decide +kernel
theorem dJ0_charAt_5068e_15 : decode μJ0_charAt_5068e.2.1 15 = .ok (.ireturn, 1) := by decide +kernel
theorem dJ0_charAt_5068e_16 : decode μJ0_charAt_5068e.2.1 16 = .ok (.aload_n 0, 1) := by decide +kernel
theorem dJ0_charAt_5068e_17 : decode μJ0_charAt_5068e.2.1 17 = .ok (.getfield 9, 3) := by decide +kernel
theorem dJ0_charAt_5068e_20 : decode μJ0_charAt_5068e.2.1 20 = .ok (.iload_n 1, 1) := by decide +kernel
theorem dJ0_charAt_5068e_21 : decode μJ0_charAt_5068e.2.1 21 = .ok (.invokestatic 498, 3) := by decide +kernel
theorem dJ0_charAt_5068e_24 : decode μJ0_charAt_5068e.2.1 24 = .ok (.ireturn, 1) := by decide +kernel
set_option maxRecDepth 20000 in
theorem sg_J0_charAt_5068e_0 {d : Nat} {sx : Nat} {x1 : Int32} {M : Mem} {K : (Int32 → Mem → Prop)} (hsx : sx < 2) (h : (CI d μJ0_isLatin1_aae02 [.ref (102 + 2 * sx)] M (fun r2 M1 => (if r2 = 0 then False else (CI d μJ1_charAt_3b067 [.ref (103 + 2 * sx), .int x1] M1 (fun r4 M3 => (narrow .char (.int r4) = .int r4 ∧ K r4 M3))))))) : CI (d + 1) μJ0_charAt_5068e [.ref (102 + 2 * sx), .int x1] M K := by
  show Rn (d + 1) μJ0_charAt_5068e 0 [(0, .ref (102 + 2 * sx)), (1, .int x1)] [] M _
  refine rn_aload_n (i := 0) (x := 102 + 2 * sx) dJ0_charAt_5068e_0 rfl (by simp) ?_
  refine rn_callT (i := sx) (as := []) (st := []) hsx dJ0_charAt_5068e_1 mf_J0_isLatin1_aae02 lk_J0_492 im_J0_isLatin1_aae02 rfl rfl (Nat.le_of_ble_eq_true rfl) (Nat.le_of_ble_eq_true rfl) rfl (RI.mono h (fun r2 M1 h => ?_))
  refine rn_if_eq (tgt := 16) dJ0_charAt_5068e_4 (by decide) (ite_go h (fun hc h => ?_) (fun hc h => ?_))
  · exact h.elim
  · refine rn_aload_n (i := 0) (x := 102 + 2 * sx) dJ0_charAt_5068e_7 rfl (by simp) ?_
    refine rn_getV hsx dJ0_charAt_5068e_8 fl_J0_9 ?_
    refine rn_iload_n (i := 1) (x := x1) dJ0_charAt_5068e_11 rfl (by simp) ?_
    refine rn_callSi (as := [.ref (103 + 2 * sx), .int x1]) (st := []) dJ0_charAt_5068e_12 mf_J1_charAt_3b067 lk_J0_495 sm_J1_charAt_3b067 rfl (Nat.le_of_ble_eq_true rfl) (Nat.le_of_ble_eq_true rfl) rfl (RI.mono h (fun r4 M3 h => ?_))
    exact rn_nret dJ0_charAt_5068e_15 rfl h.1 ⟨_, rfl, h.2⟩
theorem dJ1_canEncode_9a6ad_0 : decode μJ1_canEncode_9a6ad.2.1 0 = .ok (.iload_n 0, 1) := by decide +kernel
theorem dJ1_canEncode_9a6ad_1 : decode μJ1_canEncode_9a6ad.2.1 1 = .ok (.ifCond .lt 14, 3) := by decide +kernel
theorem dJ1_canEncode_9a6ad_4 : decode μJ1_canEncode_9a6ad.2.1 4 = .ok (.iload_n 0, 1) := by decide +kernel
theorem dJ1_canEncode_9a6ad_5 : decode μJ1_canEncode_9a6ad.2.1 5 = .ok (.sipush 255, 3) := by decide +kernel
theorem dJ1_canEncode_9a6ad_8 : decode μJ1_canEncode_9a6ad.2.1 8 = .ok (.if_icmp .gt 7, 3) := by decide +kernel
theorem dJ1_canEncode_9a6ad_11 : decode μJ1_canEncode_9a6ad.2.1 11 = .ok (.iconst 1, 1) := by decide +kernel
theorem dJ1_canEncode_9a6ad_12 : decode μJ1_canEncode_9a6ad.2.1 12 = .ok (.goto 4, 3) := by decide +kernel
theorem dJ1_canEncode_9a6ad_15 : decode μJ1_canEncode_9a6ad.2.1 15 = .ok (.iconst 0, 1) := by decide +kernel
theorem dJ1_canEncode_9a6ad_16 : decode μJ1_canEncode_9a6ad.2.1 16 = .ok (.ireturn, 1) := by decide +kernel
set_option maxRecDepth 20000 in
theorem sg_J1_canEncode_9a6ad_0 {d : Nat} {x0 : Int32} {M : Mem} {K : (Int32 → Mem → Prop)}  (h : (if x0 < 0 then K 0 M else (if 255 < x0 then K 0 M else K 1 M))) : CI d μJ1_canEncode_9a6ad [.int x0] M K := by
  show Rn d μJ1_canEncode_9a6ad 0 [(0, .int x0)] [] M _
  refine rn_iload_n (i := 0) (x := x0) dJ1_canEncode_9a6ad_0 rfl (by simp) ?_
  refine rn_if_lt (tgt := 15) dJ1_canEncode_9a6ad_1 (by decide) (ite_go h (fun hc h => ?_) (fun hc h => ?_))
  · refine rn_iconst (v := 0) dJ1_canEncode_9a6ad_15 rfl ?_
    exact rn_zret dJ1_canEncode_9a6ad_16 rfl (by decide) ⟨_, rfl, h⟩
  · refine rn_iload_n (i := 0) (x := x0) dJ1_canEncode_9a6ad_4 rfl (by simp) ?_
    refine rn_sipush (v := 255) dJ1_canEncode_9a6ad_5 rfl ?_
    refine rn_icmp_gt (tgt := 15) dJ1_canEncode_9a6ad_8 (by decide) (ite_go h (fun hc h => ?_) (fun hc h => ?_))
    · refine rn_iconst (v := 0) dJ1_canEncode_9a6ad_15 rfl ?_
      exact rn_zret dJ1_canEncode_9a6ad_16 rfl (by decide) ⟨_, rfl, h⟩
    · refine rn_iconst (v := 1) dJ1_canEncode_9a6ad_11 rfl ?_
      refine rn_goto (tgt := 16) dJ1_canEncode_9a6ad_12 (by decide) ?_
      exact rn_zret dJ1_canEncode_9a6ad_16 rfl (by decide) ⟨_, rfl, h⟩
theorem dJ1_indexOfChar_4cfef_0 : decode μJ1_indexOfChar_4cfef.2.1 0 = .ok (.iload_n 1, 1) := by decide +kernel
theorem dJ1_indexOfChar_4cfef_1 : decode μJ1_indexOfChar_4cfef.2.1 1 = .ok (.i2b, 1) := by decide +kernel
theorem dJ1_indexOfChar_4cfef_2 : decode μJ1_indexOfChar_4cfef.2.1 2 = .ok (.istore 4, 2) := by decide +kernel
theorem dJ1_indexOfChar_4cfef_4 : decode μJ1_indexOfChar_4cfef.2.1 4 = .ok (.iload_n 2, 1) := by decide +kernel
theorem dJ1_indexOfChar_4cfef_5 : decode μJ1_indexOfChar_4cfef.2.1 5 = .ok (.istore 5, 2) := by decide +kernel
theorem dJ1_indexOfChar_4cfef_7 : decode μJ1_indexOfChar_4cfef.2.1 7 = .ok (.iload 5, 2) := by decide +kernel
theorem dJ1_indexOfChar_4cfef_9 : decode μJ1_indexOfChar_4cfef.2.1 9 = .ok (.iload_n 3, 1) := by decide +kernel
theorem dJ1_indexOfChar_4cfef_10 : decode μJ1_indexOfChar_4cfef.2.1 10 = .ok (.if_icmp .ge 21, 3) := by decide +kernel
theorem dJ1_indexOfChar_4cfef_13 : decode μJ1_indexOfChar_4cfef.2.1 13 = .ok (.aload_n 0, 1) := by decide +kernel
theorem dJ1_indexOfChar_4cfef_14 : decode μJ1_indexOfChar_4cfef.2.1 14 = .ok (.iload 5, 2) := by decide +kernel
theorem dJ1_indexOfChar_4cfef_16 : decode μJ1_indexOfChar_4cfef.2.1 16 = .ok (.baload, 1) := by decide +kernel
theorem dJ1_indexOfChar_4cfef_17 : decode μJ1_indexOfChar_4cfef.2.1 17 = .ok (.iload 4, 2) := by decide +kernel
theorem dJ1_indexOfChar_4cfef_19 : decode μJ1_indexOfChar_4cfef.2.1 19 = .ok (.if_icmp .ne 6, 3) := by decide +kernel
theorem dJ1_indexOfChar_4cfef_22 : decode μJ1_indexOfChar_4cfef.2.1 22 = .ok (.iload 5, 2) := by decide +kernel
theorem dJ1_indexOfChar_4cfef_24 : decode μJ1_indexOfChar_4cfef.2.1 24 = .ok (.ireturn, 1) := by decide +kernel
theorem dJ1_indexOfChar_4cfef_25 : decode μJ1_indexOfChar_4cfef.2.1 25 = .ok (.iinc 5 1, 3) := by decide +kernel
theorem dJ1_indexOfChar_4cfef_28 : decode μJ1_indexOfChar_4cfef.2.1 28 = .ok (.goto (-21), 3) := by decide +kernel
theorem dJ1_indexOfChar_4cfef_31 : decode μJ1_indexOfChar_4cfef.2.1 31 = .ok (.iconst (-1), 1) := by decide +kernel
theorem dJ1_indexOfChar_4cfef_32 : decode μJ1_indexOfChar_4cfef.2.1 32 = .ok (.ireturn, 1) := by decide +kernel
set_option maxRecDepth 20000 in
theorem sg_J1_indexOfChar_4cfef_0 {d : Nat} {sx : Nat} {x1 : Int32} {x2 : Int32} {x3 : Int32} {M : Mem} {K : (Int32 → Mem → Prop)} (hsx : sx < 2) (h : RI d μJ1_indexOfChar_4cfef 7 [(0, .ref (103 + 2 * sx)), (1, .int x1), (2, .int x2), (3, .int x3), (4, .int (x1.toInt8.toInt32)), (5, .int x2)] [] M K) : CI d μJ1_indexOfChar_4cfef [.ref (103 + 2 * sx), .int x1, .int x2, .int x3] M K := by
  show Rn d μJ1_indexOfChar_4cfef 0 [(0, .ref (103 + 2 * sx)), (1, .int x1), (2, .int x2), (3, .int x3)] [] M _
  refine rn_iload_n (i := 1) (x := x1) dJ1_indexOfChar_4cfef_0 rfl (by simp) ?_
  refine rn_i2b dJ1_indexOfChar_4cfef_1 ?_
  refine rn_istore (lv' := [(0, .ref (103 + 2 * sx)), (1, .int x1), (2, .int x2), (3, .int x3), (4, .int (x1.toInt8.toInt32))]) (hd := dJ1_indexOfChar_4cfef_2) (hn := by decide) (hf := rfl) (hl := rfl) ?_
  refine rn_iload_n (i := 2) (x := x2) dJ1_indexOfChar_4cfef_4 rfl (by simp) ?_
  refine rn_istore (lv' := [(0, .ref (103 + 2 * sx)), (1, .int x1), (2, .int x2), (3, .int x3), (4, .int (x1.toInt8.toInt32)), (5, .int x2)]) (hd := dJ1_indexOfChar_4cfef_5) (hn := by decide) (hf := rfl) (hl := rfl) ?_
  exact h
set_option maxRecDepth 20000 in
theorem sg_J1_indexOfChar_4cfef_7 {d : Nat} {sx : Nat} {x1 : Int32} {x2 : Int32} {x3 : Int32} {x4 : Int32} {x5 : Int32} {M : Mem} {K : (Int32 → Mem → Prop)} (hsx : sx < 2) (h : (if x3 ≤ x5 then K ((-1)) M else (vp_in x5 (lenS.getD sx 0) ∧ (if (bytS.getD sx []).getD (nx x5) 0 = x4 then K x5 M else RI d μJ1_indexOfChar_4cfef 7 [(0, .ref (103 + 2 * sx)), (1, .int x1), (2, .int x2), (3, .int x3), (4, .int x4), (5, .int (x5 + 1))] [] M K)))) : RI d μJ1_indexOfChar_4cfef 7 [(0, .ref (103 + 2 * sx)), (1, .int x1), (2, .int x2), (3, .int x3), (4, .int x4), (5, .int x5)] [] M K := by
  show Rn d μJ1_indexOfChar_4cfef 7 [(0, .ref (103 + 2 * sx)), (1, .int x1), (2, .int x2), (3, .int x3), (4, .int x4), (5, .int x5)] [] M _
  refine rn_iload (x := x5) dJ1_indexOfChar_4cfef_7 (by simp) ?_
  refine rn_iload_n (i := 3) (x := x3) dJ1_indexOfChar_4cfef_9 rfl (by simp) ?_
  refine rn_icmp_ge (tgt := 31) dJ1_indexOfChar_4cfef_10 (by decide) (ite_go h (fun hc h => ?_) (fun hc h => ?_))
  · refine rn_iconst (v := -1) dJ1_indexOfChar_4cfef_31 rfl ?_
    exact rn_iret dJ1_indexOfChar_4cfef_32 rfl ⟨_, rfl, h⟩
  · refine rn_aload_n (i := 0) (x := 103 + 2 * sx) dJ1_indexOfChar_4cfef_13 rfl (by simp) ?_
    refine rn_iload (x := x5) dJ1_indexOfChar_4cfef_14 (by simp) ?_
    obtain ⟨hi, h⟩ := h
    refine rn_tb hsx dJ1_indexOfChar_4cfef_16 hi ?_
    refine rn_iload (x := x4) dJ1_indexOfChar_4cfef_17 (by simp) ?_
    refine rn_icmp_ne (tgt := 25) dJ1_indexOfChar_4cfef_19 (by decide) (ite_go h (fun hc h => ?_) (fun hc h => ?_))
    · refine rn_iload (x := x5) dJ1_indexOfChar_4cfef_22 (by simp) ?_
      exact rn_iret dJ1_indexOfChar_4cfef_24 rfl ⟨_, rfl, h⟩
    · refine rn_iinc (x := x5) (v := x5 + 1) (lv' := [(0, .ref (103 + 2 * sx)), (1, .int x1), (2, .int x2), (3, .int x3), (4, .int x4), (5, .int (x5 + 1))]) dJ1_indexOfChar_4cfef_25 (by simp) rfl (by decide) rfl rfl ?_
      refine rn_goto (tgt := 7) dJ1_indexOfChar_4cfef_28 (by decide) ?_
      exact h
theorem dJ1_indexOf_4cfef_0 : decode μJ1_indexOf_4cfef.2.1 0 = .ok (.iload_n 1, 1) := by decide +kernel
theorem dJ1_indexOf_4cfef_1 : decode μJ1_indexOf_4cfef.2.1 1 = .ok (.invokestatic 88, 3) := by decide +kernel
theorem dJ1_indexOf_4cfef_4 : decode μJ1_indexOf_4cfef.2.1 4 = .ok (.ifCond .ne 5, 3) := by decide +kernel
theorem dJ1_indexOf_4cfef_7 : decode μJ1_indexOf_4cfef.2.1 7 = .ok (.iconst (-1), 1) := by decide +kernel
theorem dJ1_indexOf_4cfef_8 : decode μJ1_indexOf_4cfef.2.1 8 = .ok (.ireturn, 1) := by decide +kernel
theorem dJ1_indexOf_4cfef_9 : decode μJ1_indexOf_4cfef.2.1 9 = .ok (.iload_n 2, 1) := by decide +kernel
theorem dJ1_indexOf_4cfef_10 : decode μJ1_indexOf_4cfef.2.1 10 = .ok (.iconst 0, 1) := by decide +kernel
theorem dJ1_indexOf_4cfef_11 : decode μJ1_indexOf_4cfef.2.1 11 = .ok (.invokestatic 92, 3) := by decide +kernel
theorem dJ1_indexOf_4cfef_14 : decode μJ1_indexOf_4cfef.2.1 14 = .ok (.istore_n 2, 1) := by decide +kernel
theorem dJ1_indexOf_4cfef_15 : decode μJ1_indexOf_4cfef.2.1 15 = .ok (.iload_n 3, 1) := by decide +kernel
theorem dJ1_indexOf_4cfef_16 : decode μJ1_indexOf_4cfef.2.1 16 = .ok (.aload_n 0, 1) := by decide +kernel
theorem dJ1_indexOf_4cfef_17 : decode μJ1_indexOf_4cfef.2.1 17 = .ok (.arraylength, 1) := by decide +kernel
theorem dJ1_indexOf_4cfef_18 : decode μJ1_indexOf_4cfef.2.1 18 = .ok (.invokestatic 38, 3) := by decide +kernel
theorem dJ1_indexOf_4cfef_21 : decode μJ1_indexOf_4cfef.2.1 21 = .ok (.istore_n 3, 1) := by decide +kernel
theorem dJ1_indexOf_4cfef_22 : decode μJ1_indexOf_4cfef.2.1 22 = .ok (.iload_n 2, 1) := by decide +kernel
theorem dJ1_indexOf_4cfef_23 : decode μJ1_indexOf_4cfef.2.1 23 = .ok (.iload_n 3, 1) := by decide +kernel
theorem dJ1_indexOf_4cfef_24 : decode μJ1_indexOf_4cfef.2.1 24 = .ok (.if_icmp .lt 5, 3) := by decide +kernel
theorem dJ1_indexOf_4cfef_27 : decode μJ1_indexOf_4cfef.2.1 27 = .ok (.iconst (-1), 1) := by decide +kernel
theorem dJ1_indexOf_4cfef_28 : decode μJ1_indexOf_4cfef.2.1 28 = .ok (.ireturn, 1) := by decide +kernel
theorem dJ1_indexOf_4cfef_29 : decode μJ1_indexOf_4cfef.2.1 29 = .ok (.aload_n 0, 1) := by decide +kernel
theorem dJ1_indexOf_4cfef_30 : decode μJ1_indexOf_4cfef.2.1 30 = .ok (.iload_n 1, 1) := by decide +kernel
theorem dJ1_indexOf_4cfef_31 : decode μJ1_indexOf_4cfef.2.1 31 = .ok (.iload_n 2, 1) := by decide +kernel
theorem dJ1_indexOf_4cfef_32 : decode μJ1_indexOf_4cfef.2.1 32 = .ok (.iload_n 3, 1) := by decide +kernel
theorem dJ1_indexOf_4cfef_33 : decode μJ1_indexOf_4cfef.2.1 33 = .ok (.invokestatic 95, 3) := by decide +kernel
theorem dJ1_indexOf_4cfef_36 : decode μJ1_indexOf_4cfef.2.1 36 = .ok (.ireturn, 1) := by decide +kernel
set_option maxRecDepth 20000 in
theorem sg_J1_indexOf_4cfef_0 {d : Nat} {sx : Nat} {x1 : Int32} {x2 : Int32} {x3 : Int32} {M : Mem} {K : (Int32 → Mem → Prop)} (hsx : sx < 2) (h : (CI d μJ1_canEncode_9a6ad [.int x1] M (fun r2 M1 => (if r2 = 0 then K ((-1)) M1 else (if (if x2 < 0 then 0 else x2) < (if Int32.ofNat (lenS.getD sx 0) < x3 then Int32.ofNat (lenS.getD sx 0) else x3) then (CI d μJ1_indexOfChar_4cfef [.ref (103 + 2 * sx), .int x1, .int (if x2 < 0 then 0 else x2), .int (if Int32.ofNat (lenS.getD sx 0) < x3 then Int32.ofNat (lenS.getD sx 0) else x3)] M1 (fun r4 M3 => K r4 M3)) else K ((-1)) M1))))) : CI (d + 1) μJ1_indexOf_4cfef [.ref (103 + 2 * sx), .int x1, .int x2, .int x3] M K := by
  show Rn (d + 1) μJ1_indexOf_4cfef 0 [(0, .ref (103 + 2 * sx)), (1, .int x1), (2, .int x2), (3, .int x3)] [] M _
  refine rn_iload_n (i := 1) (x := x1) dJ1_indexOf_4cfef_0 rfl (by simp) ?_
  refine rn_callSi (as := [.int x1]) (st := []) dJ1_indexOf_4cfef_1 mf_J1_canEncode_9a6ad lk_J1_88 sm_J1_canEncode_9a6ad rfl (Nat.le_of_ble_eq_true rfl) (Nat.le_of_ble_eq_true rfl) rfl (RI.mono h (fun r2 M1 h => ?_))
  refine rn_if_ne (tgt := 9) dJ1_indexOf_4cfef_4 (by decide) (ite_go h (fun hc h => ?_) (fun hc h => ?_))
  · refine rn_iconst (v := -1) dJ1_indexOf_4cfef_7 rfl ?_
    exact rn_iret dJ1_indexOf_4cfef_8 rfl ⟨_, rfl, h⟩
  · refine rn_iload_n (i := 2) (x := x2) dJ1_indexOf_4cfef_9 rfl (by simp) ?_
    refine rn_iconst (v := 0) dJ1_indexOf_4cfef_10 rfl ?_
    refine rn_mmax dJ1_indexOf_4cfef_11 mi_J1_92 (Nat.le_of_ble_eq_true rfl) ?_
    refine rn_istore_n (lv' := [(0, .ref (103 + 2 * sx)), (1, .int x1), (2, .int (if x2 < 0 then 0 else x2)), (3, .int x3)]) (hd := dJ1_indexOf_4cfef_14) (i := 2) (hi := rfl) (hn := by decide) (hf := rfl) (hl := rfl) ?_
    refine rn_iload_n (i := 3) (x := x3) dJ1_indexOf_4cfef_15 rfl (by simp) ?_
    refine rn_aload_n (i := 0) (x := 103 + 2 * sx) dJ1_indexOf_4cfef_16 rfl (by simp) ?_
    refine rn_tlen hsx dJ1_indexOf_4cfef_17 ?_
    refine rn_mmin dJ1_indexOf_4cfef_18 mi_J1_38 (Nat.le_of_ble_eq_true rfl) ?_
    refine rn_istore_n (lv' := [(0, .ref (103 + 2 * sx)), (1, .int x1), (2, .int (if x2 < 0 then 0 else x2)), (3, .int (if Int32.ofNat (lenS.getD sx 0) < x3 then Int32.ofNat (lenS.getD sx 0) else x3))]) (hd := dJ1_indexOf_4cfef_21) (i := 3) (hi := rfl) (hn := by decide) (hf := rfl) (hl := rfl) ?_
    refine rn_iload_n (i := 2) (x := if x2 < 0 then 0 else x2) dJ1_indexOf_4cfef_22 rfl (by simp) ?_
    refine rn_iload_n (i := 3) (x := if Int32.ofNat (lenS.getD sx 0) < x3 then Int32.ofNat (lenS.getD sx 0) else x3) dJ1_indexOf_4cfef_23 rfl (by simp) ?_
    refine rn_icmp_lt (tgt := 29) dJ1_indexOf_4cfef_24 (by decide) (ite_go h (fun hc h => ?_) (fun hc h => ?_))
    · refine rn_aload_n (i := 0) (x := 103 + 2 * sx) dJ1_indexOf_4cfef_29 rfl (by simp) ?_
      refine rn_iload_n (i := 1) (x := x1) dJ1_indexOf_4cfef_30 rfl (by simp) ?_
      refine rn_iload_n (i := 2) (x := if x2 < 0 then 0 else x2) dJ1_indexOf_4cfef_31 rfl (by simp) ?_
      refine rn_iload_n (i := 3) (x := if Int32.ofNat (lenS.getD sx 0) < x3 then Int32.ofNat (lenS.getD sx 0) else x3) dJ1_indexOf_4cfef_32 rfl (by simp) ?_
      refine rn_callSi (as := [.ref (103 + 2 * sx), .int x1, .int (if x2 < 0 then 0 else x2), .int (if Int32.ofNat (lenS.getD sx 0) < x3 then Int32.ofNat (lenS.getD sx 0) else x3)]) (st := []) dJ1_indexOf_4cfef_33 mf_J1_indexOfChar_4cfef lk_J1_95 sm_J1_indexOfChar_4cfef rfl (Nat.le_of_ble_eq_true rfl) (Nat.le_of_ble_eq_true rfl) rfl (RI.mono h (fun r4 M3 h => ?_))
      exact rn_iret dJ1_indexOf_4cfef_36 rfl ⟨_, rfl, h⟩
    · refine rn_iconst (v := -1) dJ1_indexOf_4cfef_27 rfl ?_
      exact rn_iret dJ1_indexOf_4cfef_28 rfl ⟨_, rfl, h⟩
theorem dJ0_indexOf_7cf53_0 : decode μJ0_indexOf_7cf53.2.1 0 = .ok (.aload_n 0, 1) := by decide +kernel
theorem dJ0_indexOf_7cf53_1 : decode μJ0_indexOf_7cf53.2.1 1 = .ok (.invokevirtual 492, 3) := by decide +kernel
theorem dJ0_indexOf_7cf53_4 : decode μJ0_indexOf_7cf53.2.1 4 = .ok (.ifCond .eq 19, 3) := by decide +kernel
theorem dJ0_indexOf_7cf53_7 : decode μJ0_indexOf_7cf53.2.1 7 = .ok (.aload_n 0, 1) := by decide +kernel
theorem dJ0_indexOf_7cf53_8 : decode μJ0_indexOf_7cf53.2.1 8 = .ok (.getfield 9, 3) := by decide +kernel
theorem dJ0_indexOf_7cf53_11 : decode μJ0_indexOf_7cf53.2.1 11 = .ok (.iload_n 1, 1) := by decide +kernel
theorem dJ0_indexOf_7cf53_12 : decode μJ0_indexOf_7cf53.2.1 12 = .ok (.iload_n 2, 1) := by decide +kernel
theorem dJ0_indexOf_7cf53_13 : decode μJ0_indexOf_7cf53.2.1 13 = .ok (.aload_n 0, 1) := by decide +kernel
theorem dJ0_indexOf_7cf53_14 : decode μJ0_indexOf_7cf53.2.1 14 = .ok (.invokevirtual 505, 3) := by decide +kernel
theorem dJ0_indexOf_7cf53_17 : decode μJ0_indexOf_7cf53.2.1 17 = .ok (.invokestatic 637, 3) := by decide +kernel
theorem dJ0_indexOf_7cf53_20 : decode μJ0_indexOf_7cf53.2.1 20 = .ok (.goto 16, 3) := by decide +kernel
theorem dJ0_indexOf_7cf53_23 : decode μJ0_indexOf_7cf53.2.1 23 = .ok (.aload_n 0, 1) := by decide +kernel
theorem dJ0_indexOf_7cf53_24 : decode μJ0_indexOf_7cf53.2.1 24 = .ok (.getfield 9, 3) := by decide +kernel
theorem dJ0_indexOf_7cf53_27 : decode μJ0_indexOf_7cf53.2.1 27 = .ok (.iload_n 1, 1) := by decide +kernel
theorem dJ0_indexOf_7cf53_28 : decode μJ0_indexOf_7cf53.2.1 28 = .ok (.iload_n 2, 1) := by decide +kernel
theorem dJ0_indexOf_7cf53_29 : decode μJ0_indexOf_7cf53.2.1 29 = .ok (.aload_n 0, 1) := by decide +kernel
theorem dJ0_indexOf_7cf53_30 : decode μJ0_indexOf_7cf53.2.1 30 = .ok (.invokevirtual 505, 3) := by decide +kernel
theorem dJ0_indexOf_7cf53_33 : decode μJ0_indexOf_7cf53.2.1 33 = .ok (.invokestatic 640, 3) := by decide +kernel
theorem dJ0_indexOf_7cf53_36 : decode μJ0_indexOf_7cf53.2.1 36 = .ok (.ireturn, 1) := by decide +kernel
set_option maxRecDepth 20000 in
theorem sg_J0_indexOf_7cf53_0 {d : Nat} {sx : Nat} {x1 : Int32} {x2 : Int32} {M : Mem} {K : (Int32 → Mem → Prop)} (hsx : sx < 2) (h : (CI d μJ0_isLatin1_aae02 [.ref (102 + 2 * sx)] M (fun r2 M1 => (if r2 = 0 then False else (CI d μJ0_length_8abf5 [.ref (102 + 2 * sx)] M1 (fun r4 M3 => (CI d μJ1_indexOf_4cfef [.ref (103 + 2 * sx), .int x1, .int x2, .int r4] M3 (fun r6 M5 => K r6 M5)))))))) : CI (d + 1) μJ0_indexOf_7cf53 [.ref (102 + 2 * sx), .int x1, .int x2] M K := by
  show Rn (d + 1) μJ0_indexOf_7cf53 0 [(0, .ref (102 + 2 * sx)), (1, .int x1), (2, .int x2)] [] M _
  refine rn_aload_n (i := 0) (x := 102 + 2 * sx) dJ0_indexOf_7cf53_0 rfl (by simp) ?_
  refine rn_callT (i := sx) (as := []) (st := []) hsx dJ0_indexOf_7cf53_1 mf_J0_isLatin1_aae02 lk_J0_492 im_J0_isLatin1_aae02 rfl rfl (Nat.le_of_ble_eq_true rfl) (Nat.le_of_ble_eq_true rfl) rfl (RI.mono h (fun r2 M1 h => ?_))
  refine rn_if_eq (tgt := 23) dJ0_indexOf_7cf53_4 (by decide) (ite_go h (fun hc h => ?_) (fun hc h => ?_))
  · exact h.elim
  · refine rn_aload_n (i := 0) (x := 102 + 2 * sx) dJ0_indexOf_7cf53_7 rfl (by simp) ?_
    refine rn_getV hsx dJ0_indexOf_7cf53_8 fl_J0_9 ?_
    refine rn_iload_n (i := 1) (x := x1) dJ0_indexOf_7cf53_11 rfl (by simp) ?_
    refine rn_iload_n (i := 2) (x := x2) dJ0_indexOf_7cf53_12 rfl (by simp) ?_
    refine rn_aload_n (i := 0) (x := 102 + 2 * sx) dJ0_indexOf_7cf53_13 rfl (by simp) ?_
    refine rn_callT (i := sx) (as := []) (st := [.int x2, .int x1, .ref (103 + 2 * sx)]) hsx dJ0_indexOf_7cf53_14 mf_J0_length_8abf5 lk_J0_505 im_J0_length_8abf5 rfl rfl (Nat.le_of_ble_eq_true rfl) (Nat.le_of_ble_eq_true rfl) rfl (RI.mono h (fun r4 M3 h => ?_))
    refine rn_callSi (as := [.ref (103 + 2 * sx), .int x1, .int x2, .int r4]) (st := []) dJ0_indexOf_7cf53_17 mf_J1_indexOf_4cfef lk_J0_637 sm_J1_indexOf_4cfef rfl (Nat.le_of_ble_eq_true rfl) (Nat.le_of_ble_eq_true rfl) rfl (RI.mono h (fun r6 M5 h => ?_))
    refine rn_goto (tgt := 36) dJ0_indexOf_7cf53_20 (by decide) ?_
    exact rn_iret dJ0_indexOf_7cf53_36 rfl ⟨_, rfl, h⟩
theorem dJ0_indexOf_0f7a4_0 : decode μJ0_indexOf_0f7a4.2.1 0 = .ok (.aload_n 0, 1) := by decide +kernel
theorem dJ0_indexOf_0f7a4_1 : decode μJ0_indexOf_0f7a4.2.1 1 = .ok (.iload_n 1, 1) := by decide +kernel
theorem dJ0_indexOf_0f7a4_2 : decode μJ0_indexOf_0f7a4.2.1 2 = .ok (.iconst 0, 1) := by decide +kernel
theorem dJ0_indexOf_0f7a4_3 : decode μJ0_indexOf_0f7a4.2.1 3 = .ok (.invokevirtual 633, 3) := by decide +kernel
theorem dJ0_indexOf_0f7a4_6 : decode μJ0_indexOf_0f7a4.2.1 6 = .ok (.ireturn, 1) := by decide +kernel
set_option maxRecDepth 20000 in
theorem sg_J0_indexOf_0f7a4_0 {d : Nat} {sx : Nat} {x1 : Int32} {M : Mem} {K : (Int32 → Mem → Prop)} (hsx : sx < 2) (h : (CI d μJ0_indexOf_7cf53 [.ref (102 + 2 * sx), .int x1, .int 0] M (fun r2 M1 => K r2 M1))) : CI (d + 1) μJ0_indexOf_0f7a4 [.ref (102 + 2 * sx), .int x1] M K := by
  show Rn (d + 1) μJ0_indexOf_0f7a4 0 [(0, .ref (102 + 2 * sx)), (1, .int x1)] [] M _
  refine rn_aload_n (i := 0) (x := 102 + 2 * sx) dJ0_indexOf_0f7a4_0 rfl (by simp) ?_
  refine rn_iload_n (i := 1) (x := x1) dJ0_indexOf_0f7a4_1 rfl (by simp) ?_
  refine rn_iconst (v := 0) dJ0_indexOf_0f7a4_2 rfl ?_
  refine rn_callT (i := sx) (as := [.int x1, .int 0]) (st := []) hsx dJ0_indexOf_0f7a4_3 mf_J0_indexOf_7cf53 lk_J0_633 im_J0_indexOf_7cf53 rfl rfl (Nat.le_of_ble_eq_true rfl) (Nat.le_of_ble_eq_true rfl) rfl (RI.mono h (fun r2 M1 h => ?_))
  exact rn_iret dJ0_indexOf_0f7a4_6 rfl ⟨_, rfl, h⟩
theorem dX6_isSpelled_0 : decode μX6_isSpelled.2.1 0 = .ok (.iconst 0, 1) := by decide +kernel
theorem dX6_isSpelled_1 : decode μX6_isSpelled.2.1 1 = .ok (.istore_n 2, 1) := by decide +kernel
theorem dX6_isSpelled_2 : decode μX6_isSpelled.2.1 2 = .ok (.iload_n 2, 1) := by decide +kernel
theorem dX6_isSpelled_3 : decode μX6_isSpelled.2.1 3 = .ok (.bipush 8, 2) := by decide +kernel
theorem dX6_isSpelled_5 : decode μX6_isSpelled.2.1 5 = .ok (.if_icmp .ge 56, 3) := by decide +kernel
theorem dX6_isSpelled_8 : decode μX6_isSpelled.2.1 8 = .ok (.aload_n 0, 1) := by decide +kernel
theorem dX6_isSpelled_9 : decode μX6_isSpelled.2.1 9 = .ok (.getfield 38, 3) := by decide +kernel
theorem dX6_isSpelled_12 : decode μX6_isSpelled.2.1 12 = .ok (.iload_n 2, 1) := by decide +kernel
theorem dX6_isSpelled_13 : decode μX6_isSpelled.2.1 13 = .ok (.iadd, 1) := by decide +kernel
theorem dX6_isSpelled_14 : decode μX6_isSpelled.2.1 14 = .ok (.aload_n 0, 1) := by decide +kernel
theorem dX6_isSpelled_15 : decode μX6_isSpelled.2.1 15 = .ok (.getfield 32, 3) := by decide +kernel
theorem dX6_isSpelled_18 : decode μX6_isSpelled.2.1 18 = .ok (.if_icmp .ge 17, 3) := by decide +kernel
theorem dX6_isSpelled_21 : decode μX6_isSpelled.2.1 21 = .ok (.aload_n 0, 1) := by decide +kernel
theorem dX6_isSpelled_22 : decode μX6_isSpelled.2.1 22 = .ok (.getfield 28, 3) := by decide +kernel
theorem dX6_isSpelled_25 : decode μX6_isSpelled.2.1 25 = .ok (.aload_n 0, 1) := by decide +kernel
theorem dX6_isSpelled_26 : decode μX6_isSpelled.2.1 26 = .ok (.getfield 38, 3) := by decide +kernel
theorem dX6_isSpelled_29 : decode μX6_isSpelled.2.1 29 = .ok (.iload_n 2, 1) := by decide +kernel
theorem dX6_isSpelled_30 : decode μX6_isSpelled.2.1 30 = .ok (.iadd, 1) := by decide +kernel
theorem dX6_isSpelled_31 : decode μX6_isSpelled.2.1 31 = .ok (.baload, 1) := by decide +kernel
theorem dX6_isSpelled_32 : decode μX6_isSpelled.2.1 32 = .ok (.goto 5, 3) := by decide +kernel
theorem dX6_isSpelled_35 : decode μX6_isSpelled.2.1 35 = .ok (.bipush 32, 2) := by decide +kernel
theorem dX6_isSpelled_37 : decode μX6_isSpelled.2.1 37 = .ok (.istore_n 3, 1) := by decide +kernel
theorem dX6_isSpelled_38 : decode μX6_isSpelled.2.1 38 = .ok (.iload_n 3, 1) := by decide +kernel
theorem dX6_isSpelled_39 : decode μX6_isSpelled.2.1 39 = .ok (.ldc 108, 2) := by decide +kernel
theorem dX6_isSpelled_41 : decode μX6_isSpelled.2.1 41 = .ok (.iload_n 1, 1) := by decide +kernel
theorem dX6_isSpelled_42 : decode μX6_isSpelled.2.1 42 = .ok (.bipush 8, 2) := by decide +kernel
theorem dX6_isSpelled_44 : decode μX6_isSpelled.2.1 44 = .ok (.imul, 1) := by decide +kernel
theorem dX6_isSpelled_45 : decode μX6_isSpelled.2.1 45 = .ok (.iload_n 2, 1) := by decide +kernel
theorem dX6_isSpelled_46 : decode μX6_isSpelled.2.1 46 = .ok (.iadd, 1) := by decide +kernel
theorem dX6_isSpelled_47 : decode μX6_isSpelled.2.1 47 = .ok (.invokevirtual 110, 3) := by decide +kernel
theorem dX6_isSpelled_50 : decode μX6_isSpelled.2.1 50 = .ok (.if_icmp .eq 5, 3) := by decide +kernel
theorem dX6_isSpelled_53 : decode μX6_isSpelled.2.1 53 = .ok (.iconst 0, 1) := by decide +kernel
theorem dX6_isSpelled_54 : decode μX6_isSpelled.2.1 54 = .ok (.ireturn, 1) := by decide +kernel
theorem dX6_isSpelled_55 : decode μX6_isSpelled.2.1 55 = .ok (.iinc 2 1, 3) := by decide +kernel
theorem dX6_isSpelled_58 : decode μX6_isSpelled.2.1 58 = .ok (.goto (-56), 3) := by decide +kernel
theorem dX6_isSpelled_61 : decode μX6_isSpelled.2.1 61 = .ok (.iconst 1, 1) := by decide +kernel
theorem dX6_isSpelled_62 : decode μX6_isSpelled.2.1 62 = .ok (.ireturn, 1) := by decide +kernel
set_option maxRecDepth 20000 in
theorem sg_X6_isSpelled_0 {d : Nat} {x1 : Int32} {M : Mem} {K : (Int32 → Mem → Prop)}  (h : RI (d + 1) μX6_isSpelled 2 [(0, .ref 1), (1, .int x1), (2, .int 0)] [] M K) : CI (d + 1) μX6_isSpelled [.ref 1, .int x1] M K := by
  show Rn (d + 1) μX6_isSpelled 0 [(0, .ref 1), (1, .int x1)] [] M _
  refine rn_iconst (v := 0) dX6_isSpelled_0 rfl ?_
  refine rn_istore_n (lv' := [(0, .ref 1), (1, .int x1), (2, .int 0)]) (hd := dX6_isSpelled_1) (i := 2) (hi := rfl) (hn := by decide) (hf := rfl) (hl := rfl) ?_
  exact h
set_option maxRecDepth 20000 in
theorem sg_X6_isSpelled_2 {d : Nat} {x1 : Int32} {x2 : Int32} {M : Mem} {K : (Int32 → Mem → Prop)}  (h : (if 8 ≤ x2 then K 1 M else (if ri M 1 5 ≤ (ri M 1 7) + x2 then RI (d + 1) μX6_isSpelled 37 [(0, .ref 1), (1, .int x1), (2, .int x2)] [.int 32] M K else (vp_in ((ri M 1 7) + x2) 1600 ∧ RI (d + 1) μX6_isSpelled 37 [(0, .ref 1), (1, .int x1), (2, .int x2)] [.int (ri M 14 (nx ((ri M 1 7) + x2)))] M K)))) : RI (d + 1) μX6_isSpelled 2 [(0, .ref 1), (1, .int x1), (2, .int x2)] [] M K := by
  show Rn (d + 1) μX6_isSpelled 2 [(0, .ref 1), (1, .int x1), (2, .int x2)] [] M _
  refine rn_iload_n (i := 2) (x := x2) dX6_isSpelled_2 rfl (by simp) ?_
  refine rn_bipush (v := 8) dX6_isSpelled_3 rfl ?_
  refine rn_icmp_ge (tgt := 61) dX6_isSpelled_5 (by decide) (ite_go h (fun hc h => ?_) (fun hc h => ?_))
  · refine rn_iconst (v := 1) dX6_isSpelled_61 rfl ?_
    exact rn_zret dX6_isSpelled_62 rfl (by decide) ⟨_, rfl, h⟩
  · refine rn_aload_n (i := 0) (x := 1) dX6_isSpelled_8 rfl (by simp) ?_
    refine rn_geti dX6_isSpelled_9 rfl gf_X6_38 (by decide) ?_
    refine rn_iload_n (i := 2) (x := x2) dX6_isSpelled_12 rfl (by simp) ?_
    refine rn_iadd dX6_isSpelled_13 ?_
    refine rn_aload_n (i := 0) (x := 1) dX6_isSpelled_14 rfl (by simp) ?_
    refine rn_geti dX6_isSpelled_15 rfl gf_X6_32 (by decide) ?_
    refine rn_icmp_ge (tgt := 35) dX6_isSpelled_18 (by decide) (ite_go h (fun hc h => ?_) (fun hc h => ?_))
    · refine rn_bipush (v := 32) dX6_isSpelled_35 rfl ?_
      exact h
    · refine rn_aload_n (i := 0) (x := 1) dX6_isSpelled_21 rfl (by simp) ?_
      refine rn_getr (t := 14) dX6_isSpelled_22 rfl gf_X6_28 rfl rfl ?_
      refine rn_aload_n (i := 0) (x := 1) dX6_isSpelled_25 rfl (by simp) ?_
      refine rn_geti dX6_isSpelled_26 rfl gf_X6_38 (by decide) ?_
      refine rn_iload_n (i := 2) (x := x2) dX6_isSpelled_29 rfl (by simp) ?_
      refine rn_iadd dX6_isSpelled_30 ?_
      obtain ⟨hi, h⟩ := h
      refine rn_baload dX6_isSpelled_31 rfl hi ?_
      refine rn_goto (tgt := 37) dX6_isSpelled_32 (by decide) ?_
      exact h
set_option maxRecDepth 20000 in
theorem sg_X6_isSpelled_37 {d : Nat} {x1 : Int32} {x2 : Int32} {y0 : Int32} {M : Mem} {K : (Int32 → Mem → Prop)}  (h : (CI d μJ0_charAt_5068e [.ref (102 + 2 * 1), .int ((x1 * 8) + x2)] M (fun r2 M1 => (if y0 = r2 then RI (d + 1) μX6_isSpelled 2 [(0, .ref 1), (1, .int x1), (2, .int (x2 + 1))] [] M1 K else K 0 M1)))) : RI (d + 1) μX6_isSpelled 37 [(0, .ref 1), (1, .int x1), (2, .int x2)] [.int y0] M K := by
  show Rn (d + 1) μX6_isSpelled 37 [(0, .ref 1), (1, .int x1), (2, .int x2)] [.int y0] M _
  refine rn_istore_n (lv' := [(0, .ref 1), (1, .int x1), (2, .int x2), (3, .int y0)]) (hd := dX6_isSpelled_37) (i := 3) (hi := rfl) (hn := by decide) (hf := rfl) (hl := rfl) ?_
  refine rn_iload_n (i := 3) (x := y0) dX6_isSpelled_38 rfl (by simp) ?_
  refine rn_ldcS (i := 1) dX6_isSpelled_39 st_108 ?_
  refine rn_iload_n (i := 1) (x := x1) dX6_isSpelled_41 rfl (by simp) ?_
  refine rn_bipush (v := 8) dX6_isSpelled_42 rfl ?_
  refine rn_imul dX6_isSpelled_44 ?_
  refine rn_iload_n (i := 2) (x := x2) dX6_isSpelled_45 rfl (by simp) ?_
  refine rn_iadd dX6_isSpelled_46 ?_
  refine rn_callT (i := 1) (as := [.int ((x1 * 8) + x2)]) (st := [.int y0]) (by decide) dX6_isSpelled_47 mf_J0_charAt_5068e lk_X6_110 im_J0_charAt_5068e rfl rfl (Nat.le_of_ble_eq_true rfl) (Nat.le_of_ble_eq_true rfl) rfl (RI.mono h (fun r2 M1 h => ?_))
  refine rn_icmp_eq (tgt := 55) dX6_isSpelled_50 (by decide) (ite_go h (fun hc h => ?_) (fun hc h => ?_))
  · refine rn_iinc (x := x2) (v := x2 + 1) (lv' := [(0, .ref 1), (1, .int x1), (2, .int (x2 + 1)), (3, .int y0)]) dX6_isSpelled_55 (by simp) rfl (by decide) rfl rfl ?_
    refine rn_goto (tgt := 2) dX6_isSpelled_58 (by decide) ?_
    refine Rn.sub (lv' := [(0, .ref 1), (1, .int x1), (2, .int (x2 + 1))]) (by simp) ?_
    exact h
  · refine rn_iconst (v := 0) dX6_isSpelled_53 rfl ?_
    exact rn_zret dX6_isSpelled_54 rfl (by decide) ⟨_, rfl, h⟩
theorem dX6_advance_0 : decode μX6_advance.2.1 0 = .ok (.aload_n 0, 1) := by decide +kernel
theorem dX6_advance_1 : decode μX6_advance.2.1 1 = .ok (.getfield 9, 3) := by decide +kernel
theorem dX6_advance_4 : decode μX6_advance.2.1 4 = .ok (.ifCond .eq 4, 3) := by decide +kernel
theorem dX6_advance_7 : decode μX6_advance.2.1 7 = .ok (.return_, 1) := by decide +kernel
theorem dX6_advance_8 : decode μX6_advance.2.1 8 = .ok (.iconst 0, 1) := by decide +kernel
theorem dX6_advance_9 : decode μX6_advance.2.1 9 = .ok (.istore_n 1, 1) := by decide +kernel
theorem dX6_advance_10 : decode μX6_advance.2.1 10 = .ok (.iload_n 1, 1) := by decide +kernel
theorem dX6_advance_11 : decode μX6_advance.2.1 11 = .ok (.sipush 1600, 3) := by decide +kernel
theorem dX6_advance_14 : decode μX6_advance.2.1 14 = .ok (.if_icmp .ge 58, 3) := by decide +kernel
theorem dX6_advance_17 : decode μX6_advance.2.1 17 = .ok (.aload_n 0, 1) := by decide +kernel
theorem dX6_advance_18 : decode μX6_advance.2.1 18 = .ok (.getfield 32, 3) := by decide +kernel
theorem dX6_advance_21 : decode μX6_advance.2.1 21 = .ok (.aload_n 0, 1) := by decide +kernel
theorem dX6_advance_22 : decode μX6_advance.2.1 22 = .ok (.getfield 18, 3) := by decide +kernel
theorem dX6_advance_25 : decode μX6_advance.2.1 25 = .ok (.if_icmp .ge 47, 3) := by decide +kernel
theorem dX6_advance_28 : decode μX6_advance.2.1 28 = .ok (.aload_n 0, 1) := by decide +kernel
theorem dX6_advance_29 : decode μX6_advance.2.1 29 = .ok (.getfield 28, 3) := by decide +kernel
theorem dX6_advance_32 : decode μX6_advance.2.1 32 = .ok (.aload_n 0, 1) := by decide +kernel
theorem dX6_advance_33 : decode μX6_advance.2.1 33 = .ok (.getfield 32, 3) := by decide +kernel
theorem dX6_advance_36 : decode μX6_advance.2.1 36 = .ok (.baload, 1) := by decide +kernel
theorem dX6_advance_37 : decode μX6_advance.2.1 37 = .ok (.bipush 32, 2) := by decide +kernel
theorem dX6_advance_39 : decode μX6_advance.2.1 39 = .ok (.if_icmp .eq 17, 3) := by decide +kernel
theorem dX6_advance_42 : decode μX6_advance.2.1 42 = .ok (.aload_n 0, 1) := by decide +kernel
theorem dX6_advance_43 : decode μX6_advance.2.1 43 = .ok (.getfield 28, 3) := by decide +kernel
theorem dX6_advance_46 : decode μX6_advance.2.1 46 = .ok (.aload_n 0, 1) := by decide +kernel
theorem dX6_advance_47 : decode μX6_advance.2.1 47 = .ok (.getfield 32, 3) := by decide +kernel
theorem dX6_advance_50 : decode μX6_advance.2.1 50 = .ok (.baload, 1) := by decide +kernel
theorem dX6_advance_51 : decode μX6_advance.2.1 51 = .ok (.bipush 10, 2) := by decide +kernel
theorem dX6_advance_53 : decode μX6_advance.2.1 53 = .ok (.if_icmp .ne 19, 3) := by decide +kernel
theorem dX6_advance_56 : decode μX6_advance.2.1 56 = .ok (.aload_n 0, 1) := by decide +kernel
theorem dX6_advance_57 : decode μX6_advance.2.1 57 = .ok (.dup, 1) := by decide +kernel
theorem dX6_advance_58 : decode μX6_advance.2.1 58 = .ok (.getfield 32, 3) := by decide +kernel
theorem dX6_advance_61 : decode μX6_advance.2.1 61 = .ok (.iconst 1, 1) := by decide +kernel
theorem dX6_advance_62 : decode μX6_advance.2.1 62 = .ok (.iadd, 1) := by decide +kernel
theorem dX6_advance_63 : decode μX6_advance.2.1 63 = .ok (.putfield 32, 3) := by decide +kernel
theorem dX6_advance_66 : decode μX6_advance.2.1 66 = .ok (.iinc 1 1, 3) := by decide +kernel
theorem dX6_advance_69 : decode μX6_advance.2.1 69 = .ok (.goto (-59), 3) := by decide +kernel
theorem dX6_advance_72 : decode μX6_advance.2.1 72 = .ok (.aload_n 0, 1) := by decide +kernel
theorem dX6_advance_73 : decode μX6_advance.2.1 73 = .ok (.aload_n 0, 1) := by decide +kernel
theorem dX6_advance_74 : decode μX6_advance.2.1 74 = .ok (.getfield 32, 3) := by decide +kernel
theorem dX6_advance_77 : decode μX6_advance.2.1 77 = .ok (.putfield 38, 3) := by decide +kernel
theorem dX6_advance_80 : decode μX6_advance.2.1 80 = .ok (.aload_n 0, 1) := by decide +kernel
theorem dX6_advance_81 : decode μX6_advance.2.1 81 = .ok (.iconst 0, 1) := by decide +kernel
theorem dX6_advance_82 : decode μX6_advance.2.1 82 = .ok (.putfield 35, 3) := by decide +kernel
theorem dX6_advance_85 : decode μX6_advance.2.1 85 = .ok (.aload_n 0, 1) := by decide +kernel
theorem dX6_advance_86 : decode μX6_advance.2.1 86 = .ok (.getfield 32, 3) := by decide +kernel
theorem dX6_advance_89 : decode μX6_advance.2.1 89 = .ok (.aload_n 0, 1) := by decide +kernel
theorem dX6_advance_90 : decode μX6_advance.2.1 90 = .ok (.getfield 18, 3) := by decide +kernel
theorem dX6_advance_93 : decode μX6_advance.2.1 93 = .ok (.if_icmp .lt 4, 3) := by decide +kernel
theorem dX6_advance_96 : decode μX6_advance.2.1 96 = .ok (.return_, 1) := by decide +kernel
theorem dX6_advance_97 : decode μX6_advance.2.1 97 = .ok (.aload_n 0, 1) := by decide +kernel
theorem dX6_advance_98 : decode μX6_advance.2.1 98 = .ok (.aload_n 0, 1) := by decide +kernel
theorem dX6_advance_99 : decode μX6_advance.2.1 99 = .ok (.getfield 32, 3) := by decide +kernel
theorem dX6_advance_102 : decode μX6_advance.2.1 102 = .ok (.invokevirtual 83, 3) := by decide +kernel
theorem dX6_advance_105 : decode μX6_advance.2.1 105 = .ok (.ifCond .eq 10, 3) := by decide +kernel
theorem dX6_advance_108 : decode μX6_advance.2.1 108 = .ok (.aload_n 0, 1) := by decide +kernel
theorem dX6_advance_109 : decode μX6_advance.2.1 109 = .ok (.invokevirtual 86, 3) := by decide +kernel
theorem dX6_advance_112 : decode μX6_advance.2.1 112 = .ok (.goto 79, 3) := by decide +kernel
theorem dX6_advance_115 : decode μX6_advance.2.1 115 = .ok (.aload_n 0, 1) := by decide +kernel
theorem dX6_advance_116 : decode μX6_advance.2.1 116 = .ok (.aload_n 0, 1) := by decide +kernel
theorem dX6_advance_117 : decode μX6_advance.2.1 117 = .ok (.getfield 32, 3) := by decide +kernel
theorem dX6_advance_120 : decode μX6_advance.2.1 120 = .ok (.invokevirtual 89, 3) := by decide +kernel
theorem dX6_advance_123 : decode μX6_advance.2.1 123 = .ok (.ifCond .eq 10, 3) := by decide +kernel
theorem dX6_advance_126 : decode μX6_advance.2.1 126 = .ok (.aload_n 0, 1) := by decide +kernel
theorem dX6_advance_127 : decode μX6_advance.2.1 127 = .ok (.invokevirtual 92, 3) := by decide +kernel
theorem dX6_advance_130 : decode μX6_advance.2.1 130 = .ok (.goto 61, 3) := by decide +kernel
theorem dX6_advance_133 : decode μX6_advance.2.1 133 = .ok (.ldc 95, 2) := by decide +kernel
theorem dX6_advance_135 : decode μX6_advance.2.1 135 = .ok (.aload_n 0, 1) := by decide +kernel
theorem dX6_advance_136 : decode μX6_advance.2.1 136 = .ok (.getfield 28, 3) := by decide +kernel
theorem dX6_advance_139 : decode μX6_advance.2.1 139 = .ok (.aload_n 0, 1) := by decide +kernel
theorem dX6_advance_140 : decode μX6_advance.2.1 140 = .ok (.getfield 32, 3) := by decide +kernel
theorem dX6_advance_143 : decode μX6_advance.2.1 143 = .ok (.baload, 1) := by decide +kernel
theorem dX6_advance_144 : decode μX6_advance.2.1 144 = .ok (.sipush 255, 3) := by decide +kernel
theorem dX6_advance_147 : decode μX6_advance.2.1 147 = .ok (.iand, 1) := by decide +kernel
theorem dX6_advance_148 : decode μX6_advance.2.1 148 = .ok (.i2c, 1) := by decide +kernel
theorem dX6_advance_149 : decode μX6_advance.2.1 149 = .ok (.invokevirtual 97, 3) := by decide +kernel
theorem dX6_advance_152 : decode μX6_advance.2.1 152 = .ok (.ifCond .lt 34, 3) := by decide +kernel
theorem dX6_advance_155 : decode μX6_advance.2.1 155 = .ok (.aload_n 0, 1) := by decide +kernel
theorem dX6_advance_156 : decode μX6_advance.2.1 156 = .ok (.iconst 3, 1) := by decide +kernel
theorem dX6_advance_157 : decode μX6_advance.2.1 157 = .ok (.putfield 35, 3) := by decide +kernel
theorem dX6_advance_160 : decode μX6_advance.2.1 160 = .ok (.aload_n 0, 1) := by decide +kernel
theorem dX6_advance_161 : decode μX6_advance.2.1 161 = .ok (.aload_n 0, 1) := by decide +kernel
theorem dX6_advance_162 : decode μX6_advance.2.1 162 = .ok (.getfield 28, 3) := by decide +kernel
theorem dX6_advance_165 : decode μX6_advance.2.1 165 = .ok (.aload_n 0, 1) := by decide +kernel
theorem dX6_advance_166 : decode μX6_advance.2.1 166 = .ok (.getfield 32, 3) := by decide +kernel
theorem dX6_advance_169 : decode μX6_advance.2.1 169 = .ok (.baload, 1) := by decide +kernel
theorem dX6_advance_170 : decode μX6_advance.2.1 170 = .ok (.putfield 44, 3) := by decide +kernel
theorem dX6_advance_173 : decode μX6_advance.2.1 173 = .ok (.aload_n 0, 1) := by decide +kernel
theorem dX6_advance_174 : decode μX6_advance.2.1 174 = .ok (.dup, 1) := by decide +kernel
theorem dX6_advance_175 : decode μX6_advance.2.1 175 = .ok (.getfield 32, 3) := by decide +kernel
theorem dX6_advance_178 : decode μX6_advance.2.1 178 = .ok (.iconst 1, 1) := by decide +kernel
theorem dX6_advance_179 : decode μX6_advance.2.1 179 = .ok (.iadd, 1) := by decide +kernel
theorem dX6_advance_180 : decode μX6_advance.2.1 180 = .ok (.putfield 32, 3) := by decide +kernel
theorem dX6_advance_183 : decode μX6_advance.2.1 183 = .ok (.goto 8, 3) := by decide +kernel
theorem dX6_advance_186 : decode μX6_advance.2.1 186 = .ok (.aload_n 0, 1) := by decide +kernel
theorem dX6_advance_187 : decode μX6_advance.2.1 187 = .ok (.iconst 1, 1) := by decide +kernel
theorem dX6_advance_188 : decode μX6_advance.2.1 188 = .ok (.invokevirtual 79, 3) := by decide +kernel
theorem dX6_advance_191 : decode μX6_advance.2.1 191 = .ok (.return_, 1) := by decide +kernel
set_option maxRecDepth 20000 in
theorem sg_X6_advance_0 {d : Nat}  {M : Mem} {K : (Mem → Prop)}  (h : (if ri M 1 0 = 0 then RV (d + 1) μX6_advance 10 [(0, .ref 1), (1, .int 0)] [] M K else K M)) : CV (d + 1) μX6_advance [.ref 1] M K := by
  show Rn (d + 1) μX6_advance 0 [(0, .ref 1)] [] M _
  refine rn_aload_n (i := 0) (x := 1) dX6_advance_0 rfl (by simp) ?_
  refine rn_geti dX6_advance_1 rfl gf_X6_9 (by decide) ?_
  refine rn_if_eq (tgt := 8) dX6_advance_4 (by decide) (ite_go h (fun hc h => ?_) (fun hc h => ?_))
  · refine rn_iconst (v := 0) dX6_advance_8 rfl ?_
    refine rn_istore_n (lv' := [(0, .ref 1), (1, .int 0)]) (hd := dX6_advance_9) (i := 1) (hi := rfl) (hn := by decide) (hf := rfl) (hl := rfl) ?_
    exact h
  · exact rn_ret dX6_advance_7 rfl ⟨rfl, h⟩
set_option maxRecDepth 20000 in
theorem sg_X6_advance_10 {d : Nat} {x1 : Int32} {M : Mem} {K : (Mem → Prop)}  (h : (if 1600 ≤ x1 then RV (d + 1) μX6_advance 72 [(0, .ref 1), (1, .int x1)] [] M K else (if ri M 1 2 ≤ ri M 1 5 then RV (d + 1) μX6_advance 72 [(0, .ref 1), (1, .int x1)] [] M K else (vp_in (ri M 1 5) 1600 ∧ (if ri M 14 (nx (ri M 1 5)) = 32 then (∀ M1, M1 = wi M 1 5 ((ri M 1 5) + 1) → RV (d + 1) μX6_advance 10 [(0, .ref 1), (1, .int (x1 + 1))] [] M1 K) else (vp_in (ri M 1 5) 1600 ∧ (if ri M 14 (nx (ri M 1 5)) = 10 then (∀ M2, M2 = wi M 1 5 ((ri M 1 5) + 1) → RV (d + 1) μX6_advance 10 [(0, .ref 1), (1, .int (x1 + 1))] [] M2 K) else RV (d + 1) μX6_advance 72 [(0, .ref 1), (1, .int x1)] [] M K))))))) : RV (d + 1) μX6_advance 10 [(0, .ref 1), (1, .int x1)] [] M K := by
  show Rn (d + 1) μX6_advance 10 [(0, .ref 1), (1, .int x1)] [] M _
  refine rn_iload_n (i := 1) (x := x1) dX6_advance_10 rfl (by simp) ?_
  refine rn_sipush (v := 1600) dX6_advance_11 rfl ?_
  refine rn_icmp_ge (tgt := 72) dX6_advance_14 (by decide) (ite_go h (fun hc h => ?_) (fun hc h => ?_))
  · exact h
  · refine rn_aload_n (i := 0) (x := 1) dX6_advance_17 rfl (by simp) ?_
    refine rn_geti dX6_advance_18 rfl gf_X6_32 (by decide) ?_
    refine rn_aload_n (i := 0) (x := 1) dX6_advance_21 rfl (by simp) ?_
    refine rn_geti dX6_advance_22 rfl gf_X6_18 (by decide) ?_
    refine rn_icmp_ge (tgt := 72) dX6_advance_25 (by decide) (ite_go h (fun hc h => ?_) (fun hc h => ?_))
    · exact h
    · refine rn_aload_n (i := 0) (x := 1) dX6_advance_28 rfl (by simp) ?_
      refine rn_getr (t := 14) dX6_advance_29 rfl gf_X6_28 rfl rfl ?_
      refine rn_aload_n (i := 0) (x := 1) dX6_advance_32 rfl (by simp) ?_
      refine rn_geti dX6_advance_33 rfl gf_X6_32 (by decide) ?_
      obtain ⟨hi, h⟩ := h
      refine rn_baload dX6_advance_36 rfl hi ?_
      refine rn_bipush (v := 32) dX6_advance_37 rfl ?_
      refine rn_icmp_eq (tgt := 56) dX6_advance_39 (by decide) (ite_go h (fun hc h => ?_) (fun hc h => ?_))
      · refine rn_aload_n (i := 0) (x := 1) dX6_advance_56 rfl (by simp) ?_
        refine rn_dup dX6_advance_57 rfl ?_
        refine rn_geti dX6_advance_58 rfl gf_X6_32 (by decide) ?_
        refine rn_iconst (v := 1) dX6_advance_61 rfl ?_
        refine rn_iadd dX6_advance_62 ?_
        have h := h _ rfl
        refine rn_puti dX6_advance_63 rfl pf_X6_32 (by decide) rfl rfl ?_
        generalize wi M 1 5 ((ri M 1 5) + 1) = M1 at h ⊢
        refine rn_iinc (x := x1) (v := x1 + 1) (lv' := [(0, .ref 1), (1, .int (x1 + 1))]) dX6_advance_66 (by simp) rfl (by decide) rfl rfl ?_
        refine rn_goto (tgt := 10) dX6_advance_69 (by decide) ?_
        exact h
      · refine rn_aload_n (i := 0) (x := 1) dX6_advance_42 rfl (by simp) ?_
        refine rn_getr (t := 14) dX6_advance_43 rfl gf_X6_28 rfl rfl ?_
        refine rn_aload_n (i := 0) (x := 1) dX6_advance_46 rfl (by simp) ?_
        refine rn_geti dX6_advance_47 rfl gf_X6_32 (by decide) ?_
        obtain ⟨hi, h⟩ := h
        refine rn_baload dX6_advance_50 rfl hi ?_
        refine rn_bipush (v := 10) dX6_advance_51 rfl ?_
        refine rn_icmp_ne (tgt := 72) dX6_advance_53 (by decide) (ite_go h (fun hc h => ?_) (fun hc h => ?_))
        · refine rn_aload_n (i := 0) (x := 1) dX6_advance_56 rfl (by simp) ?_
          refine rn_dup dX6_advance_57 rfl ?_
          refine rn_geti dX6_advance_58 rfl gf_X6_32 (by decide) ?_
          refine rn_iconst (v := 1) dX6_advance_61 rfl ?_
          refine rn_iadd dX6_advance_62 ?_
          have h := h _ rfl
          refine rn_puti dX6_advance_63 rfl pf_X6_32 (by decide) rfl rfl ?_
          generalize wi M 1 5 ((ri M 1 5) + 1) = M2 at h ⊢
          refine rn_iinc (x := x1) (v := x1 + 1) (lv' := [(0, .ref 1), (1, .int (x1 + 1))]) dX6_advance_66 (by simp) rfl (by decide) rfl rfl ?_
          refine rn_goto (tgt := 10) dX6_advance_69 (by decide) ?_
          exact h
        · exact h
set_option maxRecDepth 20000 in
theorem sg_X6_advance_72 {d : Nat} {x1 : Int32} {M : Mem} {K : (Mem → Prop)}  (h : (∀ M1, M1 = wi M 1 7 (ri M 1 5) → (∀ M2, M2 = wi M1 1 6 0 → (if ri M2 1 5 < ri M2 1 2 then (CI d μX6_isLetter [.ref 1, .int (ri M2 1 5)] M2 (fun r4 M3 => (if r4 = 0 then (CI d μX6_isDigit [.ref 1, .int (ri M3 1 5)] M3 (fun r6 M5 => (if r6 = 0 then (vp_in (ri M5 1 5) 1600 ∧ (CI d μJ0_indexOf_0f7a4 [.ref (102 + 2 * 0), .int ((((ri M5 14 (nx (ri M5 1 5))) &&& 255).toUInt32 % 65536).toInt32)] M5 (fun r8 M7 => (if r8 < 0 then (CV d μX6_blame [.ref 1, .int 1] M7 (fun M9 => K M9)) else (∀ M10, M10 = wi M7 1 6 3 → (vp_in (ri M10 1 5) 1600 ∧ (∀ M11, M11 = wi M10 1 9 (ri M10 14 (nx (ri M10 1 5))) → (∀ M12, M12 = wi M11 1 5 ((ri M11 1 5) + 1) → K M12)))))))) else (CV d μX6_scanNumber [.ref 1] M5 (fun M13 => K M13))))) else (CV d μX6_scanWord [.ref 1] M3 (fun M14 => K M14))))) else K M2)))) : RV (d + 1) μX6_advance 72 [(0, .ref 1), (1, .int x1)] [] M K := by
  show Rn (d + 1) μX6_advance 72 [(0, .ref 1), (1, .int x1)] [] M _
  refine rn_aload_n (i := 0) (x := 1) dX6_advance_72 rfl (by simp) ?_
  refine rn_aload_n (i := 0) (x := 1) dX6_advance_73 rfl (by simp) ?_
  refine rn_geti dX6_advance_74 rfl gf_X6_32 (by decide) ?_
  have h := h _ rfl
  refine rn_puti dX6_advance_77 rfl pf_X6_38 (by decide) rfl rfl ?_
  generalize wi M 1 7 (ri M 1 5) = M1 at h ⊢
  refine rn_aload_n (i := 0) (x := 1) dX6_advance_80 rfl (by simp) ?_
  refine rn_iconst (v := 0) dX6_advance_81 rfl ?_
  have h := h _ rfl
  refine rn_puti dX6_advance_82 rfl pf_X6_35 (by decide) rfl rfl ?_
  generalize wi M1 1 6 0 = M2 at h ⊢
  refine rn_aload_n (i := 0) (x := 1) dX6_advance_85 rfl (by simp) ?_
  refine rn_geti dX6_advance_86 rfl gf_X6_32 (by decide) ?_
  refine rn_aload_n (i := 0) (x := 1) dX6_advance_89 rfl (by simp) ?_
  refine rn_geti dX6_advance_90 rfl gf_X6_18 (by decide) ?_
  refine rn_icmp_lt (tgt := 97) dX6_advance_93 (by decide) (ite_go h (fun hc h => ?_) (fun hc h => ?_))
  · refine rn_aload_n (i := 0) (x := 1) dX6_advance_97 rfl (by simp) ?_
    refine rn_aload_n (i := 0) (x := 1) dX6_advance_98 rfl (by simp) ?_
    refine rn_geti dX6_advance_99 rfl gf_X6_32 (by decide) ?_
    refine rn_callVi (as := [.int (ri M2 1 5)]) (st := []) dX6_advance_102 mf_X6_isLetter lk_X6_83 im_X6_isLetter rfl rfl rfl rfl (Nat.le_of_ble_eq_true rfl) (Nat.le_of_ble_eq_true rfl) rfl (RI.mono h (fun r4 M3 h => ?_))
    refine rn_if_eq (tgt := 115) dX6_advance_105 (by decide) (ite_go h (fun hc h => ?_) (fun hc h => ?_))
    · refine rn_aload_n (i := 0) (x := 1) dX6_advance_115 rfl (by simp) ?_
      refine rn_aload_n (i := 0) (x := 1) dX6_advance_116 rfl (by simp) ?_
      refine rn_geti dX6_advance_117 rfl gf_X6_32 (by decide) ?_
      refine rn_callVi (as := [.int (ri M3 1 5)]) (st := []) dX6_advance_120 mf_X6_isDigit lk_X6_89 im_X6_isDigit rfl rfl rfl rfl (Nat.le_of_ble_eq_true rfl) (Nat.le_of_ble_eq_true rfl) rfl (RI.mono h (fun r6 M5 h => ?_))
      refine rn_if_eq (tgt := 133) dX6_advance_123 (by decide) (ite_go h (fun hc h => ?_) (fun hc h => ?_))
      · refine rn_ldcS (i := 0) dX6_advance_133 st_95 ?_
        refine rn_aload_n (i := 0) (x := 1) dX6_advance_135 rfl (by simp) ?_
        refine rn_getr (t := 14) dX6_advance_136 rfl gf_X6_28 rfl rfl ?_
        refine rn_aload_n (i := 0) (x := 1) dX6_advance_139 rfl (by simp) ?_
        refine rn_geti dX6_advance_140 rfl gf_X6_32 (by decide) ?_
        obtain ⟨hi, h⟩ := h
        refine rn_baload dX6_advance_143 rfl hi ?_
        refine rn_sipush (v := 255) dX6_advance_144 rfl ?_
        refine rn_iand dX6_advance_147 ?_
        refine rn_i2c dX6_advance_148 ?_
        refine rn_callT (i := 0) (as := [.int ((((ri M5 14 (nx (ri M5 1 5))) &&& 255).toUInt32 % 65536).toInt32)]) (st := []) (by decide) dX6_advance_149 mf_J0_indexOf_0f7a4 lk_X6_97 im_J0_indexOf_0f7a4 rfl rfl (Nat.le_of_ble_eq_true rfl) (Nat.le_of_ble_eq_true rfl) rfl (RI.mono h (fun r8 M7 h => ?_))
        refine rn_if_lt (tgt := 186) dX6_advance_152 (by decide) (ite_go h (fun hc h => ?_) (fun hc h => ?_))
        · refine rn_aload_n (i := 0) (x := 1) dX6_advance_186 rfl (by simp) ?_
          refine rn_iconst (v := 1) dX6_advance_187 rfl ?_
          refine rn_callVv (as := [.int 1]) (st := []) dX6_advance_188 mf_X6_blame lk_X6_79 im_X6_blame rfl rfl rfl rfl (Nat.le_of_ble_eq_true rfl) (Nat.le_of_ble_eq_true rfl) rfl (RV.mono h (fun M9 h => ?_))
          exact rn_ret dX6_advance_191 rfl ⟨rfl, h⟩
        · refine rn_aload_n (i := 0) (x := 1) dX6_advance_155 rfl (by simp) ?_
          refine rn_iconst (v := 3) dX6_advance_156 rfl ?_
          have h := h _ rfl
          refine rn_puti dX6_advance_157 rfl pf_X6_35 (by decide) rfl rfl ?_
          generalize wi M7 1 6 3 = M10 at h ⊢
          refine rn_aload_n (i := 0) (x := 1) dX6_advance_160 rfl (by simp) ?_
          refine rn_aload_n (i := 0) (x := 1) dX6_advance_161 rfl (by simp) ?_
          refine rn_getr (t := 14) dX6_advance_162 rfl gf_X6_28 rfl rfl ?_
          refine rn_aload_n (i := 0) (x := 1) dX6_advance_165 rfl (by simp) ?_
          refine rn_geti dX6_advance_166 rfl gf_X6_32 (by decide) ?_
          obtain ⟨hi, h⟩ := h
          refine rn_baload dX6_advance_169 rfl hi ?_
          have h := h _ rfl
          refine rn_puti dX6_advance_170 rfl pf_X6_44 (by decide) rfl rfl ?_
          generalize wi M10 1 9 (ri M10 14 (nx (ri M10 1 5))) = M11 at h ⊢
          refine rn_aload_n (i := 0) (x := 1) dX6_advance_173 rfl (by simp) ?_
          refine rn_dup dX6_advance_174 rfl ?_
          refine rn_geti dX6_advance_175 rfl gf_X6_32 (by decide) ?_
          refine rn_iconst (v := 1) dX6_advance_178 rfl ?_
          refine rn_iadd dX6_advance_179 ?_
          have h := h _ rfl
          refine rn_puti dX6_advance_180 rfl pf_X6_32 (by decide) rfl rfl ?_
          generalize wi M11 1 5 ((ri M11 1 5) + 1) = M12 at h ⊢
          refine rn_goto (tgt := 191) dX6_advance_183 (by decide) ?_
          exact rn_ret dX6_advance_191 rfl ⟨rfl, h⟩
      · refine rn_aload_n (i := 0) (x := 1) dX6_advance_126 rfl (by simp) ?_
        refine rn_callVv (as := []) (st := []) dX6_advance_127 mf_X6_scanNumber lk_X6_92 im_X6_scanNumber rfl rfl rfl rfl (Nat.le_of_ble_eq_true rfl) (Nat.le_of_ble_eq_true rfl) rfl (RV.mono h (fun M13 h => ?_))
        refine rn_goto (tgt := 191) dX6_advance_130 (by decide) ?_
        exact rn_ret dX6_advance_191 rfl ⟨rfl, h⟩
    · refine rn_aload_n (i := 0) (x := 1) dX6_advance_108 rfl (by simp) ?_
      refine rn_callVv (as := []) (st := []) dX6_advance_109 mf_X6_scanWord lk_X6_86 im_X6_scanWord rfl rfl rfl rfl (Nat.le_of_ble_eq_true rfl) (Nat.le_of_ble_eq_true rfl) rfl (RV.mono h (fun M14 h => ?_))
      refine rn_goto (tgt := 191) dX6_advance_112 (by decide) ?_
      exact rn_ret dX6_advance_191 rfl ⟨rfl, h⟩
  · exact rn_ret dX6_advance_96 rfl ⟨rfl, h⟩
