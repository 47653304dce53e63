/-! births keep shires good; bear -/
theorem tri_rot (a b c : Nat) : tri a b c = tri c a b := by unfold tri; rw [Nat.or_comm, ← Nat.or_assoc]
theorem n1_77 : ((List.range 8).all fun a => (List.range 8).all fun b => a == b || cnm (pr a b) [7, 7] == 0 || cnm (pr a b) [7, 7] == 2) = true := by decide +kernel
theorem bornC_perm {S : Sh} {m : Nat} (hS : SOk S) (h4 : N4 S) (hn : sn S < 8) (h3 : 3 ≤ sn S) (hm : m ∈ sc S) : ∃ x y z, m = tri x y z ∧ x ≠ y ∧ x ≠ z ∧ y ≠ z ∧ x < sn S ∧ y < sn S ∧ z < sn S ∧ (bornC S m).Perm (tri (sn S) x y :: tri (sn S) x z :: tri (sn S) y z :: tk m (sc S)) := by
  obtain ⟨a, b, c, e, ab, ac, bc, ta, tb, tc, a8, b8, c8⟩ := (hS.2.2.2.1 m hm).bits
  have la := h4.2 a (h4.1 m hm a ta)
  have lb := h4.2 b (h4.1 m hm b tb)
  have lc := h4.2 c (h4.1 m hm c tc)
  refine ⟨a, b, c, e, ab, ac, bc, la, lb, lc, ?_⟩
  unfold bornC
  rw [if_neg (by omega), if_neg (by omega)]
  refine (sortC_self _).trans ?_
  refine List.perm_append_comm.trans ?_
  have hp := ad_perm hn la lb lc ab ac bc
  rw [← e, tri_rot a b, tri_rot a c, tri_rot b c] at hp
  exact hp.append_right _
theorem GS_born {S : Sh} {v m : Nat} (h : GS S) (ha : AllT S) (hn : sn S < 8) (hv : v ≤ 999) (hm : 3 ≤ sn S → m ∈ sc S) : GS (bornS S v m) ∧ AllT (bornS S v m) := by
  have hlen := h.len ha hn
  have hal := all_n hn
  obtain ⟨hS, hs, h1, h4, hD, hl, hz⟩ := h
  have hT := born_T3 hS h4 hn hm
  have hsb : sb S ||| 2 ^ sn S = 2 ^ (sn S + 1) - 1 := by rw [show sb S = 2 ^ sn S - 1 from ha]; exact hal.1
  have hpc : pc8 (2 ^ (sn S + 1) - 1) = sn S + 1 := by
    by_cases h7 : sn S + 1 < 8
    · exact (all_n h7).2
    · rw [show sn S + 1 = 8 by omega]; decide
  have hcl : (bornC S m).length = 2 * (sn S + 1) - 4 := by
    unfold bornC
    split
    · show 0 = _; omega
    · split
      · rw [sortC_len]; show 2 = _; omega
      · have hmm := hm (by omega)
        have := tk_len hmm
        rw [sortC_len, List.length_append, ad_len hS h4 hn hmm]; omega
  have hsb256 : sb S ||| 2 ^ sn S < 256 := Nat.or_lt_two_pow (n := 8) hS.2.1 (Nat.pow_lt_pow_right (by decide) hn)
  have hcase : sn S < 2 ∧ bornC S m = [] ∨ sn S = 2 ∧ bornC S m = [7, 7] ∨ 3 ≤ sn S := by
    unfold bornC
    by_cases h2 : sn S < 2
    · left; exact ⟨h2, if_pos h2⟩
    · by_cases h3 : sn S = 2
      · right; left; exact ⟨h3, by rw [if_neg h2, if_pos h3]; decide⟩
      · right; right; omega
  have hbit : ∀ j, (sb S ||| 2 ^ sn S).testBit j = true ↔ ((sb S).testBit j = true ∨ sn S = j) := by
    intro j
    rw [Nat.testBit_or, Nat.testBit_two_pow, Bool.or_eq_true, decide_eq_true_iff]
  refine ⟨⟨⟨by show sn S + 1 ≤ 8; omega, hsb256, by show (bornC S m).length ≤ 12; omega, hT, hS.2.2.2.2.1, fun j => ?_⟩, ?_, ?_, ⟨?_, ?_⟩, ?_, ⟨?_, Or.inr ?_⟩, ?_⟩, hsb⟩
  · show (if j = sn S then v else sz S j) ≤ 999
    split
    · exact hv
    · exact hS.2.2.2.2.2 j
  · show srt (bornC S m)
    rcases hcase with ⟨_, q⟩ | ⟨_, q⟩ | q
    · rw [q]; intro i j _ hj; exact absurd hj (Nat.not_lt_zero _)
    · unfold bornC; rw [if_neg (by omega), if_pos (by assumption)]; exact sortC_srt _
    · unfold bornC; rw [if_neg (by omega), if_neg (by omega)]; exact sortC_srt _
  · show N1 (bornC S m)
    rcases hcase with ⟨_, q⟩ | ⟨_, q⟩ | q
    · rw [q]; intro a b _ _ _; left; rfl
    · rw [q]; intro a b ha hb hab
      have t := List.all_eq_true.mp (List.all_eq_true.mp n1_77 a (List.mem_range.mpr ha)) b (List.mem_range.mpr hb)
      rw [Bool.or_eq_true, Bool.or_eq_true] at t
      rcases t with (t | t) | t
      · exact absurd (by simpa using t) hab
      · left; simpa using t
      · right; simpa using t
    · obtain ⟨x, y, z, e, xy, xz, yz, lx, ly, lz, p2⟩ := bornC_perm hS h4 hn q (hm q)
      have p1 : (sc S).Perm (tri x y z :: tk m (sc S)) := by rw [← e]; exact (tk_perm (hm q)).symm
      exact N1_star h1 (a := sn S) (by omega) (by omega) (by omega) xy xz yz p1 p2 (fun w hw => by
        cases hb : w.testBit (sn S) with
        | false => rfl
        | true => have := h4.2 _ (h4.1 w (tk_mem hw) _ hb); omega)
  · show ∀ w ∈ bornC S m, ∀ j, w.testBit j = true → (sb S ||| 2 ^ sn S).testBit j = true
    intro w hw j hj
    rw [hbit]
    rcases hcase with ⟨_, q⟩ | ⟨q0, q⟩ | q
    · rw [q] at hw; cases hw
    · rw [q] at hw
      have : w = 7 := by simpa using hw
      rw [this] at hj
      have e : sb S = 3 := by rw [show sb S = 2 ^ sn S - 1 from ha, q0]
      rw [e, q0]
      have : (7 : Nat) = 3 ||| 2 ^ 2 := by decide
      rw [this, Nat.testBit_or, Nat.testBit_two_pow, Bool.or_eq_true, decide_eq_true_iff] at hj
      exact hj
    · obtain ⟨x, y, z, e, xy, xz, yz, lx, ly, lz, p2⟩ := bornC_perm hS h4 hn q (hm q)
      have hmb : ∀ j, (tri x y z).testBit j = true → (sb S).testBit j = true := fun j hj => h4.1 m (hm q) j (by rw [e]; exact hj)
      have bx' : (sb S).testBit x = true := hmb x (by rw [tri_tb]; simp)
      have by' : (sb S).testBit y = true := hmb y (by rw [tri_tb]; simp)
      have bz' : (sb S).testBit z = true := hmb z (by rw [tri_tb]; simp)
      have hw2 := p2.mem_iff.mp hw
      simp only [List.mem_cons] at hw2
      rcases hw2 with h | h | h | h
      · rw [h] at hj; rcases tri_in hj with r | r | r
        · exact Or.inr r.symm
        · rw [r]; exact Or.inl bx'
        · rw [r]; exact Or.inl by'
      · rw [h] at hj; rcases tri_in hj with r | r | r
        · exact Or.inr r.symm
        · rw [r]; exact Or.inl bx'
        · rw [r]; exact Or.inl bz'
      · rw [h] at hj; rcases tri_in hj with r | r | r
        · exact Or.inr r.symm
        · rw [r]; exact Or.inl by'
        · rw [r]; exact Or.inl bz'
      · exact Or.inl (h4.1 w (tk_mem h) j hj)
  · show ∀ j, (sb S ||| 2 ^ sn S).testBit j = true → j < sn S + 1
    intro j hj
    rcases (hbit j).mp hj with h | h
    · have := h4.2 j h; omega
    · omega
  · show DC (bornC S m)
    rcases hcase with ⟨_, q⟩ | ⟨_, q⟩ | q
    · rw [q]; intro P _; exact ⟨true, fun x hx => by cases hx⟩
    · rw [q]; intro P _; exact ⟨P 7, fun x hx => by rw [show x = 7 by simpa using hx]⟩
    · obtain ⟨x, y, z, e, xy, xz, yz, lx, ly, lz, p2⟩ := bornC_perm hS h4 hn q (hm q)
      have p1 : (sc S).Perm (tri x y z :: tk m (sc S)) := by rw [← e]; exact (tk_perm (hm q)).symm
      exact DC_star hD h1 (a := sn S) hn (by omega) (by omega) (by omega) (by omega) (by omega) (by omega) xy xz yz p1 p2 (fun w hw => by
        cases hb : w.testBit (sn S) with
        | false => rfl
        | true => have := h4.2 _ (h4.1 w (tk_mem hw) _ hb); omega)
  · show (bornC S m).length = 2 * pc8 (sb S ||| 2 ^ sn S) - 4
    rw [hsb, hpc]; exact hcl
  · show 1 ≤ pc8 (sb S ||| 2 ^ sn S)
    rw [hsb, hpc]; omega
  · intro j hj hb
    show (if j = sn S then v else sz S j) = 0
    have hb : (sb S ||| 2 ^ sn S).testBit j = false := hb
    by_cases hjn : j = sn S
    · rw [(hbit j).mpr (Or.inr hjn.symm)] at hb; cases hb
    · rw [if_neg hjn]
      refine hz j hj ?_
      cases hq : (sb S).testBit j with
      | false => rfl
      | true => rw [(hbit j).mpr (Or.inl hq)] at hb; cases hb
theorem c_bear {d o : Nat} (ho : kd o = (0, 2)) {K : Mem → Prop} {S : Sh} {M : Mem} {v m : Nat} (hF : Fr M o S) (h : GS S) (ha : AllT S) (hn : sn S < 8) (hv : v ≤ 999) (hm : 3 ≤ sn S → m ∈ sc S) (hm2 : m < 256) (hK : ∀ M', Sm M M' o → Fr M' o (bornS S v m) → K M') : CV (d + 2) μX2_bear [.ref o, .int (nI v), .int (nI m)] M K := by
  have hlen := h.len ha hn
  have hG := GS_born h ha hn hv hm
  obtain ⟨hS, hs, h1, h4, hD, hl, hz⟩ := h
  have h12 := hS.2.2.1
  have hal := all_n hn
  have hsb : sb S ||| 2 ^ sn S = 2 ^ (sn S + 1) - 1 := by rw [show sb S = 2 ^ sn S - 1 from ha]; exact hal.1
  have hsb256 : sb S ||| 2 ^ sn S < 256 := Nat.or_lt_two_pow (n := 8) hS.2.1 (Nat.pow_lt_pow_right (by decide) hn)
  have xn : nx (nI (sn S)) = sn S := nI_clamp (by omega)
  refine sg_X2_bear_0 ho ?_
  rw [hF.1.1, if_pos (by rw [show (8 : Int32) = nI 8 from rfl, nI_ltI (by omega) (by omega)]; exact hn), nI_1, xn]
  intro M1 g1 M2 g2
  have r1 : ∀ k j, ri M1 k j = if k = o ∧ j = 0 then nI (sn S + 1) else ri M k j := by intro k j; rw [g1, ri_wi]
  rw [show ri M1 o 1 = nI (sb S) by rw [r1, if_neg (by omega)]; exact hF.1.2.1, n_shl (by omega), n_or] at g2
  have r2 : ∀ k j, ri M2 k j = if k = o ∧ j = 1 then nI (sb S ||| 2 ^ sn S) else ri M1 k j := by intro k j; rw [g2, ri_wi]
  refine ⟨n_in hn (by decide), fun M3 g3 => ?_⟩
  have r3 : ∀ k j, ri M3 k j = if k = o + 1 ∧ j = sn S then nI v else ri M2 k j := by intro k j; rw [g3, ri_wi]
  have rr : ∀ k j, ¬ (k = o ∧ j = 0) → ¬ (k = o ∧ j = 1) → ¬ (k = o + 1 ∧ j = sn S) → ri M3 k j = ri M k j := by
    intro k j a b c; rw [r3, if_neg c, r2, if_neg b, r1, if_neg a]
  have sm3 : Sm M M3 o := ⟨fun k hk j => rr k j (by omega) (by omega) (by omega), fun k j => by rw [g3, g2, g1]; rfl⟩
  have hS3 : SOk (sn S + 1, sb S ||| 2 ^ sn S, sy S, sd S, sc S, fun j => if j = sn S then v else sz S j) := ⟨by show sn S + 1 ≤ 8; omega, hsb256, hS.2.2.1, hS.2.2.2.1, hS.2.2.2.2.1, hG.1.1.2.2.2.2.2⟩
  have F3 : FB M3 o (sn S + 1, sb S ||| 2 ^ sn S, sy S, sd S, sc S, fun j => if j = sn S then v else sz S j) := by
    refine ⟨?_, ?_, ?_, ?_, ?_, fun j hj => ?_, fun i hi => ?_⟩
    · rw [r3, if_neg (by omega), r2, if_neg (by omega), r1, if_pos ⟨rfl, rfl⟩]; rfl
    · rw [r3, if_neg (by omega), r2, if_pos ⟨rfl, rfl⟩]; rfl
    · rw [rr _ _ (by omega) (by omega) (by omega)]; exact hF.1.2.2.1
    · rw [rr _ _ (by omega) (by omega) (by omega)]; exact hF.1.2.2.2.1
    · rw [rr _ _ (by omega) (by omega) (by omega)]; exact hF.1.2.2.2.2.1
    · show ri M3 (o + 1) j = nI (if j = sn S then v else sz S j)
      by_cases hjn : j = sn S
      · rw [r3, if_pos ⟨rfl, hjn⟩, if_pos hjn]
      · rw [rr _ _ (by omega) (by omega) (by omega), if_neg hjn]; exact hF.1.2.2.2.2.2.1 j hj
    · rw [rr _ _ (by omega) (by omega) (by omega)]; exact hF.1.2.2.2.2.2.2 i hi
  rw [show ri M3 o 0 = nI (sn S + 1) from F3.1]
  by_cases h2 : sn S = 2
  · have hnil : sc S = [] := List.length_eq_zero_iff.mp (by omega)
    rw [if_pos (by rw [h2]; rfl), show ri M3 o 1 = nI 7 by rw [show ri M3 o 1 = nI (sb S ||| 2 ^ sn S) from F3.2.1, hsb, h2]]
    refine c_addCorner ho F3 (by rw [show sc (sn S + 1, sb S ||| 2 ^ sn S, sy S, sd S, sc S, fun j => if j = sn S then v else sz S j) = sc S from rfl, hnil]; decide) (fun M4 s4 F4 => ?_)
    rw [show ri M4 o 1 = nI 7 by rw [show ri M4 o 1 = nI (sb S ||| 2 ^ sn S) from F4.2.1, hsb, h2]]
    refine c_addCorner ho F4 (by rw [sc_setC, show sc (sn S + 1, sb S ||| 2 ^ sn S, sy S, sd S, sc S, fun j => if j = sn S then v else sz S j) = sc S from rfl, hnil]; decide) (fun M5 s5 F5 => ?_)
    refine c_settle ho F5 ?_ (fun M6 s6 F6 => ?_)
    · have q := hS3.set (C := sc S ++ [7] ++ [7]) (by rw [hnil]; decide) (fun x hx => by rw [hnil] at hx; rw [show x = 7 by simpa using hx]; exact ⟨by decide, by decide⟩)
      exact q
    · refine hK M6 (((sm3.trans s4.sm).trans s5.sm).trans s6) ?_
      have e : bornS S v m = setC (setC (setC (sn S + 1, sb S ||| 2 ^ sn S, sy S, sd S, sc S, fun j => if j = sn S then v else sz S j) (sc S ++ [7])) (sc S ++ [7] ++ [7])) (sortC (sc S ++ [7] ++ [7])) := by
        unfold bornS bornC
        rw [if_neg (by omega), if_pos h2, hnil]; rfl
      rw [e]; exact F6
  · rw [if_neg (fun q => h2 (by have := nI_inj (b := 3) (by omega) (by omega) q; omega))]
    by_cases h3 : sn S < 2
    · have hnil : sc S = [] := List.length_eq_zero_iff.mp (by omega)
      rw [if_pos (by rw [show (3 : Int32) = nI 3 from rfl, nI_leI (by omega) (by omega)]; omega)]
      refine c_settle ho F3 hS3 (fun M6 s6 F6 => hK M6 (sm3.trans s6) ?_)
      have e : bornS S v m = setC (sn S + 1, sb S ||| 2 ^ sn S, sy S, sd S, sc S, fun j => if j = sn S then v else sz S j) (sortC (sc S)) := by
        unfold bornS bornC
        rw [if_pos h3, hnil]; rfl
      rw [e]; exact F6
    · rw [if_neg (by rw [show (3 : Int32) = nI 3 from rfl, nI_leI (by omega) (by omega)]; omega)]
      have hmm := hm (by omega)
      have hadl := ad_len hS h4 hn hmm
      refine c_dropOne ho F3 hS3 hmm hm2 (fun M4 C s4 hp F4 => ?_)
      have hCl : C.length + 1 = (sc S).length := hp.length_eq
      have hCt : C.Perm (tk m (sc S)) := List.Perm.cons_inv (hp.trans (tk_perm hmm).symm)
      have loop : ∀ (k q : Nat) (M5 : Mem), k + q = sn S → Sm M M5 o → FB M5 o (setC (sn S + 1, sb S ||| 2 ^ sn S, sy S, sd S, sc S, fun j => if j = sn S then v else sz S j) (C ++ adF m (sn S) q)) → RV (d + 2) μX2_bear 87 [(0, .ref o), (1, .int (nI v)), (2, .int (nI m)), (3, .int (nI (sn S))), (4, .int (nI q))] [] M5 K := by
        intro k
        induction k with
        | zero =>
          intro q M5 hq s5 F5
          have hq : q = sn S := by omega
          subst hq
          refine sg_X2_bear_87 ho ?_
          rw [if_pos (by rw [nI_leI (by omega) (by omega)]; omega)]
          have hpp : (C ++ adF m (sn S) (sn S)).Perm (tk m (sc S) ++ adC m (sn S)) := hCt.append_right _
          have hTT : ∀ x ∈ C ++ adF m (sn S) (sn S), T3 x := fun x hx => by
            have := born_T3 hS h4 hn hm
            unfold bornC at this
            rw [if_neg h3, if_neg h2] at this
            exact this x ((sortC_mem _).mpr (hpp.mem_iff.mp hx))
          refine c_settle ho F5 (hS3.set ?_ hTT) (fun M6 s6 F6 => hK M6 (s5.trans s6) ?_)
          · rw [hpp.length_eq, List.length_append, hadl]; have := tk_len hmm; omega
          · have e : bornS S v m = setC (setC (sn S + 1, sb S ||| 2 ^ sn S, sy S, sd S, sc S, fun j => if j = sn S then v else sz S j) (C ++ adF m (sn S) (sn S))) (sortC (C ++ adF m (sn S) (sn S))) := by
              unfold bornS bornC
              rw [if_neg h3, if_neg h2, sortC_perm hpp hTT]; rfl
            rw [e]; exact F6
        | succ k ih =>
          intro q M5 hq s5 F5
          refine sg_X2_bear_87 ho ?_
          rw [if_neg (by rw [nI_leI (by omega) (by omega)]; omega), n_bit (by omega) (by omega), nI_1]
          have ihq := ih (q + 1)
          have ef : adF m (sn S) (q + 1) = if m.testBit q = true then adF m (sn S) q ++ [clr m (2 ^ q) ||| 2 ^ sn S] else adF m (sn S) q := rfl
          by_cases hb : m.testBit q = true
          · rw [if_pos hb] at ef
            rw [if_pos hb, if_pos rfl, n_shl (by omega), n_shl (by omega), n_clr, n_or]
            have hmono := adF_mono m (sn S) (sn S - (q + 1)) (q + 1)
            rw [show q + 1 + (sn S - (q + 1)) = sn S by omega, ef, List.length_append] at hmono
            have hadl' : (adF m (sn S) (sn S)).length = 3 := hadl
            refine c_addCorner ho F5 ?_ (fun M6 s6 F6 => ihq M6 (by omega) (s5.trans s6.sm) ?_)
            · rw [sc_setC, List.length_append]
              have : [clr m (2 ^ q) ||| 2 ^ sn S].length = 1 := rfl
              omega
            · rw [ef, ← List.append_assoc]; exact F6
          · rw [if_neg hb] at ef
            rw [if_neg hb, if_neg (by decide)]
            refine ihq M5 (by omega) s5 ?_
            rw [ef]; exact F5
      refine loop (sn S) 0 M4 rfl (sm3.trans s4.sm) ?_
      rw [show C ++ adF m (sn S) 0 = C from List.append_nil C]; exact F4
