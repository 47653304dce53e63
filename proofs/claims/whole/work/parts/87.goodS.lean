/-! good shires, and that seasons and acts stay among them -/
def GS (S : Sh) : Prop := SOk S ∧ srt (sc S) ∧ N1 (sc S) ∧ N4 S ∧ DC (sc S) ∧ ((sc S).length = 2 * pc8 (sb S) - 4 ∧ (sn S = 0 ∨ 1 ≤ pc8 (sb S))) ∧ ∀ j, j < 8 → (sb S).testBit j = false → sz S j = 0
theorem pf_drp (b : Nat) (C : List Nat) : C.Perm (pf b C ++ drp b C) := (List.filter_append_perm (fun m => decide (m &&& b = b)) C).symm
theorem fold_self : ∀ (X acc : List Nat), (X.foldl (fun acc m => ins m acc) acc).Perm (X ++ acc)
  | [], _ => List.Perm.refl _
  | m :: X, acc => by
    rw [List.foldl_cons]
    refine (fold_self X (ins m acc)).trans ?_
    refine ((ins_perm m acc).append_left X).trans ?_
    exact List.perm_middle
theorem sortC_self (X : List Nat) : (sortC X).Perm X := by
  have := fold_self X []
  rw [List.append_nil] at this
  exact this
theorem pc8_clr : ∀ b, b < 256 → ∀ p, p < 8 → b.testBit p = true → pc8 (clr b (2 ^ p)) + 1 = pc8 b := by decide +kernel
theorem tri_mem {S : Sh} (h4 : N4 S) {a b c : Nat} (h : tri a b c ∈ sc S) : ((sb S).testBit a = true ∧ a < sn S) ∧ ((sb S).testBit b = true ∧ b < sn S) ∧ ((sb S).testBit c = true ∧ c < sn S) := by
  have h1 := h4.1 _ h a (by rw [tri_tb]; simp)
  have h2 := h4.1 _ h b (by rw [tri_tb]; simp)
  have h3 := h4.1 _ h c (by rw [tri_tb]; simp)
  exact ⟨⟨h1, h4.2 _ h1⟩, ⟨h2, h4.2 _ h2⟩, ⟨h3, h4.2 _ h3⟩⟩
theorem tri_in {a b c j : Nat} (h : (tri a b c).testBit j = true) : j = a ∨ j = b ∨ j = c := by
  rw [tri_tb] at h
  simp at h
  omega
/-- the two corners at a wall -/
theorem wall_at {S : Sh} (h : GS S) {a b : Nat} (ha : a < sn S) (hb : b < sn S) (hab : a ≠ b) (hm : (nbm (sc S) a).testBit b = true) : cnm (pr a b) (sc S) = 2 ∧ ∃ c e, c < sn S ∧ e < sn S ∧ c ≠ a ∧ c ≠ b ∧ e ≠ a ∧ e ≠ b ∧ enm (pr a b) (sc S) = 2 ^ c ||| 2 ^ e ∧ tri a b c ∈ sc S ∧ tri a b e ∈ sc S ∧ (sc S).Perm (tri a b c :: tri a b e :: drp (pr a b) (sc S)) := by
  obtain ⟨hS, hs, h1, h4, hD, hl, hz⟩ := h
  have h8 := hS.1
  have hp := (nbm_tb hab).mp hm
  have h2 : cnm (pr a b) (sc S) = 2 := by
    rcases h1 a b (by omega) (by omega) hab with q | q
    · omega
    · exact q
  refine ⟨h2, ?_⟩
  obtain ⟨c, e, hc, he, hca, hcb, hea, heb, hpf, -, -, hen, -⟩ := two_at hS.2.2.2.1 (by omega) (by omega) hab h2
  have p := pf_drp (pr a b) (sc S)
  rw [hpf] at p
  have m1 : tri a b c ∈ sc S := p.mem_iff.mpr (by simp)
  have m2 : tri a b e ∈ sc S := p.mem_iff.mpr (by simp)
  exact ⟨c, e, (tri_mem h4 m1).2.2.2, (tri_mem h4 m2).2.2.2, hca, hcb, hea, heb, hen, m1, m2, p⟩
theorem drp_ab {C : List Nat} {a b m : Nat} (h : m ∈ drp (pr a b) C) : m ∈ C ∧ ¬ (m.testBit a = true ∧ m.testBit b = true) := by
  have := List.mem_filter.mp h
  refine ⟨this.1, fun q => ?_⟩
  have h2 := this.2
  rw [decide_eq_true (and_pr.mpr q)] at h2
  cases h2
theorem nbm_f {C : List Nat} {a b : Nat} (hab : a ≠ b) (h : (nbm C a).testBit b = false) : cnm (pr a b) C = 0 := by
  by_cases q : 0 < cnm (pr a b) C
  · rw [(nbm_tb hab).mpr q] at h; cases h
  · omega
theorem GS_flip {S : Sh} (h : GS S) {a b : Nat} (ha : a < sn S) (hb : b < sn S) (hf : fe S a b ≠ 0) : GS (flipS S a b) := by
  have hG := h
  obtain ⟨hS, hs, h1, h4, hD, hl, hz⟩ := h
  have h8 := hS.1
  obtain ⟨f1, -, -, -, -, f6, -⟩ := fe_pos hf
  have hab : a ≠ b := by
    intro q
    rw [q, mtI_self b (by omega)] at f1
    cases f1
  rw [mtI_nat hS ha hb] at f1
  obtain ⟨h2, c, e, hc, he, hca, hcb, hea, heb, hen, m1, m2, p⟩ := wall_at hG ha hb hab f1
  obtain ⟨hce, hn, -, -⟩ := (fe_iff hS h1 h4 ha hb hab f1 (by omega) (by omega) hc he h2 hen).mp hf
  have hcd : cnm (pr c e) (sc S) = 0 := nbm_f hce hn
  have hsc : sc (flipS S a b) = sortC (drp (pr a b) (sc S) ++ [tri a c e] ++ [tri b c e]) := by
    show sortC (drp (pr a b) (sc S) ++ [fe S a b ||| 2 ^ a] ++ [fe S a b ||| 2 ^ b]) = _
    rw [f6, hen, tri_acd, tri_acd]
  have p2 : (sc (flipS S a b)).Perm (tri b c e :: tri a c e :: drp (pr a b) (sc S)) := by
    rw [hsc]
    refine (sortC_self _).trans ?_
    rw [List.append_assoc]
    refine List.perm_append_comm.trans ?_
    exact List.Perm.swap _ _ _
  have hok := flipS_ok hS (by omega) (by omega) hf
  refine ⟨hok.1, ?_, N1_flip h1 hab hca.symm hea.symm hcb.symm heb.symm hce (by omega) (by omega) p p2 hcd h2, ⟨?_, h4.2⟩, DC_flip hD (by omega) (by omega) (by omega) (by omega) hab hca.symm hea.symm hcb.symm heb.symm hce p p2 hcd h2, ?_, hz⟩
  · rw [hsc]; exact sortC_srt _
  · intro m hm j hj
    rcases List.mem_cons.mp (p2.mem_iff.mp hm) with rfl | hm
    · rcases tri_in hj with rfl | rfl | rfl
      · exact (tri_mem h4 m1).2.1.1
      · exact (tri_mem h4 m1).2.2.1
      · exact (tri_mem h4 m2).2.2.1
    rcases List.mem_cons.mp hm with rfl | hm
    · rcases tri_in hj with rfl | rfl | rfl
      · exact (tri_mem h4 m1).1.1
      · exact (tri_mem h4 m1).2.2.1
      · exact (tri_mem h4 m2).2.2.1
    · exact h4.1 m (drp_ab hm).1 j hj
  · have q1 := p.length_eq
    have q2 := p2.length_eq
    rw [List.length_cons, List.length_cons] at q1 q2
    refine ⟨?_, hl.2⟩
    show (sc (flipS S a b)).length = 2 * pc8 (sb S) - 4
    have := hl.1
    omega
theorem nbm_self (C : List Nat) (p : Nat) : (nbm C p).testBit p = false := by
  unfold nbm
  rw [clr_tb, Nat.testBit_two_pow]; simp
theorem GS_van {S : Sh} (h : GS S) {p : Nat} (hp : p < sn S) (h3 : dgm (sc S) p = 3) (ht : 3 < pc8 (sb S)) (hth : (sb S).testBit p = true) : GS (vanS S p) := by
  have hG := h
  obtain ⟨hS, hs, h1, h4, hD, hl, hz⟩ := h
  have h8 := hS.1
  obtain ⟨hT, mA, mB, mC, -⟩ := three_at hS.2.2.2.1 h1 (show p < 8 by omega) h3
  have hdr := vanS_ref hS hs h1 (show p < 8 by omega) h3
  obtain ⟨x8, y8, z8, hxy, hxz, hyz, htr, tx, ty, tz⟩ := bxyz (nbm (sc S) p) hT.1 hT.2
  have hself := nbm_self (sc S) p
  generalize hx : bx (nbm (sc S) p) = x at *
  generalize hy : bY (nbm (sc S) p) = y at *
  generalize hzz : bz (nbm (sc S) p) = z at *
  have hpx : p ≠ x := by intro q; rw [q] at hself; rw [q, hself] at tx; cases tx
  have hpy : p ≠ y := by intro q; rw [q] at hself; rw [q, hself] at ty; cases ty
  have hpz : p ≠ z := by intro q; rw [q] at hself; rw [q, hself] at tz; cases tz
  have nAB : tri p x y ≠ tri p x z := by
    intro q
    have : (tri p x y).testBit y = (tri p x z).testBit y := by rw [q]
    rw [tri_tb, tri_tb] at this
    simp [hpy, hxy, hyz.symm] at this
  have nAC : tri p x y ≠ tri p y z := by
    intro q
    have : (tri p x y).testBit x = (tri p y z).testBit x := by rw [q]
    rw [tri_tb, tri_tb] at this
    simp [hpx, hxy.symm, hxz.symm] at this
  have nBC : tri p x z ≠ tri p y z := by
    intro q
    have : (tri p x z).testBit x = (tri p y z).testBit x := by rw [q]
    rw [tri_tb, tri_tb] at this
    simp [hpx, hxy.symm, hxz.symm] at this
  have p1 : (sc S).Perm (tri p x y :: tri p x z :: tri p y z :: drp (2 ^ p) (sc S)) := by
    rw [hdr]
    have mB' : tri p x z ∈ tk (tri p x y) (sc S) := tk_keep nAB.symm mB
    have mC' : tri p y z ∈ tk (tri p x z) (tk (tri p x y) (sc S)) := tk_keep nBC.symm (tk_keep nAC.symm mC)
    exact ((tk_perm mA).symm).trans (List.Perm.cons _ (((tk_perm mB').symm).trans (List.Perm.cons _ ((tk_perm mC').symm))))
  have hsc : sc (vanS S p) = sortC (drp (2 ^ p) (sc S) ++ [tri x y z]) := by
    show sortC (drp (2 ^ p) (sc S) ++ [nbm (sc S) p]) = _
    rw [htr]
  have p2 : (sc (vanS S p)).Perm (tri x y z :: drp (2 ^ p) (sc S)) := by
    rw [hsc]
    refine (sortC_self _).trans ?_
    exact List.perm_append_comm
  have hDp : ∀ m ∈ drp (2 ^ p) (sc S), m.testBit p = false := by
    intro m hm
    have := (List.mem_filter.mp hm).2
    cases hq : m.testBit p with
    | false => rfl
    | true => rw [decide_eq_true (pow_and.mpr hq)] at this; cases this
  have q1 := p1.length_eq
  have q2 := p2.length_eq
  rw [List.length_cons, List.length_cons, List.length_cons] at q1
  rw [List.length_cons] at q2
  have q3 := pc8_clr (sb S) hS.2.1 p (by omega) hth
  have hTT : ∀ m ∈ sc (vanS S p), T3 m := by
    intro m hm
    rcases List.mem_cons.mp (p2.mem_iff.mp hm) with rfl | hm
    · rw [htr]; exact hT
    · exact hS.2.2.2.1 m (List.mem_filter.mp hm).1
  refine ⟨⟨hS.1, clr_lt (n := 8) hS.2.1, by have := hS.2.2.1; omega, hTT, hS.2.2.2.2.1, ?_⟩, ?_, N1_unstar h1 hpx hpy hpz hxy hxz hyz p1 p2 hDp, ⟨?_, ?_⟩, DC_unstar hD hpx hpy hpz hxy hxz hyz p1 p2 hDp, ?_, ?_⟩
  · intro j
    show (if j = p then 0 else sz S j) ≤ 999
    split
    · omega
    · exact hS.2.2.2.2.2 j
  · rw [hsc]; exact sortC_srt _
  · intro m hm j hj
    show (clr (sb S) (2 ^ p)).testBit j = true
    rw [clr_tb, Nat.testBit_two_pow]
    rcases List.mem_cons.mp (p2.mem_iff.mp hm) with rfl | hm
    · rcases tri_in hj with rfl | rfl | rfl
      · rw [(tri_mem h4 mA).2.1.1, decide_eq_false hpx]; rfl
      · rw [(tri_mem h4 mA).2.2.1, decide_eq_false hpy]; rfl
      · rw [(tri_mem h4 mB).2.2.1, decide_eq_false hpz]; rfl
    · have : p ≠ j := by intro q; subst q; rw [hDp m hm] at hj; cases hj
      rw [h4.1 m (List.mem_filter.mp hm).1 j hj, decide_eq_false this]; rfl
  · intro j hj
    have hj' : (clr (sb S) (2 ^ p)).testBit j = true := hj
    rw [clr_tb, Bool.and_eq_true] at hj'
    exact h4.2 j hj'.1
  · refine ⟨?_, Or.inr ?_⟩
    · show (sc (vanS S p)).length = 2 * pc8 (clr (sb S) (2 ^ p)) - 4
      have := hl.1
      omega
    · show 1 ≤ pc8 (clr (sb S) (2 ^ p))
      omega
  · intro j hj hb
    show (if j = p then 0 else sz S j) = 0
    by_cases hjp : j = p
    · rw [if_pos hjp]
    · rw [if_neg hjp]
      have hb' : (clr (sb S) (2 ^ p)).testBit j = false := hb
      rw [clr_tb, Nat.testBit_two_pow, decide_eq_false (fun q => hjp q.symm), Bool.not_false, Bool.and_true] at hb'
      exact hz j hj hb'
theorem two_onlyB : ((List.range 256).all fun m => !(pc8 m == 2) || (List.range 8).all fun c => !(m.testBit c) || (List.range 8).all fun e => !(m.testBit e) || c == e || (List.range 8).all fun v => !(m.testBit v) || v == c || v == e) = true := by decide +kernel
theorem two_only {m c e v : Nat} (hm : m < 256) (h2 : pc8 m = 2) (hc : c < 8) (he : e < 8) (hce : c ≠ e) (tc : m.testBit c = true) (te : m.testBit e = true) (hv : v < 8) (h1 : v ≠ c) (h3 : v ≠ e) : m.testBit v = false := by
  have g := List.all_eq_true.mp two_onlyB m (List.mem_range.mpr hm)
  rw [h2] at g
  simp at g
  rcases g c hc with g | g
  · rw [tc] at g; cases g
  rcases g e he with (g | g) | g
  · rw [te] at g; cases g
  · exact absurd g hce
  rcases g v hv with (g | g) | g
  · exact g
  · exact absurd g h1
  · exact absurd g h3
theorem nbm_lt8 {S : Sh} (hS : SOk S) (p : Nat) : nbm (sc S) p < 256 := nbm_lt (n := 8) (fun m hm => (hS.2.2.2.1 m hm).1)
theorem GS_pop {S : Sh} (h : GS S) {a b : Nat} (ha : a < sn S) (hb : b < sn S) (hcm : cmI S (nI a) (nI b) = true) : GS (mgS S a b) := by
  have hG := h
  obtain ⟨hS, hs, h1, h4, hD, hl, hz⟩ := h
  have h8 := hS.1
  have hab : a ≠ b := by
    intro q
    unfold cmI at hcm
    rw [q, mtI_self b (by omega)] at hcm
    cases hcm
  rw [cmI_nat hS ha hb, Bool.and_eq_true, Bool.and_eq_true, decide_eq_true_iff, decide_eq_true_iff] at hcm
  obtain ⟨⟨hm, ht⟩, h2c⟩ := hcm
  obtain ⟨h2, c, e, hc, he, hca, hcb, hea, heb, hen, m1, m2, p⟩ := wall_at hG ha hb hab hm
  have hce : c ≠ e := by
    intro q
    subst q
    exact ce_ne hD (by have := hl.1; omega) h2 p
  have bord : ∀ u v w, tri u v w ∈ sc S → u ≠ w → v ≠ w → (nbm (sc S) u).testBit w = true ∧ (nbm (sc S) v).testBit w = true := by
    intro u v w hm hu hv
    refine ⟨(nbm_tb hu).mpr ?_, (nbm_tb hv).mpr ?_⟩
    · exact List.countP_pos_iff.mpr ⟨_, hm, by rw [decide_eq_true_iff, tri_pr]; simp⟩
    · exact List.countP_pos_iff.mpr ⟨_, hm, by rw [decide_eq_true_iff, tri_pr]; simp⟩
  have bc := bord a b c m1 hca.symm hcb.symm
  have be := bord a b e m2 hea.symm heb.symm
  have hand : nbm (sc S) a &&& nbm (sc S) b < 256 := Nat.lt_of_le_of_lt Nat.and_le_left (nbm_lt8 hS a)
  have hcom : ∀ v, v < 8 → v ≠ a → v ≠ b → v ≠ c → v ≠ e → cnm (pr a v) (sc S) = 0 ∨ cnm (pr b v) (sc S) = 0 := by
    intro v hv hva hvb hvc hve
    have := two_only hand h2c (by omega) (by omega) hce (by rw [Nat.testBit_and, bc.1, bc.2]; rfl) (by rw [Nat.testBit_and, be.1, be.2]; rfl) hv hvc hve
    rw [Nat.testBit_and, Bool.and_eq_false_iff] at this
    rcases this with q | q
    · left; exact nbm_f (fun h => hva h.symm) q
    · right; exact nbm_f (fun h => hvb h.symm) q
  have hDab : ∀ m ∈ drp (pr a b) (sc S), ¬ (m.testBit a = true ∧ m.testBit b = true) := fun m hm => (drp_ab hm).2
  have p2 : (sc (mgS S a b)).Perm ((drp (pr a b) (sc S)).map (rpl a b)) := sortC_self _
  have hbt := (tri_mem h4 m1).2.1.1
  have q3 := pc8_clr (sb S) hS.2.1 b (by omega) hbt
  have q1 := p.length_eq
  have q2 := p2.length_eq
  rw [List.length_cons, List.length_cons] at q1
  rw [List.length_map] at q2
  refine ⟨⟨hS.1, clr_lt (n := 8) hS.2.1, by have := hS.2.2.1; omega, ?_, hS.2.2.2.2.1, ?_⟩, sortC_srt _, N1_pop h1 (by omega) (by omega) (by omega) (by omega) hab hca.symm hea.symm hcb.symm heb.symm hce p p2 hDab hcom, ⟨?_, ?_⟩, DC_pop hD hS.2.2.2.1 h1 (by omega) (by omega) (by omega) (by omega) hab hca.symm hea.symm hcb.symm heb.symm hce p p2 hDab hcom, ?_, ?_⟩
  · intro m hm
    exact mgC_T3 (by omega) (by omega) hS.2.2.2.1 m ((sortC_mem _).mp hm)
  · intro j
    show (if j = b then 0 else if j = a then (if sz S a + sz S b < 999 then sz S a + sz S b else 999) else sz S j) ≤ 999
    have := hS.2.2.2.2.2 j
    split
    · omega
    · split
      · split <;> omega
      · omega
  · intro m hm j hj
    show (clr (sb S) (2 ^ b)).testBit j = true
    obtain ⟨m0, hm0, rfl⟩ := List.mem_map.mp (p2.mem_iff.mp hm)
    rw [rpl_tb hab] at hj
    by_cases hjb : j = b
    · rw [if_pos hjb] at hj; cases hj
    rw [if_neg hjb] at hj
    rw [clr_tb, Nat.testBit_two_pow, decide_eq_false (fun q => hjb q.symm), Bool.not_false, Bool.and_true]
    by_cases hja : j = a
    · rw [hja]; exact (tri_mem h4 m1).1.1
    · rw [if_neg hja] at hj; exact h4.1 m0 (drp_ab hm0).1 j hj
  · intro j hj
    have hj' : (clr (sb S) (2 ^ b)).testBit j = true := hj
    rw [clr_tb, Bool.and_eq_true] at hj'
    exact h4.2 j hj'.1
  · refine ⟨?_, Or.inr ?_⟩
    · show (sc (mgS S a b)).length = 2 * pc8 (clr (sb S) (2 ^ b)) - 4
      have := hl.1
      omega
    · show 1 ≤ pc8 (clr (sb S) (2 ^ b))
      omega
  · intro j hj hbj
    show (if j = b then 0 else if j = a then (if sz S a + sz S b < 999 then sz S a + sz S b else 999) else sz S j) = 0
    by_cases hjb : j = b
    · rw [if_pos hjb]
    · rw [if_neg hjb]
      have hb' : (clr (sb S) (2 ^ b)).testBit j = false := hbj
      rw [clr_tb, Nat.testBit_two_pow, decide_eq_false (fun q => hjb q.symm), Bool.not_false, Bool.and_true] at hb'
      by_cases hja : j = a
      · rw [hja, (tri_mem h4 m1).1.1] at hb'; cases hb'
      · rw [if_neg hja]; exact hz j hj hb'
theorem GS_Clo : Clo GS := by
  refine ⟨fun S h => h.1, fun S p h hp h3 _ => (three_at h.1.2.2.2.1 h.2.2.1 (by have := h.1.1; omega) h3).1, fun S a b h ha hb hf => GS_flip h ha hb hf, fun S p h hp h3 ht hth => GS_van h hp h3 ht (by rw [thI_nat h.1 hp] at hth; exact hth), ?_, ?_, ?_⟩
  · intro S z h hz hk
    refine ⟨⟨h.1.1, h.1.2.1, h.1.2.2.1, h.1.2.2.2.1, h.1.2.2.2.2.1, hz⟩, h.2.1, h.2.2.1, h.2.2.2.1, h.2.2.2.2.1, h.2.2.2.2.2.1, ?_⟩
    intro j hj hb
    show z j = 0
    rw [hk j ?_]
    · exact h.2.2.2.2.2.2 j hj hb
    · unfold thI
      rw [show nx (nI j) = j from nI_clamp (by omega)]
      have hb' : (sb S).testBit j = false := hb
      rw [hb', Bool.and_false]
  · intro S v h hv
    exact ⟨⟨h.1.1, h.1.2.1, h.1.2.2.1, h.1.2.2.2.1, hv, h.1.2.2.2.2.2⟩, h.2⟩
  · intro S y h
    exact ⟨h.1, h.2⟩
theorem GS_2 : G2 GS := fun _ h => ⟨h.2.1, h.2.2.1, h.2.2.2.1⟩
theorem GS_0 : GS S0 := by
  refine ⟨S0_ok, ?_, ?_, ⟨?_, ?_⟩, ?_, ⟨rfl, Or.inl rfl⟩, fun _ _ _ => rfl⟩
  · intro i j _ hj; exact absurd hj (Nat.not_lt_zero _)
  · intro a b _ _ _; left; rfl
  · intro m hm; cases hm
  · intro j hj
    have : (0 : Nat).testBit j = true := hj
    rw [Nat.zero_testBit] at this
    cases this
  · intro P _
    exact ⟨true, fun x hx => by cases hx⟩
