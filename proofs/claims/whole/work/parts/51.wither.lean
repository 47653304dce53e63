/-! wither -/
theorem pow_and {m p : Nat} : (m &&& 2 ^ p = 2 ^ p) ↔ m.testBit p = true := by
  constructor
  · intro h
    have : (m &&& 2 ^ p).testBit p = true := by rw [h, Nat.testBit_two_pow]; simp
    rw [Nat.testBit_and] at this
    rw [Bool.and_eq_true] at this
    exact this.1
  · intro h
    apply Nat.eq_of_testBit_eq
    intro i
    rw [Nat.testBit_and, Nat.testBit_two_pow]
    by_cases hi : p = i
    · subst hi; simp [h]
    · simp [hi]
theorem cnm_dgm (C : List Nat) (p : Nat) : cnm (2 ^ p) C = dgm C p := by
  unfold cnm dgm
  congr 1
  funext m
  by_cases h : m.testBit p = true
  · rw [h]; simp [pow_and.mpr h]
  · rw [Bool.not_eq_true] at h
    rw [h]
    simp only [decide_eq_false_iff_not]
    intro z
    rw [pow_and] at z
    rw [z] at h
    exact absurd h (by decide)
def vanS (S : Sh) (p : Nat) : Sh := (sn S, clr (sb S) (2 ^ p), sy S, sd S, sortC (drp (2 ^ p) (sc S) ++ [nbm (sc S) p]), fun j => if j = p then 0 else sz S j)
/-- the least lord with whom p's wall can be flipped: from the (n - r)-th on -/
def shedS (S : Sh) (p : Nat) : Nat → Sh
  | 0 => S
  | r + 1 => if fe S p (sn S - (r + 1)) ≠ 0 then flipS S p (sn S - (r + 1)) else shedS S p r
def withS (S : Sh) (p : Nat) : Sh := if dgm (sc S) p = 3 ∧ 3 < pc8 (sb S) then vanS S p else shedS S p (sn S)
theorem feI_nat {S : Sh} (hS : SOk S) {a b : Nat} (ha : a < sn S) (hb : b < sn S) : feI S (nI a) (nI b) = fe S a b := by
  have h8 := hS.1
  unfold feI
  rw [show nx (nI a) = a from nI_clamp (by omega), show nx (nI b) = b from nI_clamp (by omega)]
  cases hm : mtI S (nI a) (nI b) with
  | true => rw [if_pos rfl]
  | false => rw [if_neg (by decide)]; unfold fe; rw [hm, if_pos rfl]
theorem shed_loop {d o : Nat} (ho : kd o = (0, 2)) {K : Mem → Prop} {S : Sh} {M : Mem} {p : Nat} (hp : p < sn S) (hF : Fr M o S) (hK : ∀ M', Sm M M' o → Fr M' o (shedS S p (sn S)) → K M') :
    ∀ (r : Nat), r ≤ sn S → shedS S p r = shedS S p (sn S) → RV (d + 3) μX2_wither 47 [(0, .ref o), (1, .int (nI p)), (2, .int (nI (sn S - r)))] [] M K := by
  have hS := hF.2.2
  have h8 : sn S ≤ 8 := hS.1
  intro r
  induction r with
  | zero =>
    intro _ he
    refine sg_X2_wither_47 ho ?_
    rw [hF.1.1, if_pos (by rw [nI_leI (by omega) (by omega)]; omega)]
    refine hK M Sm.rf ?_
    rw [← he]
    exact hF
  | succ r ih =>
    intro hr he
    refine sg_X2_wither_47 ho ?_
    have hq : sn S - (r + 1) < sn S := by omega
    rw [hF.1.1, if_neg (by rw [nI_leI (by omega) (by omega)]; omega)]
    refine c_turnWall ho hF (fun h0 => ?_) (fun i j M' ei ej hi hj hne hs hf => ?_)
    · rw [if_pos rfl, nI_1, show sn S - (r + 1) + 1 = sn S - r by omega]
      rw [feI_nat hS hp hq] at h0
      refine ih (by omega) ?_
      rw [← he]
      show _ = (if fe S p (sn S - (r + 1)) ≠ 0 then _ else _)
      rw [if_neg (by rw [h0]; exact fun z => z rfl)]
    · have hi' := (nI_eq (by omega) (by omega)).mp ei
      have hj' := (nI_eq (by omega) (by omega)).mp ej
      subst hi'; subst hj'
      have hlt : fe S p (sn S - (r + 1)) < 256 := by
        rw [(fe_pos hne).2.2.2.2.2.1]; exact enm_lt (n := 8) (fun m hm => (hS.2.2.2.1 m hm).1)
      rw [if_neg (by rw [l_0, nI_eq (by omega) (by omega)]; exact hne)]
      refine hK M' hs ?_
      rw [← he]
      show Fr M' o (if fe S p (sn S - (r + 1)) ≠ 0 then _ else _)
      rw [if_pos hne]
      exact hf
theorem c_wither {d o : Nat} (ho : kd o = (0, 2)) {K : Mem → Prop} {S : Sh} {M : Mem} {p : Nat} (hp : p < sn S) (hF : Fr M o S) (hv : dgm (sc S) p = 3 → 3 < pc8 (sb S) → T3 (nbm (sc S) p)) (hK : ∀ M', Sm M M' o → Fr M' o (withS S p) → K M') : CV (d + 3) μX2_wither [.ref o, .int (nI p)] M K := by
  have hS := hF.2.2
  have h8 : sn S ≤ 8 := hS.1
  have h12 := hS.2.2.1
  have hp8 := pc8_le (sb S)
  have e1 : nx (nI p) = p := nI_clamp (by omega)
  have hdl := Nat.le_trans (dgm_le (sc S) p) h12
  have go : ¬ (dgm (sc S) p = 3 ∧ 3 < pc8 (sb S)) → RV (d + 3) μX2_wither 47 [(0, .ref o), (1, .int (nI p)), (2, .int 0)] [] M K := by
    intro hno
    have := shed_loop (d := d) ho hp hF (K := K) (fun M' hs hf => hK M' hs (by unfold withS; rw [if_neg hno]; exact hf)) (sn S) (Nat.le_refl _) rfl
    rw [Nat.sub_self] at this
    exact this
  refine sg_X2_wither_0 ho ⟨n_in (by omega) (by decide), ?_⟩
  rw [e1, hF.2.1.2 p (by omega)]
  by_cases c1 : dgm (sc S) p = 3
  · rw [if_pos (by rw [c1]; rfl)]
    refine c_howManyThere ho hF.1 hS ?_
    by_cases c2 : 3 < pc8 (sb S)
    · rw [if_neg (by rw [l_3, nI_leI (by omega) (by omega)]; omega), n_shl (by omega)]
      have h2p : 2 ^ p < 256 := Nat.pow_lt_pow_right (n := 8) (by decide) (by omega)
      have hcn := drp_cnm (2 ^ p) (sc S)
      rw [cnm_dgm, c1] at hcn
      refine c_dropCornersOf ho h2p hF.1 hS (fun M3 g3 f3 => ⟨n_in (by omega) (by decide), ?_⟩)
      have e3 : ri M3 (o + 3) p = nI (nbm (sc S) p) := by
        rw [g3.1 (o + 3) (by omega) p (by omega)]; exact hF.2.1.1 p (by omega)
      rw [e3]
      refine c_addCorner ho f3 (by rw [sc_setC]; omega) (fun M4 g4 f4 => ?_)
      rw [sc_setC] at f4
      refine c_leave (S := setC S (drp (2 ^ p) (sc S) ++ [nbm (sc S) p])) ho (by omega) f4 (fun M5 g5 _ f5 => ?_)
      have hok : SOk (lvS (setC S (drp (2 ^ p) (sc S) ++ [nbm (sc S) p])) p) := by
        refine ⟨hS.1, clr_lt (n := 8) hS.2.1, by show (drp (2 ^ p) (sc S) ++ [nbm (sc S) p]).length ≤ 12; simp; omega, fun m hm => ?_, hS.2.2.2.2.1, fun j => ?_⟩
        · have hm : m ∈ drp (2 ^ p) (sc S) ++ [nbm (sc S) p] := hm
          simp only [List.mem_append, List.mem_singleton] at hm
          rcases hm with h | h
          · exact hS.2.2.2.1 m (List.mem_filter.mp h).1
          · rw [h]; exact hv c1 c2
        · show (if j = p then 0 else sz S j) ≤ 999
          split
          · omega
          · exact hS.2.2.2.2.2 j
      refine c_settle ho f5 hok (fun M6 g6 f6 => ?_)
      refine hK M6 (((g3.sm.trans g4.sm).trans g5).trans g6) ?_
      unfold withS
      rw [if_pos ⟨c1, c2⟩]
      exact f6
    · rw [if_pos (by rw [l_3, nI_leI (by omega) (by omega)]; omega)]
      exact go (fun z => c2 z.2)
  · rw [if_neg (by rw [l_3, nI_eq (by omega) (by omega)]; exact c1)]
    exact go (fun z => c1 z.1)
