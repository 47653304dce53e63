/-! seen, untell, later, fits, sure, ask: the class -/
def QS (s : Nat) (M M' : Mem) : Prop := (∀ k j, ¬ (s = 0 ∧ 49 ≤ k ∧ k ≤ 53) → ¬ (s = 1 ∧ 78 ≤ k ∧ k ≤ 82) → ¬ (s = 0 ∧ k = 48 ∧ j = 0) → ¬ (s = 1 ∧ k = 58 ∧ j = 55) → ri M' k j = ri M k j) ∧ ∀ k j, rl M' k j = rl M k j
def QT (s : Nat) (M M' : Mem) : Prop := (∀ k j, ¬ (s = 0 ∧ k = 0 ∧ j = 10) → ¬ (s = 1 ∧ k = 58 ∧ j = 56) → ri M' k j = ri M k j) ∧ ∀ k j, rl M' k j = rl M k j
def addW (W : Nat → Sight) (c : Nat) (w : Sight) : Nat → Sight := fun i => if i = c then w else W i
def seC (S1 : Sh) (c : Nat) (x y : Int32) : Prop := (0 ≤ x ∧ x ≤ 12) ∧ (0 ≤ y ∧ y ≤ 8) ∧ sn S1 ≠ 0 ∧ c ≠ 30
theorem lt_le {x : Int32} {n : Nat} (hn : n < 2 ^ 30) : (x < nI (n + 1)) ↔ x ≤ nI n := by
  by_cases h0 : x < 0
  · have h1 : (0 : Int32) ≤ nI n := by rw [show (0 : Int32) = nI 0 from rfl, nI_leI (by omega) (by omega)]; omega
    have h2 : (0 : Int32) ≤ nI (n + 1) := by rw [show (0 : Int32) = nI 0 from rfl, nI_leI (by omega) (by omega)]; omega
    exact ⟨fun _ => Int32.le_of_lt (Int32.lt_of_lt_of_le h0 h1), fun _ => Int32.lt_of_lt_of_le h0 h2⟩
  · obtain ⟨j, hj, rfl⟩ := nI_of (show ¬ x < 0 from h0)
    rw [nI_ltI hj (by omega), nI_leI hj (by omega)]; omega
theorem x_seen {d t c : Nat} {M : Mem} {K : Int32 → Mem → Prop} {F : List Int32} {st : Nat} {S S1 : Sh} {W : Nat → Sight} {x y tm : Int32} {b : Bool} (hX : CX M t F st S S1) (hS1 : SOk S1) (hW : WOk c W) (hM : MX M c W) (htm : ri M 0 10 = tm) (h0 : ¬ seC S1 c x y → K (-1) M) (hK : seC S1 c x y → ∀ M', QS 0 M M' → MX M' (c + 1) (addW W c (nx x, nx y, b, tm, -1)) → K (nI c) M') : CI (d + 1) μX8_seen [.ref 0, .int x, .int y, .int (bI b)] M K := by
  have hc := hW.1
  have h8 := hS1.1
  have no : ¬ seC S1 c x y → RI (d + 1) μX8_seen 25 [(0, .ref 0), (1, .int x), (2, .int y), (3, .int (bI b))] [.int 0] M K := by
    intro h
    refine sg_X8_seen_25 ?_
    rw [if_pos rfl]; exact h0 h
  refine sg_X8_seen_0 ?_
  by_cases h1 : x < 0
  · rw [if_pos h1]; exact no (fun q => absurd h1 (i_nlt.mpr q.1.1))
  rw [if_neg h1]
  by_cases h2 : 13 ≤ x
  · rw [if_pos h2]; exact no (fun q => absurd ((lt_le (n := 12) (by omega)).mpr q.1.2) (i_nlt.mpr h2))
  rw [if_neg h2]
  by_cases h3 : y < 0
  · rw [if_pos h3]; exact no (fun q => absurd h3 (i_nlt.mpr q.2.1.1))
  rw [if_neg h3]
  by_cases h4 : 9 ≤ y
  · rw [if_pos h4]; exact no (fun q => absurd ((lt_le (n := 8) (by omega)).mpr q.2.1.2) (i_nlt.mpr h4))
  rw [if_neg h4]
  refine sg_X8_seen_25 ?_
  rw [if_neg (by decide)]
  refine ⟨t, hX.1, (tell_kd hX.2.1).1, ?_⟩
  rw [hX.2.2.2.2.1.1.1]
  by_cases hz : sn S1 = 0
  · rw [if_pos (by rw [hz]; rfl)]; exact h0 (fun q => q.2.2.1 hz)
  rw [if_neg (fun q => hz ((n_z (by omega)).mp q)), htm]
  refine sg_X4_tell_0 ?_
  rw [hM.1]
  have x12 := (lt_le (n := 12) (by omega)).mp (i_nle.mp h2)
  have y8 := (lt_le (n := 8) (by omega)).mp (i_nle.mp h4)
  by_cases h30 : c = 30
  · rw [if_neg (by rw [h30]; decide)]; exact h0 (fun q => q.2.2.2 h30)
  rw [if_pos (by rw [show (30 : Int32) = nI 30 from rfl, nI_ltI (by omega) (by omega)]; omega)]
  have e1 : nx (nI c) = c := nI_clamp (by omega)
  have vin : vp_in (nI c) 30 := n_in (by omega) (by decide)
  rw [e1]
  refine ⟨vin, fun M1 g1 => ?_⟩
  have r1 : ∀ k j, ri M1 k j = if k = 49 ∧ j = c then x else ri M k j := by intro k j; rw [g1, ri_wi]
  rw [show ri M1 48 0 = nI c by rw [r1, if_neg (by omega)]; exact hM.1, e1]
  refine ⟨vin, fun M2 g2 => ?_⟩
  have r2 : ∀ k j, ri M2 k j = if k = 50 ∧ j = c then y else ri M1 k j := by intro k j; rw [g2, ri_wi]
  rw [show ri M2 48 0 = nI c by rw [r2, if_neg (by omega), r1, if_neg (by omega)]; exact hM.1, e1, nar_b]
  refine ⟨vin, fun M3 g3 => ?_⟩
  have r3 : ∀ k j, ri M3 k j = if k = 51 ∧ j = c then bI b else ri M2 k j := by intro k j; rw [g3, ri_wi]
  rw [show ri M3 48 0 = nI c by rw [r3, if_neg (by omega), r2, if_neg (by omega), r1, if_neg (by omega)]; exact hM.1, e1]
  refine ⟨vin, fun M4 g4 => ?_⟩
  have r4 : ∀ k j, ri M4 k j = if k = 52 ∧ j = c then tm else ri M3 k j := by intro k j; rw [g4, ri_wi]
  rw [show ri M4 48 0 = nI c by rw [r4, if_neg (by omega), r3, if_neg (by omega), r2, if_neg (by omega), r1, if_neg (by omega)]; exact hM.1, e1]
  refine ⟨vin, fun M5 g5 M6 g6 => ?_⟩
  have r5 : ∀ k j, ri M5 k j = if k = 53 ∧ j = c then -1 else ri M4 k j := by intro k j; rw [g5, ri_wi]
  rw [show ri M5 48 0 = nI c by rw [r5, if_neg (by omega), r4, if_neg (by omega), r3, if_neg (by omega), r2, if_neg (by omega), r1, if_neg (by omega)]; exact hM.1, nI_1] at g6
  have r6 : ∀ k j, ri M6 k j = if k = 48 ∧ j = 0 then nI (c + 1) else ri M5 k j := by intro k j; rw [g6, ri_wi]
  rw [show ri M6 48 0 = nI (c + 1) by rw [r6, if_pos ⟨rfl, rfl⟩], nI_pred]
  refine hK ⟨⟨i_nlt.mp h1, x12⟩, ⟨i_nlt.mp h3, y8⟩, hz, h30⟩ M6 ⟨fun k j a b c' e => ?_, fun k j => by rw [g6, g5, g4, g3, g2, g1]; rfl⟩ ⟨by rw [r6, if_pos ⟨rfl, rfl⟩], fun i hi => ?_⟩
  · rw [r6, if_neg (by omega), r5, if_neg (by omega), r4, if_neg (by omega), r3, if_neg (by omega), r2, if_neg (by omega), r1, if_neg (by omega)]
  · obtain ⟨a', ha', rfl⟩ := le_nat (i_nlt.mp h1) x12 (by omega)
    obtain ⟨s', hs', rfl⟩ := le_nat (i_nlt.mp h3) y8 (by omega)
    rw [show nx (nI a') = a' from nI_clamp (by omega), show nx (nI s') = s' from nI_clamp (by omega)]
    unfold addW
    by_cases hic : i = c
    · rw [if_pos hic, hic, r6, if_neg (by omega), r5, if_neg (by omega), r4, if_neg (by omega), r3, if_neg (by omega), r2, if_neg (by omega), r1, if_pos ⟨rfl, rfl⟩, r6, if_neg (by omega), r5, if_neg (by omega), r4, if_neg (by omega), r3, if_neg (by omega), r2, if_pos ⟨rfl, rfl⟩, r6, if_neg (by omega), r5, if_neg (by omega), r4, if_neg (by omega), r3, if_pos ⟨rfl, rfl⟩, r6, if_neg (by omega), r5, if_neg (by omega), r4, if_pos ⟨rfl, rfl⟩, r6, if_neg (by omega), r5, if_pos ⟨rfl, rfl⟩]
      exact ⟨rfl, rfl, rfl, rfl, rfl⟩
    · have old : ∀ k, ri M6 k i = ri M k i ∨ k = 48 := by
        intro k
        by_cases hk : k = 48
        · exact Or.inr hk
        · left; rw [r6, if_neg (by omega), r5, if_neg (by omega), r4, if_neg (by omega), r3, if_neg (by omega), r2, if_neg (by omega), r1, if_neg (by omega)]
      rw [if_neg hic, (old 49).resolve_right (by omega), (old 50).resolve_right (by omega), (old 51).resolve_right (by omega), (old 52).resolve_right (by omega), (old 53).resolve_right (by omega)]
      exact hM.2 i (by omega)
def utC (c : Nat) (W : Nat → Sight) (x : Int32) : Prop := (0 ≤ x ∧ x < nI c) ∧ (W (nx x)).2.2.2.2 = -1
def unW (W : Nat → Sight) (i : Nat) (tm : Int32) : Nat → Sight := fun j => if j = i then ((W j).1, (W j).2.1, (W j).2.2.1, (W j).2.2.2.1, tm) else W j
theorem x_untell {d c : Nat} {M : Mem} {K : Int32 → Mem → Prop} {W : Nat → Sight} {x tm : Int32} (hW : WOk c W) (hM : MX M c W) (htm : ri M 0 10 = tm) (h0 : ¬ utC c W x → K 0 M) (hK : utC c W x → ∀ M', QS 0 M M' → MX M' c (unW W (nx x) tm) → K 1 M') : CI (d + 1) μX8_untell [.ref 0, .int x] M K := by
  have hc := hW.1
  refine sg_X8_untell_0 ?_
  rw [htm]
  refine sg_X4_takeBack_0 ?_
  rw [hM.1]
  by_cases h1 : x < 0
  · rw [if_pos h1]; exact ⟨Or.inl rfl, h0 (fun q => absurd h1 (i_nlt.mpr q.1.1))⟩
  rw [if_neg h1]
  by_cases h2 : nI c ≤ x
  · rw [if_pos h2]; exact ⟨Or.inl rfl, h0 (fun q => absurd h2 (i_nle.mpr q.1.2))⟩
  rw [if_neg h2]
  obtain ⟨i, hi, rfl⟩ := n_nat (i_nlt.mp h1) (i_nle.mp h2) (by omega)
  have e1 : nx (nI i) = i := nI_clamp (by omega)
  obtain ⟨m1, m2, m3, m4, m5⟩ := hM.2 i hi
  have vin : vp_in (nI i) 30 := n_in (by omega) (by decide)
  rw [e1, m5]
  refine ⟨vin, ?_⟩
  unfold utC at h0 hK
  rw [e1] at h0 hK
  by_cases h3 : (W i).2.2.2.2 = -1
  · rw [if_pos h3]
    refine ⟨vin, fun M1 g1 => ⟨Or.inr rfl, ?_⟩⟩
    have r1 : ∀ k j, ri M1 k j = if k = 53 ∧ j = i then tm else ri M k j := by intro k j; rw [g1, ri_wi]
    refine hK ⟨⟨i_nlt.mp h1, i_nle.mp h2⟩, h3⟩ M1 ⟨fun k j a _ _ _ => by rw [r1, if_neg (by omega)], fun k j => by rw [g1]; rfl⟩ ⟨by rw [r1, if_neg (by omega)]; exact hM.1, fun j hj => ?_⟩
    have o : ∀ k, k ≠ 53 → ri M1 k j = ri M k j := fun k hk => by rw [r1, if_neg (fun q => hk q.1)]
    have hj5 := hM.2 j hj
    rw [o 49 (by omega), o 50 (by omega), o 51 (by omega), o 52 (by omega)]
    by_cases hji : j = i
    · have o53 : ri M1 53 j = tm := by rw [r1, if_pos ⟨rfl, hji⟩]
      have eu : unW W i tm j = ((W j).1, (W j).2.1, (W j).2.2.1, (W j).2.2.2.1, tm) := if_pos hji
      rw [o53, eu]
      exact ⟨hj5.1, hj5.2.1, hj5.2.2.1, hj5.2.2.2.1, rfl⟩
    · have o53 : ri M1 53 j = ri M 53 j := by rw [r1, if_neg (fun q => hji q.2)]
      have eu : unW W i tm j = W j := if_neg hji
      rw [o53, eu]
      exact hj5
  · rw [if_neg h3]; exact ⟨Or.inl rfl, h0 (fun q => h3 q.2)⟩
theorem x_later {d : Nat} {M : Mem} {K : Int32 → Mem → Prop} {x tm : Int32} (htm : ri M 0 10 = tm) (h0 : ¬ (0 ≤ x ∧ x ≤ 1000 ∧ tm + x ≤ 100000) → K (-1) M) (hK : (0 ≤ x ∧ x ≤ 1000 ∧ tm + x ≤ 100000) → ∀ M', QT 0 M M' → ri M' 0 10 = tm + x → K (tm + x) M') : CI d μX8_later [.ref 0, .int x] M K := by
  refine sg_X8_later_0 ?_
  rw [htm]
  by_cases h1 : x < 0
  · rw [if_pos h1]; exact h0 (fun q => absurd h1 (i_nlt.mpr q.1))
  rw [if_neg h1]
  by_cases h2 : 1000 < x
  · rw [if_pos h2]; exact h0 (fun q => absurd h2 (i_nlt.mpr q.2.1))
  rw [if_neg h2]
  by_cases h3 : tm + x ≤ 100000
  · rw [if_pos h3]
    intro M1 g1
    have r1 : ∀ k j, ri M1 k j = if k = 0 ∧ j = 10 then tm + x else ri M k j := by intro k j; rw [g1, ri_wi]
    rw [r1, if_pos ⟨rfl, rfl⟩]
    exact hK ⟨i_nlt.mp h1, i_nlt.mp h2, h3⟩ M1 ⟨fun k j a _ => by rw [r1, if_neg (fun q => a ⟨rfl, q⟩)], fun k j => by rw [g1]; rfl⟩ (by rw [r1, if_pos ⟨rfl, rfl⟩])
  · rw [if_neg h3]; exact h0 (fun q => h3 q.2.2)
theorem m_later {d : Nat} {M : Mem} {K : Int32 → Mem → Prop} {x tm : Int32} (htm : ri M 58 56 = tm) (h0 : ¬ (0 ≤ x ∧ x ≤ 1000 ∧ tm + x ≤ 100000) → K (-1) M) (hK : (0 ≤ x ∧ x ≤ 1000 ∧ tm + x ≤ 100000) → ∀ M', QT 1 M M' → ri M' 58 56 = tm + x → K (tm + x) M') : CI d μX9_later [.ref 58, .int x] M K := by
  refine sg_X9_later_0 ?_
  rw [htm]
  by_cases h1 : x < 0
  · rw [if_pos h1]; exact h0 (fun q => absurd h1 (i_nlt.mpr q.1))
  rw [if_neg h1]
  by_cases h2 : 1000 < x
  · rw [if_pos h2]; exact h0 (fun q => absurd h2 (i_nlt.mpr q.2.1))
  rw [if_neg h2]
  by_cases h3 : tm + x ≤ 100000
  · rw [if_pos h3]
    intro M1 g1
    have r1 : ∀ k j, ri M1 k j = if k = 58 ∧ j = 56 then tm + x else ri M k j := by intro k j; rw [g1, ri_wi]
    rw [r1, if_pos ⟨rfl, rfl⟩]
    exact hK ⟨i_nlt.mp h1, i_nlt.mp h2, h3⟩ M1 ⟨fun k j _ a => by rw [r1, if_neg (fun q => a ⟨rfl, q⟩)], fun k j => by rw [g1]; rfl⟩ (by rw [r1, if_pos ⟨rfl, rfl⟩])
  · rw [if_neg h3]; exact h0 (fun q => h3 q.2.2)
def aFits (F : List Int32) (st : Nat) (S1 : Sh) (c : Nat) (W : Nat → Sight) (k : Int32) : Int32 := if sn S1 = 0 then 0 else nI (ctF (fit F st S1 c W k) 31)
theorem x_fits {d t c : Nat} {M : Mem} {K : Int32 → Mem → Prop} {F : List Int32} {st : Nat} {S S1 : Sh} {W : Nat → Sight} {k : Int32} (hX : CX M t F st S S1) (hG : GS S1) (hA : ATh S1) (hC : Cch M F st S1) (hW : WOk c W) (hM : MX M c W) (hK : ∀ M', QF M M' → Cch M' F st S1 → K (aFits F st S1 c W k) M') : CI (d + 7) μX8_fits [.ref 0, .int k] M K := by
  refine sg_X8_fits_0 ⟨t, hX.1, (tell_kd hX.2.1).1, ?_⟩
  refine x_findFits (k := k) hX hG hA hC hW hM (fun h => ?_) (fun h M1 q1 e7 e54 _ => ?_)
  · have := hK M QF.rf hC
    unfold aFits at this; rw [if_pos h] at this; exact this
  · have := hK M1 q1 (Or.inr ⟨e7, e54⟩)
    unfold aFits at this; rw [if_neg h] at this; exact this
def aSure (F : List Int32) (st : Nat) (S1 : Sh) (c : Nat) (W : Nat → Sight) (x k : Int32) : Int32 := if (0 ≤ x ∧ x ≤ 1) ∧ sn S1 ≠ 0 ∧ ctF (fit F st S1 c W k) 31 ≠ 0 then (if x = 0 then lsF (fit F st S1 c W k) 31 0 else gsF (fit F st S1 c W k) 31) else -1
theorem x_sure {d t c : Nat} {M : Mem} {K : Int32 → Mem → Prop} {F : List Int32} {st : Nat} {S S1 : Sh} {W : Nat → Sight} {x k : Int32} (hX : CX M t F st S S1) (hG : GS S1) (hA : ATh S1) (hC : Cch M F st S1) (hW : WOk c W) (hM : MX M c W) (hK : ∀ M', QF M M' → Cch M' F st S1 → K (aSure F st S1 c W x k) M') : CI (d + 7) μX8_sure [.ref 0, .int x, .int k] M K := by
  refine sg_X8_sure_0 ?_
  have hk := hK M QF.rf hC
  unfold aSure at hk hK
  by_cases h1 : x < 0
  · rw [if_pos h1]; rw [if_neg (fun q => absurd h1 (i_nlt.mpr q.1.1))] at hk; exact hk
  rw [if_neg h1]
  by_cases h2 : 1 < x
  · rw [if_pos h2]; rw [if_neg (fun q => absurd h2 (i_nlt.mpr q.1.2))] at hk; exact hk
  rw [if_neg h2]
  refine ⟨t, hX.1, (tell_kd hX.2.1).1, ?_⟩
  refine x_findFits (k := k) hX hG hA hC hW hM (fun h => ?_) (fun h M1 q1 e7 e54 e55 => ?_)
  · rw [if_pos rfl]; rw [if_neg (fun q => q.2.1 h)] at hk; exact hk
  · have hl := ctF_le (fit F st S1 c W k) 31
    have hk1 := hK M1 q1 (Or.inr ⟨e7, e54⟩)
    by_cases hz : ctF (fit F st S1 c W k) 31 = 0
    · rw [if_pos (by rw [hz]; rfl)]; rw [if_neg (fun q => q.2.2 hz)] at hk1; exact hk1
    · rw [if_neg (fun q => hz ((n_z (by omega)).mp q))]
      rw [if_pos ⟨⟨i_nlt.mp h1, i_nlt.mp h2⟩, h, hz⟩] at hk1
      by_cases hx : x = 0
      · rw [if_pos hx]; rw [if_pos hx] at hk1; exact x_least e55 hk1
      · rw [if_neg hx]; rw [if_neg hx] at hk1; exact x_greatest e55 hk1
/-- the season to look at next -/
def bsF (g : Nat → Nat) : Nat → Nat → Nat → Nat
  | 0, _, b => b
  | r + 1, s, b => bsF g r (s + 1) (if g s < g b then s else b)
theorem bsF_le (g : Nat → Nat) : ∀ (r s b : Nat), b < 13 → r + s = 13 → bsF g r s b < 13
  | 0, _, _, h, _ => h
  | r + 1, s, b, h, e => by
    show bsF g r (s + 1) (if g s < g b then s else b) < 13
    refine bsF_le g r (s + 1) _ ?_ (by omega)
    split <;> omega
def lfB (F : List Int32) (st : Nat) (S1 : Sh) (c : Nat) (W : Nat → Sight) (k : Int32) (s : Nat) : Nat := mlF (fit F st S1 c W k) (fun v => sdV F st S1 v s) 31 0 (fun _ => 0) 0
def aAsk (F : List Int32) (st : Nat) (S1 : Sh) (c : Nat) (W : Nat → Sight) (x k : Int32) : Int32 := if (0 ≤ x ∧ x ≤ 1) ∧ sn S1 ≠ 0 ∧ ctF (fit F st S1 c W k) 31 ≠ 0 then (if x = 0 then nI (bsF (lfB F st S1 c W k) 12 1 0) else nI (lfB F st S1 c W k (bsF (lfB F st S1 c W k) 12 1 0))) else -1
theorem mlF_le (f : Nat → Bool) (g : Nat → Nat) : ∀ (r v : Nat) (t : Nat → Nat) (m : Nat), (∀ x, t x ≤ v) → m ≤ v → mlF f g r v t m ≤ v + r
  | 0, v, t, m, _, h => by show m ≤ v + 0; omega
  | r + 1, v, t, m, ht, h => by
    unfold mlF
    split
    · have := mlF_le f g r (v + 1) (fun x => if x = g v then t x + 1 else t x) (if m < t (g v) + 1 then t (g v) + 1 else m) (fun x => by have := ht x; show (if x = g v then t x + 1 else t x) ≤ v + 1; split <;> omega) (by have := ht (g v); split <;> omega)
      omega
    · have := mlF_le f g r (v + 1) t m (fun x => Nat.le_succ_of_le (ht x)) (by omega)
      omega
theorem lfB_le (F : List Int32) (st : Nat) (S1 : Sh) (c : Nat) (W : Nat → Sight) (k : Int32) (s : Nat) : lfB F st S1 c W k s ≤ 31 := by
  have := mlF_le (fit F st S1 c W k) (fun v => sdV F st S1 v s) 31 0 (fun _ => 0) 0 (fun _ => Nat.le_refl _) (Nat.le_refl _)
  unfold lfB; omega
theorem x_ask {d t c : Nat} {M : Mem} {K : Int32 → Mem → Prop} {F : List Int32} {st : Nat} {S S1 : Sh} {W : Nat → Sight} {x k : Int32} (hX : CX M t F st S S1) (hG : GS S1) (hA : ATh S1) (hC : Cch M F st S1) (hW : WOk c W) (hM : MX M c W) (hK : ∀ M', QF M M' → Cch M' F st S1 → K (aAsk F st S1 c W x k) M') : CI (d + 7) μX8_ask [.ref 0, .int x, .int k] M K := by
  refine sg_X8_ask_0 ?_
  have hk := hK M QF.rf hC
  unfold aAsk at hk hK
  by_cases h1 : x < 0
  · rw [if_pos h1]; rw [if_neg (fun q => absurd h1 (i_nlt.mpr q.1.1))] at hk; exact hk
  rw [if_neg h1]
  by_cases h2 : 1 < x
  · rw [if_pos h2]; rw [if_neg (fun q => absurd h2 (i_nlt.mpr q.1.2))] at hk; exact hk
  rw [if_neg h2]
  refine ⟨t, hX.1, (tell_kd hX.2.1).1, ?_⟩
  refine x_findFits (k := k) hX hG hA hC hW hM (fun h => ?_) (fun h M1 q1 e7 e54 e55 => ?_)
  · rw [if_pos rfl]; rw [if_neg (fun q => q.2.1 h)] at hk; exact hk
  · have hl := ctF_le (fit F st S1 c W k) 31
    by_cases hz : ctF (fit F st S1 c W k) 31 = 0
    · have hk1 := hK M1 q1 (Or.inr ⟨e7, e54⟩)
      rw [if_pos (by rw [hz]; rfl)]; rw [if_neg (fun q => q.2.2 hz)] at hk1; exact hk1
    · rw [if_neg (fun q => hz ((n_z (by omega)).mp q))]
      rw [if_pos ⟨⟨i_nlt.mp h1, i_nlt.mp h2⟩, h, hz⟩] at hK
      have qf : ∀ M2, (∀ k j, k ≠ 56 → ri M2 k j = ri M1 k j) → (∀ k j, rl M2 k j = rl M1 k j) → QF M1 M2 := fun M2 e el => ⟨fun k j a _ _ _ => e k j (scr_ne a rfl), el⟩
      have loop : ∀ (r s b : Nat) (M2 : Mem), r + s = 13 → b < 13 → bsF (lfB F st S1 c W k) r s b = bsF (lfB F st S1 c W k) 12 1 0 → (∀ k j, k ≠ 56 → ri M2 k j = ri M1 k j) → (∀ k j, rl M2 k j = rl M1 k j) → RI (d + 7) μX8_ask 45 [(0, .ref 0), (1, .int x), (2, .int k), (3, .int (nI b)), (4, .int (nI (lfB F st S1 c W k b))), (5, .int (nI s))] [] M2 K := by
        intro r
        induction r with
        | zero =>
          intro s b M2 hs hb he e el
          refine sg_X8_ask_45 ?_
          rw [if_pos (by rw [show (13 : Int32) = nI 13 from rfl, nI_leI (by omega) (by omega)]; omega)]
          have he : b = bsF (lfB F st S1 c W k) 12 1 0 := he
          have hk2 := hK M2 (q1.trans (qf M2 e el)) (Or.inr ⟨by rw [e _ _ (by omega)]; exact e7, fun v s hv hs => by rw [e _ _ (by omega)]; exact e54 v s hv hs⟩)
          rw [← he] at hk2
          by_cases hx : x = 0
          · rw [if_pos hx]; rw [if_pos hx] at hk2; exact hk2
          · rw [if_neg hx]; rw [if_neg hx] at hk2; exact hk2
        | succ r ih =>
          intro s b M2 hs hb he e el
          refine sg_X8_ask_45 ?_
          rw [if_neg (by rw [show (13 : Int32) = nI 13 from rfl, nI_leI (by omega) (by omega)]; omega), nI_1]
          refine x_mostLeft (f := fit F st S1 c W k) (sd := sdV F st S1) (fun v hv => by rw [e _ _ (by omega)]; exact e55 v hv) (by omega) (fun v s hv hs => by rw [e _ _ (by omega)]; exact e54 v s hv hs) (fun v s hv => sdV_le hG hA h (by omega) s) (fun M3 e3 el3 => ?_)
          show if nI (lfB F st S1 c W k b) ≤ nI (lfB F st S1 c W k s) then _ else _
          have l1 := lfB_le F st S1 c W k b
          have l2 := lfB_le F st S1 c W k s
          have he : bsF (lfB F st S1 c W k) r (s + 1) (if lfB F st S1 c W k s < lfB F st S1 c W k b then s else b) = bsF (lfB F st S1 c W k) 12 1 0 := he
          have e' : ∀ k j, k ≠ 56 → ri M3 k j = ri M1 k j := fun k j h => (e3 k j h).trans (e k j h)
          have el' : ∀ k j, rl M3 k j = rl M1 k j := fun k j => (el3 k j).trans (el k j)
          by_cases hle : lfB F st S1 c W k s < lfB F st S1 c W k b
          · rw [if_neg (by rw [nI_leI (by omega) (by omega)]; omega)]
            rw [if_pos hle] at he
            exact ih (s + 1) s M3 (by omega) (by omega) he e' el'
          · rw [if_pos (by rw [nI_leI (by omega) (by omega)]; omega)]
            rw [if_neg hle] at he
            exact ih (s + 1) b M3 (by omega) hb he e' el'
      refine x_mostLeft (s := 0) (f := fit F st S1 c W k) (sd := sdV F st S1) e55 (by omega) e54 (fun v s hv => sdV_le hG hA h (by omega) s) (fun M2 e2 el2 => ?_)
      exact loop 12 1 0 M2 rfl (by omega) rfl e2 el2
