/-! copies of a shire: copyFrom, writeTo, readFrom, empty -/
theorem x_0 : nx 0 = 0 := rfl
theorem x_8 : nx 8 = 8 := by decide
theorem x_12 : nx 12 = 12 := by decide
theorem c_copyFrom {d o o' : Nat} (ho : kd o = (0, 2)) (ho' : kd o' = (0, 2)) (hne : o ≠ o') {K : Mem → Prop} {S : Sh} {M : Mem} (hF : Fr M o' S) (hK : ∀ M', Sm M M' o → Fr M' o S → K M') : CV (d + 1) μX2_copyFrom [.ref o, .ref o'] M K := by
  have a1 := froth_is o ho
  have a2 := froth_is o' ho'
  have h12 := hF.2.2.2.2.1
  refine sg_X2_copyFrom_0 ho ho' ?_
  intro M1 h1 M2 h2 M3 h3 M4 h4 M5 h5
  refine ⟨by decide, ?_⟩
  intro M6 h6
  refine ⟨by decide, ?_⟩
  intro M7 h7
  refine ⟨by decide, ?_⟩
  intro M8 h8
  refine ⟨by decide, ?_⟩
  intro M9 h9
  rw [x_0, x_12] at h6
  rw [x_0, x_8] at h7 h8 h9
  -- reads
  have r1 : ∀ k j, k ≠ o → ri M1 k j = ri M k j := fun k j hk => by rw [h1, ri_wi, if_neg (fun z => hk z.1)]
  have r2 : ∀ k j, k ≠ o → ri M2 k j = ri M k j := fun k j hk => by rw [h2, ri_wi, if_neg (fun z => hk z.1)]; exact r1 k j hk
  have r3 : ∀ k j, k ≠ o → ri M3 k j = ri M k j := fun k j hk => by rw [h3, ri_wi, if_neg (fun z => hk z.1)]; exact r2 k j hk
  have r4 : ∀ k j, k ≠ o → ri M4 k j = ri M k j := fun k j hk => by rw [h4, ri_wi, if_neg (fun z => hk z.1)]; exact r3 k j hk
  have r5 : ∀ k j, k ≠ o → ri M5 k j = ri M k j := fun k j hk => by rw [h5, ri_wi, if_neg (fun z => hk z.1)]; exact r4 k j hk
  have f5 : ∀ j, j < 5 → ri M5 o j = ri M o' j := by
    intro j hj
    have : j = 0 ∨ j = 1 ∨ j = 2 ∨ j = 3 ∨ j = 4 := by omega
    rw [h5, h4, h3, h2, h1]
    simp only [ri_wi]
    rcases this with rfl | rfl | rfl | rfl | rfl <;> simp [hne.symm]
  have rest : ∀ k j, k ≠ o + 1 → k ≠ o + 2 → k ≠ o + 3 → k ≠ o + 4 → ri M9 k j = ri M5 k j := by
    intro k j c1 c2 c3 c4
    rw [h9, ri_cpi, if_neg (fun z => c4 z.1), h8, ri_cpi, if_neg (fun z => c3 z.1), h7, ri_cpi, if_neg (fun z => c1 z.1), h6, ri_cpi, if_neg (fun z => c2 z.1)]
  have row2 : ∀ j, j < 12 → ri M9 (o + 2) j = ri M (o' + 2) j := by
    intro j hj
    rw [h9, ri_cpi, if_neg (fun z => by omega), h8, ri_cpi, if_neg (fun z => by omega), h7, ri_cpi, if_neg (fun z => by omega), h6, ri_cpi, if_pos ⟨rfl, by omega, by omega⟩, r5 _ _ (by omega)]
    congr 1; omega
  have row1 : ∀ j, j < 8 → ri M9 (o + 1) j = ri M (o' + 1) j := by
    intro j hj
    rw [h9, ri_cpi, if_neg (fun z => by omega), h8, ri_cpi, if_neg (fun z => by omega), h7, ri_cpi, if_pos ⟨rfl, by omega, by omega⟩, h6, ri_cpi, if_neg (fun z => by omega), r5 _ _ (by omega)]
    congr 1; omega
  have row3 : ∀ j, j < 8 → ri M9 (o + 3) j = ri M (o' + 3) j := by
    intro j hj
    rw [h9, ri_cpi, if_neg (fun z => by omega), h8, ri_cpi, if_pos ⟨rfl, by omega, by omega⟩, h7, ri_cpi, if_neg (fun z => by omega), h6, ri_cpi, if_neg (fun z => by omega), r5 _ _ (by omega)]
    congr 1; omega
  have row4 : ∀ j, j < 8 → ri M9 (o + 4) j = ri M (o' + 4) j := by
    intro j hj
    rw [h9, ri_cpi, if_pos ⟨rfl, by omega, by omega⟩, h8, ri_cpi, if_neg (fun z => by omega), h7, ri_cpi, if_neg (fun z => by omega), h6, ri_cpi, if_neg (fun z => by omega), r5 _ _ (by omega)]
    congr 1; omega
  have ro : ∀ j, j < 5 → ri M9 o j = ri M o' j := fun j hj => by rw [rest o j (by omega) (by omega) (by omega) (by omega)]; exact f5 j hj
  refine hK M9 ⟨fun k hk j => ?_, fun k j => ?_⟩ ⟨⟨(ro 0 (by decide)).trans hF.1.1, (ro 1 (by decide)).trans hF.1.2.1, (ro 2 (by decide)).trans hF.1.2.2.1, (ro 3 (by decide)).trans hF.1.2.2.2.1, (ro 4 (by decide)).trans hF.1.2.2.2.2.1, fun j hj => (row1 j hj).trans (hF.1.2.2.2.2.2.1 j hj), fun i hi => (row2 i (by omega)).trans (hF.1.2.2.2.2.2.2 i hi)⟩, ⟨fun p hp => (row3 p hp).trans (hF.2.1.1 p hp), fun p hp => (row4 p hp).trans (hF.2.1.2 p hp)⟩, hF.2.2⟩
  · rw [rest k j (by omega) (by omega) (by omega) (by omega), r5 k j (by omega)]
  · rw [h9, h8, h7, h6, h5, h4, h3, h2, h1]; rfl
/-- a row of numbers holds the shire, from the f-th place on -/
def Rw (M : Mem) (w f : Nat) (S : Sh) : Prop := ri M w f = nI (sb S) ∧ ri M w (f + 1) = sy S ∧ ri M w (f + 2) = nI (sd S) ∧ ri M w (f + 3) = nI (sc S).length ∧ (∀ j, j < 8 → ri M w (f + 4 + j) = nI (sz S j)) ∧ ∀ i, i < (sc S).length → ri M w (f + 12 + i) = nI ((sc S)[i]?.getD 0)
/-- only the places f .. f + 23 of the row w may change -/
def Sr (M M' : Mem) (w f : Nat) : Prop := (∀ k j, ¬ (k = w ∧ f ≤ j ∧ j < f + 24) → ri M' k j = ri M k j) ∧ ∀ k j, rl M' k j = rl M k j
theorem c_writeTo {d o w nw f : Nat} (ho : kd o = (0, 2)) (hw : kd w = (1, nw)) (hf : f + 24 ≤ nw) (hnw : nw < 2000) (hap : w < o ∨ o + 5 < w) {K : Mem → Prop} {S : Sh} {M : Mem} (hF : Fr M o S) (hK : ∀ M', Sr M M' w f → Rw M' w f S → K M') : CV (d + 1) μX2_writeTo [.ref o, .ref w, .int (nI f)] M K := by
  have h12 := hF.2.2.2.2.1
  refine sg_X2_writeTo_0 ho hw ?_
  have e4 : (4 : Int32) = nI 4 := rfl
  rw [if_neg (nI_pos (by omega)), l_24, l_2, l_3, e4, l_8, l_12, nI_1, nI_add, nI_add, nI_add, nI_add, nI_add, if_pos (by rw [show Int32.ofNat nw = nI nw from rfl, nI_leI (by omega) (by omega)]; exact hf)]
  have c : ∀ i, i < 2 ^ 31 → nx (nI i) = i := fun i hi => nI_clamp hi
  rw [c f (by omega), c (f + 1) (by omega), c (f + 2) (by omega), c (f + 3) (by omega), c (f + 4) (by omega), c (f + 4 + 8) (by omega), c 8 (by omega), c 12 (by omega), x_0]
  refine ⟨n_in (by omega) (by omega), ?_⟩
  intro M1 h1
  refine ⟨n_in (by omega) (by omega), ?_⟩
  intro M2 h2
  refine ⟨n_in (by omega) (by omega), ?_⟩
  intro M3 h3
  refine ⟨n_in (by omega) (by omega), ?_⟩
  intro M4 h4
  refine ⟨⟨by decide, nI_pos (by omega), by decide, by omega, by omega⟩, ?_⟩
  intro M5 h5
  refine ⟨⟨by decide, nI_pos (by omega), by decide, by omega, by omega⟩, ?_⟩
  intro M6 h6
  have r1 : ∀ k j, ri M1 k j = if k = w ∧ j = f then ri M o 1 else ri M k j := by intro k j; rw [h1, ri_wi]
  have o1 : ∀ k, k ≠ w → ∀ j, ri M1 k j = ri M k j := fun k hk j => by rw [r1, if_neg (fun z => hk z.1)]
  have r2 : ∀ k j, ri M2 k j = if k = w ∧ j = f + 1 then ri M o 2 else ri M1 k j := by intro k j; rw [h2, ri_wi, o1 o (by omega)]
  have o2 : ∀ k, k ≠ w → ∀ j, ri M2 k j = ri M k j := fun k hk j => by rw [r2, if_neg (fun z => hk z.1)]; exact o1 k hk j
  have r3 : ∀ k j, ri M3 k j = if k = w ∧ j = f + 2 then ri M o 3 else ri M2 k j := by intro k j; rw [h3, ri_wi, o2 o (by omega)]
  have o3 : ∀ k, k ≠ w → ∀ j, ri M3 k j = ri M k j := fun k hk j => by rw [r3, if_neg (fun z => hk z.1)]; exact o2 k hk j
  have r4 : ∀ k j, ri M4 k j = if k = w ∧ j = f + 3 then ri M o 4 else ri M3 k j := by intro k j; rw [h4, ri_wi, o3 o (by omega)]
  have o4 : ∀ k, k ≠ w → ∀ j, ri M4 k j = ri M k j := fun k hk j => by rw [r4, if_neg (fun z => hk z.1)]; exact o3 k hk j
  have r5 : ∀ k j, ri M5 k j = if k = w ∧ f + 4 ≤ j ∧ j < f + 4 + 8 then ri M (o + 1) (0 + (j - (f + 4))) else ri M4 k j := by intro k j; rw [h5, ri_cpi, o4 (o + 1) (by omega)]
  have o5 : ∀ k, k ≠ w → ∀ j, ri M5 k j = ri M k j := fun k hk j => by rw [r5, if_neg (fun z => hk z.1)]; exact o4 k hk j
  have r6 : ∀ k j, ri M6 k j = if k = w ∧ f + 4 + 8 ≤ j ∧ j < f + 4 + 8 + 12 then ri M (o + 2) (0 + (j - (f + 4 + 8))) else ri M5 k j := by intro k j; rw [h6, ri_cpi, o5 (o + 2) (by omega)]
  refine hK M6 ⟨fun k j hn => ?_, fun k j => by rw [h6, h5, h4, h3, h2, h1]; rfl⟩ ⟨?_, ?_, ?_, ?_, fun j hj => ?_, fun i hi => ?_⟩
  · rw [r6, if_neg (fun z => hn ⟨z.1, by omega, by omega⟩), r5, if_neg (fun z => hn ⟨z.1, by omega, by omega⟩), r4, if_neg (fun z => hn ⟨z.1, by omega, by omega⟩), r3, if_neg (fun z => hn ⟨z.1, by omega, by omega⟩), r2, if_neg (fun z => hn ⟨z.1, by omega, by omega⟩), r1, if_neg (fun z => hn ⟨z.1, by omega, by omega⟩)]
  · rw [r6, if_neg (fun z => by omega), r5, if_neg (fun z => by omega), r4, if_neg (fun z => by omega), r3, if_neg (fun z => by omega), r2, if_neg (fun z => by omega), r1, if_pos ⟨rfl, rfl⟩]; exact hF.1.2.1
  · rw [r6, if_neg (fun z => by omega), r5, if_neg (fun z => by omega), r4, if_neg (fun z => by omega), r3, if_neg (fun z => by omega), r2, if_pos ⟨rfl, rfl⟩]; exact hF.1.2.2.1
  · rw [r6, if_neg (fun z => by omega), r5, if_neg (fun z => by omega), r4, if_neg (fun z => by omega), r3, if_pos ⟨rfl, rfl⟩]; exact hF.1.2.2.2.1
  · rw [r6, if_neg (fun z => by omega), r5, if_neg (fun z => by omega), r4, if_pos ⟨rfl, rfl⟩]; exact hF.1.2.2.2.2.1
  · rw [r6, if_neg (fun z => by omega), r5, if_pos ⟨rfl, by omega, by omega⟩, show 0 + (f + 4 + j - (f + 4)) = j by omega]; exact hF.1.2.2.2.2.2.1 j hj
  · rw [r6, if_pos ⟨rfl, by omega, by omega⟩, show 0 + (f + 12 + i - (f + 4 + 8)) = i by omega]; exact hF.1.2.2.2.2.2.2 i hi
