/-! lordOf, dropStraw, goSeason -/
theorem lordB : ∀ m, m < 256 → pc8 m = 3 → nI (cdm m) >>> (6 &&& 31) = nI (bx m) ∧ (nI (cdm m) >>> (3 &&& 31)) &&& 7 = nI (bY m) ∧ nI (cdm m) &&& 7 = nI (bz m) := by decide +kernel
theorem r_lord0 {d : Nat} {M : Mem} {K : Int32 → Mem → Prop} {m : Nat} (hm : T3 m) (h : K (nI (bx m)) M) : CI d μX9_lordOf [.int (nI (cdm m)), .int 0] M K := by
  refine sg_X9_lordOf_0 ?_
  rw [if_pos rfl, (lordB m hm.1 hm.2).1]; exact h
theorem r_lord1 {d : Nat} {M : Mem} {K : Int32 → Mem → Prop} {m : Nat} (hm : T3 m) (h : K (nI (bY m)) M) : CI d μX9_lordOf [.int (nI (cdm m)), .int 1] M K := by
  refine sg_X9_lordOf_0 ?_
  rw [if_neg (by decide), if_pos rfl, (lordB m hm.1 hm.2).2.1]; exact h
theorem r_lord2 {d : Nat} {M : Mem} {K : Int32 → Mem → Prop} {m : Nat} (hm : T3 m) (h : K (nI (bz m)) M) : CI d μX9_lordOf [.int (nI (cdm m)), .int 2] M K := by
  refine sg_X9_lordOf_0 ?_
  rw [if_neg (by decide), if_neg (by decide), (lordB m hm.1 hm.2).2.2]; exact h
theorem Ar.setD {M M' : Mem} {S : Sh} {v : Nat} (hS : SOk S) (h : Ar M 69 S) (e : M' = wi M 69 23 (nI v)) : Ar M' 69 (setD S v) := by
  have h12 := hS.2.2.1
  have r : ∀ j, ri M' 69 j = if j = 23 then nI v else ri M 69 j := by intro j; rw [e, ri_wi]; simp
  refine ⟨fun i hi => ?_, ?_, ?_, fun j hj => ?_, ?_, ?_⟩
  · have hi : i < (sc S).length := hi
    rw [r, if_neg (by omega)]; exact h.1 i hi
  · rw [r, if_neg (by omega)]; exact h.2.1
  · rw [r, if_neg (by omega)]; exact h.2.2.1
  · rw [r, if_neg (by omega)]; exact h.2.2.2.1 j hj
  · rw [r, if_neg (by omega)]; exact h.2.2.2.2.1
  · rw [r, if_pos rfl]; rfl
theorem Ar.setY {M M' : Mem} {S : Sh} {y : Int32} (hS : SOk S) (h : Ar M 69 S) (e : M' = wi M 69 22 y) : Ar M' 69 (setY S y) := by
  have h12 := hS.2.2.1
  have r : ∀ j, ri M' 69 j = if j = 22 then y else ri M 69 j := by intro j; rw [e, ri_wi]; simp
  refine ⟨fun i hi => ?_, ?_, ?_, fun j hj => ?_, ?_, ?_⟩
  · have hi : i < (sc S).length := hi
    rw [r, if_neg (by omega)]; exact h.1 i hi
  · rw [r, if_neg (by omega)]; exact h.2.1
  · rw [r, if_neg (by omega)]; exact h.2.2.1
  · rw [r, if_neg (by omega)]; exact h.2.2.2.1 j hj
  · rw [r, if_pos rfl]; rfl
  · rw [r, if_neg (by omega)]; exact h.2.2.2.2.2
theorem r_dropStraw {d : Nat} {M : Mem} {K : Mem → Prop} {G : Sh → Prop} (hG : Clo G) (hG2 : G2 G) {S : Sh} {straw : Nat} (hst : straw ≤ 100) (hGS : G S) (hA : Ar M 69 S) (h36 : ri M 58 36 = nI straw) (hK : ∀ M', Sa M M' → Ar M' 69 (strS S straw) → G (strS S straw) → K M') : CV (d + 4) μX9_dropStraw [.ref 58] M K := by
  have hS := hG.1 S hGS
  have h8 := hS.1
  have h12 := hS.2.2.1
  have hsd : sd S < 1000 := hS.2.2.2.2.1
  refine sg_X9_dropStraw_0 ?_
  intro M1 h1
  rw [x_23, hA.2.2.2.2.2] at h1
  have ev : (nI (sd S) * 137 + 71) - (nI (sd S) * 137 + 71) / 1000 * 1000 = nI ((sd S * 137 + 71) % 1000) := by
    rw [show (137 : Int32) = nI 137 from rfl, show (71 : Int32) = nI 71 from rfl, l_1000, n_mul, nI_add]
    exact pk_rem (by omega) (by omega) (by omega)
  rw [ev] at h1
  generalize hv : (sd S * 137 + 71) % 1000 = v at h1
  have hv1 : v < 1000 := by rw [← hv]; exact Nat.mod_lt _ (by omega)
  have A1 : Ar M1 69 (setD S v) := hA.setD hS h1
  have s1 : Sa M M1 := by rw [h1]; exact Sa.wi
  have G1 : G (setD S v) := hG.2.2.2.2.2.1 S v hGS hv1
  have hS1 := hG.1 _ G1
  obtain ⟨hsrt, hn1, hn4⟩ := hG2 _ G1
  have hseed : ri M1 69 23 = nI v := A1.2.2.2.2.2
  have hlen : ri M1 69 12 = nI (sc S).length := A1.2.1
  rw [x_23, x_12, hseed, hlen, s1.1 58 (by decide), h36]
  have e100 : nI v - nI v / 100 * 100 = nI (v % 100) := by rw [l_100]; exact pk_rem (by omega) (by omega) (by omega)
  rw [e100]
  have noflip : ¬ (v % 100 < straw ∧ 0 < (sc S).length) → setD S v = strS S straw := by
    intro hno
    unfold strS
    simp only [hv]
    rw [if_neg hno]
  by_cases c1 : v % 100 < straw
  · rw [if_neg (by rw [nI_leI (by omega) (by omega)]; omega)]
    by_cases c2 : 0 < (sc S).length
    · have hne : ¬ nI (sc S).length = 0 := by rw [l_0, nI_eq (by omega) (by omega)]; omega
      rw [if_neg hne]
      have er : nI v - nI v / nI (sc S).length * nI (sc S).length = nI (v % (sc S).length) := pk_rem (by omega) c2 (by omega)
      have hml := Nat.mod_lt v c2
      rw [er]
      refine ⟨hne, n_in (by omega) (by decide), ?_⟩
      have hrd : ri M1 69 (nx (nI (v % (sc S).length))) = nI (cdm ((sc S)[v % (sc S).length]?.getD 0)) := by
        rw [show nx (nI (v % (sc S).length)) = v % (sc S).length from nI_clamp (by omega)]
        exact A1.1 _ hml
      rw [hrd]
      have hmem : (sc S)[v % (sc S).length]?.getD 0 ∈ sc S := by rw [List.getElem?_eq_getElem hml]; exact List.getElem_mem _
      have hstr : strS S straw = if fe (setD S v) (bx ((sc S)[v % (sc S).length]?.getD 0)) (bY ((sc S)[v % (sc S).length]?.getD 0)) ≠ 0 then flipS (setD S v) (bx ((sc S)[v % (sc S).length]?.getD 0)) (bY ((sc S)[v % (sc S).length]?.getD 0)) else setD S v := by
        unfold strS
        simp only [hv]
        rw [if_pos ⟨c1, c2⟩]
        rfl
      generalize (sc S)[v % (sc S).length]?.getD 0 = m at hmem hstr ⊢
      have hT := hS.2.2.2.1 m hmem
      obtain ⟨x8, y8, z8, xy, -, -, -, t1, t2, -⟩ := bxyz m hT.1 hT.2
      have hxn : bx m < sn (setD S v) := hn4.2 _ (hn4.1 m hmem _ t1)
      have hyn : bY m < sn (setD S v) := hn4.2 _ (hn4.1 m hmem _ t2)
      refine r_lord0 hT ?_
      refine r_lord1 hT ?_
      refine r_canFlip (d := d) hxn hyn hS1 hn1 hn4 A1 ?_
      by_cases hf : fe (setD S v) (bx m) (bY m) ≠ 0
      · rw [show decide (fe (setD S v) (bx m) (bY m) ≠ 0) = true from decide_eq_true hf, if_neg (by decide)]
        refine r_lord0 hT ?_
        refine r_lord1 hT ?_
        rw [if_pos hf] at hstr
        refine r_doFlip (d := d) hxn hyn hS1 hsrt hn1 hn4 hf A1 (fun M' s' A' => ?_)
        refine hK M' (s1.trans s') (by rw [hstr]; exact A') (by rw [hstr]; exact hG.2.2.1 _ _ _ G1 hxn hyn hf)
      · rw [show decide (fe (setD S v) (bx m) (bY m) ≠ 0) = false from decide_eq_false hf, if_pos (by decide)]
        rw [if_neg hf] at hstr
        exact hK M1 s1 (by rw [hstr]; exact A1) (by rw [hstr]; exact G1)
    · rw [if_pos (by rw [l_0, nI_eq (by omega) (by omega)]; omega)]
      have e := noflip (fun z => c2 z.2)
      exact hK M1 s1 (by rw [← e]; exact A1) (by rw [← e]; exact G1)
  · rw [if_pos (by rw [nI_leI (by omega) (by omega)]; omega)]
    have e := noflip (fun z => c1 z.1)
    exact hK M1 s1 (by rw [← e]; exact A1) (by rw [← e]; exact G1)
