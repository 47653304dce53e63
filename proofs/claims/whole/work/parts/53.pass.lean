/-! passSeason, passSeasons, copyFrom -/
theorem n_mul (a b : Nat) : nI a * nI b = nI (a * b) := (Int32.ofNat_mul a b).symm
theorem sc_setD (S : Sh) (v : Nat) : sc (setD S v) = sc S := rfl
theorem pass_end {d o g : Nat} (ho : kd o = (0, 2)) (hg : kd g = (0, 1)) {K : Mem → Prop} {G : Sh → Prop} (hG : Clo G) {S : Sh} {F : List Int32} {straw : Nat} (hst : straw ≤ 100) {M : Mem} (hF : Fr M o S) (hGS : G S) (hm : Fm M g F) (hK : ∀ M', Sm M M' o → Fr M' o (setY (strS S straw) (sy (strS S straw) + 1)) → G (setY (strS S straw) (sy (strS S straw) + 1)) → Fm M' g F → K M') :
    RV (d + 4) μX2_passSeason 87 [(0, .ref o), (1, .ref g), (2, .int (nI straw)), (3, .int (nI (sn S)))] [] M K := by
  have hS := hF.2.2
  have h8 : sn S ≤ 8 := hS.1
  have h12 : (sc S).length ≤ 12 := hS.2.2.1
  have hsd : sd S < 1000 := hS.2.2.2.2.1
  refine sg_X2_passSeason_87 ho hg ?_
  rw [hF.1.1, if_pos (by rw [nI_leI (by omega) (by omega)]; omega), hF.1.2.2.2.1]
  intro M1 h1
  have ev : (nI (sd S) * 137 + 71) - (nI (sd S) * 137 + 71) / 1000 * 1000 = nI ((sd S * 137 + 71) % 1000) := by
    rw [show (137 : Int32) = nI 137 from rfl, show (71 : Int32) = nI 71 from rfl, l_1000, n_mul, nI_add]
    exact pk_rem (by omega) (by omega) (by omega)
  rw [ev] at h1
  generalize hv : (sd S * 137 + 71) % 1000 = v at h1
  have hv1 : v < 1000 := by rw [← hv]; exact Nat.mod_lt _ (by omega)
  have F1 : Fr M1 o (setD S v) := hF.setD hv1 h1
  have sm1 : Sm M M1 o := by rw [h1]; exact Sm.wi (by omega) (by omega)
  have G1 : G (setD S v) := hG.2.2.2.2.2.1 S v hGS hv1
  have hseed : ri M1 o 3 = nI v := F1.1.2.2.2.1
  have hlen : ri M1 o 4 = nI (sc S).length := F1.1.2.2.2.2.1
  rw [hseed, hlen]
  have e100 : nI v - nI v / 100 * 100 = nI (v % 100) := by rw [l_100]; exact pk_rem (by omega) (by omega) (by omega)
  rw [e100]
  -- how it ends
  have fin : ∀ (S2 : Sh) (M2 M3 : Mem), Sm M1 M2 o → Fr M2 o S2 → G S2 → S2 = strS S straw → M3 = wi M2 o 2 (ri M2 o 2 + 1) → K M3 := by
    intro S2 M2 M3 s2 F2 G2 e2 h3
    have sm3 : Sm M2 M3 o := by rw [h3]; exact Sm.wi (by omega) (by omega)
    have hy : ri M2 o 2 = sy S2 := F2.1.2.2.1
    rw [hy] at h3
    have F3 := F2.setY h3
    have G3 := hG.2.2.2.2.2.2 S2 (sy S2 + 1) G2
    subst e2
    exact hK M3 ((sm1.trans s2).trans sm3) F3 G3 (((hm.keepO ho hg sm1).keepO ho hg s2).keepO ho hg sm3)
  have noflip : ¬ (v % 100 < straw ∧ 0 < (sc S).length) → setD S v = strS S straw := by
    intro hno
    unfold strS
    simp only [hv]
    rw [if_neg hno]
  by_cases c1 : v % 100 < straw
  · rw [if_neg (by rw [nI_leI (by omega) (by omega)]; omega)]
    by_cases c2 : 0 < (sc S).length
    · rw [if_neg (by rw [l_0, nI_leI (by omega) (by omega)]; omega)]
      have hne : ¬ nI (sc S).length = 0 := by rw [l_0, nI_eq (by omega) (by omega)]; omega
      have er : nI v - nI v / nI (sc S).length * nI (sc S).length = nI (v % (sc S).length) := pk_rem (by omega) c2 (by omega)
      have hml := Nat.mod_lt v c2
      rw [er]
      refine ⟨hne, n_in (by omega) (by decide), ?_⟩
      have hrd : ri M1 (o + 2) (nx (nI (v % (sc S).length))) = nI ((sc S)[v % (sc S).length]?.getD 0) := by
        rw [show nx (nI (v % (sc S).length)) = v % (sc S).length from nI_clamp (by omega)]
        exact F1.1.2.2.2.2.2.2 _ hml
      rw [hrd]
      have hmem : (sc S)[v % (sc S).length]?.getD 0 ∈ sc S := by rw [List.getElem?_eq_getElem hml]; exact List.getElem_mem _
      have hstr : strS S straw = if fe (setD S v) (low8 ((sc S)[v % (sc S).length]?.getD 0)) (low8 ((sc S)[v % (sc S).length]?.getD 0 &&& ((sc S)[v % (sc S).length]?.getD 0 - 1))) ≠ 0 then flipS (setD S v) (low8 ((sc S)[v % (sc S).length]?.getD 0)) (low8 ((sc S)[v % (sc S).length]?.getD 0 &&& ((sc S)[v % (sc S).length]?.getD 0 - 1))) else setD S v := by
        unfold strS
        simp only [hv]
        rw [if_pos ⟨c1, c2⟩]
      generalize (sc S)[v % (sc S).length]?.getD 0 = m at hmem hstr ⊢
      have hT := hS.2.2.2.1 m hmem
      obtain ⟨t0, t1, t2, t3, t4, t5⟩ := T3_low m hT.1 hT.2
      refine c_lowest hT.1 ?_
      rw [if_neg t0]
      have e1 : nI m - 1 = nI (m - 1) := by
        obtain ⟨z, hz⟩ : ∃ z, m = z + 1 := ⟨m - 1, by omega⟩
        rw [hz]; exact nI_pred z
      rw [e1, n_and]
      refine c_lowest t3 ?_
      rw [if_neg t2]
      refine c_turnWall ho F1 (fun h0 => ?_) (fun i j M' ei ej hi hj hne' s' f' => ?_)
      · intro M10 h10
        refine fin (setD S v) M1 M10 Sm.rf F1 G1 ?_ h10
        rw [hstr]
        -- it can't be flipped
        have : ¬ fe (setD S v) (low8 m) (low8 (m &&& (m - 1))) ≠ 0 := by
          intro hz
          have hmt := (fe_pos hz).1
          obtain ⟨i, j, hi, hj, ei, ej⟩ := mtI_in F1.2.2 hmt
          have hi' := (nI_eq (by omega) (by have : sn (setD S v) = sn S := rfl; omega)).mp ei
          have hj' := (nI_eq (by omega) (by have : sn (setD S v) = sn S := rfl; omega)).mp ej
          rw [← hi'] at hi
          rw [← hj'] at hj
          rw [feI_nat F1.2.2 hi hj] at h0
          exact hz h0
        rw [if_neg this]
      · intro M10 h10
        have hsn : sn (setD S v) = sn S := rfl
        have hi' := (nI_eq (by omega) (by omega)).mp ei
        have hj' := (nI_eq (by omega) (by omega)).mp ej
        subst hi'; subst hj'
        refine fin _ M' M10 s' f' (hG.2.2.1 _ _ _ G1 hi hj hne') ?_ h10
        rw [hstr, if_pos hne']
    · rw [if_pos (by rw [l_0, nI_leI (by omega) (by omega)]; omega)]
      intro M3 h3
      exact fin (setD S v) M1 M3 Sm.rf F1 G1 (noflip (fun z => c2 z.2)) h3
  · rw [if_pos (by rw [nI_leI (by omega) (by omega)]; omega)]
    intro M2 h2
    exact fin (setD S v) M1 M2 Sm.rf F1 G1 (noflip (fun z => c1 z.1)) h2
theorem sn_wlsS (n : Nat) : ∀ (r : Nat) (S : Sh), sn (wlsS n S r) = sn S := by
  intro r
  induction r with
  | zero => intro S; rfl
  | succ r ih =>
    intro S
    unfold wlsS
    rw [ih]
    split
    · exact sn_withS _ _
    · rfl
theorem sn_strS (S : Sh) (straw : Nat) : sn (strS S straw) = sn S := by
  unfold strS
  simp only
  split
  · split <;> rfl
  · rfl
theorem sn_seaS (S : Sh) (F : List Int32) (straw : Nat) : sn (seaS S F straw) = sn S := by
  unfold seaS
  show sn (strS _ straw) = _
  rw [sn_strS, sn_wlsS]
  rfl
theorem clS_same {n : Nat} (h : n ≤ 999) : clS (nI n + 0) = nI n := by
  have e : nI n + 0 = nI n := by rw [l_0, nI_add, Nat.add_zero]
  rw [e]
  unfold clS
  have c1 : (nI n < 999) ↔ n < 999 := nI_ltI (b := 999) (by omega) (by omega)
  have c2 : (0 < nI n) ↔ 0 < n := nI_ltI (a := 0) (by omega) (by omega)
  by_cases c : n < 999
  · have c1' := c1.mpr c
    simp only [c1', if_true]
    by_cases z : 0 < n
    · rw [if_pos (c2.mpr z)]
    · have : n = 0 := by omega
      subst this
      decide
  · have : n = 999 := by omega
    subst this
    decide
theorem c_passSeason {d o g : Nat} (ho : kd o = (0, 2)) (hg : kd g = (0, 1)) {K : Mem → Prop} {G : Sh → Prop} (hG : Clo G) {S : Sh} {F : List Int32} {straw : Nat} (hst : straw ≤ 100) {M : Mem} (hF : Fr M o S) (hGS : G S) (hm : Fm M g F) (hK : ∀ M', Sp M M' o g → Fr M' o (seaS S F straw) → G (seaS S F straw) → Fm M' g F → K M') : CV (d + 4) μX2_passSeason [.ref o, .ref g, .int (nI straw)] M K := by
  have hS := hF.2.2
  have h8 : sn S ≤ 8 := hS.1
  refine sg_X2_passSeason_0 ho hg ?_
  refine season_1 ho hg (S := S) (F := F) M (fun M1 s1 F1 m1 q1 => ?_) (sn S) 0 M (by omega) Sp.rf hF hm (fun q h => absurd h (Nat.not_lt_zero _))
  have e0 : setZ S (szU S (gvS S F) 0) = S := by
    show (sn S, sb S, sy S, sd S, sc S, szU S (gvS S F) 0) = S
    have : szU S (gvS S F) 0 = sz S := by funext j; unfold szU; rw [if_neg (Nat.not_lt_zero _)]
    rw [this]; rfl
  refine season_2 ho hg (S := S) (F := F) (gv := gvS S F) hS M (fun M2 s2 F2 m2 => ?_) (sn S) 0 M1 (by omega) s1 (by rw [e0]; exact F1) m1 q1
  have G2 : G (setZ S (szU S (gvS S F) (sn S))) := by
    refine hG.2.2.2.2.1 S _ hGS (szU_le hS _ _) (fun j ht => ?_)
    unfold szU
    split
    · have hz := hS.2.2.2.2.2 j
      have : gvS S F j = 0 := by unfold gvS; rw [ht]; rfl
      rw [this, clS_same hz]
      exact nI_clamp (by omega)
    · rfl
  refine season_3 ho hg hG (n := sn S) (F := F) (SE := wlsS (sn S) (setZ S (szU S (gvS S F) (sn S))) (sn S)) M (fun M3 s3 F3 G3 m3 => ?_) (sn S) (setZ S (szU S (gvS S F) (sn S))) M2 (Nat.le_refl _) rfl h8 rfl s2 F2 G2 m2 |> (fun h => by rw [Nat.sub_self] at h; exact h)
  have e : sn (wlsS (sn S) (setZ S (szU S (gvS S F) (sn S))) (sn S)) = sn S := sn_wlsS _ _ _
  have := pass_end (d := d) ho hg hG hst F3 G3 m3 (K := K) (fun M4 s4 F4 G4 m4 => hK M4 (s3.trans (s4.sp g)) F4 G4 m4)
  rw [e] at this
  exact this
/-- n seasons -/
def seasS (F : List Int32) (straw : Nat) : Nat → Sh → Sh
  | 0, S => S
  | n + 1, S => seasS F straw n (seaS S F straw)
theorem sn_seasS (F : List Int32) (straw : Nat) : ∀ (n : Nat) (S : Sh), sn (seasS F straw n S) = sn S := by
  intro n
  induction n with
  | zero => intro S; rfl
  | succ n ih => intro S; show sn (seasS F straw n (seaS S F straw)) = _; rw [ih, sn_seaS]
theorem c_passSeasons {d o g : Nat} (ho : kd o = (0, 2)) (hg : kd g = (0, 1)) {K : Mem → Prop} {G : Sh → Prop} (hG : Clo G) {F : List Int32} {straw n : Nat} (hst : straw ≤ 100) (hn : n < 1000) {S : Sh} {M : Mem} (hF : Fr M o S) (hGS : G S) (hm : Fm M g F) (hK : ∀ M', Sp M M' o g → Fr M' o (seasS F straw n S) → G (seasS F straw n S) → Fm M' g F → K M') : CV (d + 5) μX2_passSeasons [.ref o, .int (nI n), .ref g, .int (nI straw)] M K := by
  refine sg_X2_passSeasons_0 ho hg ?_
  have loop : ∀ (f i : Nat) (S1 : Sh) (M1 : Mem), f + i = n → Sp M M1 o g → Fr M1 o S1 → G S1 → Fm M1 g F → seasS F straw f S1 = seasS F straw n S → RV (d + 5) μX2_passSeasons 3 [(0, .ref o), (1, .int (nI n)), (2, .ref g), (3, .int (nI straw)), (4, .int (nI i))] [] M1 K := by
    intro f
    induction f with
    | zero =>
      intro i S1 M1 hi s1 F1 G1 m1 e
      refine sg_X2_passSeasons_3 ho hg ?_
      rw [if_pos (by rw [nI_leI (by omega) (by omega)]; omega)]
      have e : S1 = seasS F straw n S := e
      subst e
      exact hK M1 s1 F1 G1 m1
    | succ f ih =>
      intro i S1 M1 hi s1 F1 G1 m1 e
      refine sg_X2_passSeasons_3 ho hg ?_
      rw [if_neg (by rw [nI_leI (by omega) (by omega)]; omega), nI_1]
      exact c_passSeason ho hg hG hst F1 G1 m1 (fun M2 s2 F2 G2 m2 => ih (i + 1) _ M2 (by omega) (s1.trans s2) F2 G2 m2 e)
  exact loop n 0 S M (by omega) Sp.rf hF hGS hm rfl
