/-! the reference's season: the first two loops -/
/-- what a season of the model may change: values, asks, air, more -/
def Sq (M M' : Mem) : Prop := (∀ k, k ≠ 66 → k ≠ 67 → k ≠ 69 → k ≠ 71 → ∀ j, ri M' k j = ri M k j) ∧ ∀ k j, rl M' k j = rl M k j
theorem Sq.rf {M : Mem} : Sq M M := ⟨fun _ _ _ _ _ _ => rfl, fun _ _ => rfl⟩
theorem Sq.trans {M M' M'' : Mem} (h : Sq M M') (h2 : Sq M' M'') : Sq M M'' := ⟨fun k a b c e j => (h2.1 k a b c e j).trans (h.1 k a b c e j), fun k j => (h2.2 k j).trans (h.2 k j)⟩
theorem Sv.sq {M M' : Mem} (h : Sv M M') : Sq M M' := ⟨fun k a b _ _ j => h.1 k a b j, h.2⟩
theorem Sa.sq {M M' : Mem} (h : Sa M M') : Sq M M' := ⟨fun k _ _ c _ j => h.1 k c j, h.2⟩
theorem Sq.w71 {M : Mem} {j : Nat} {x : Int32} : Sq M (wi M 71 j x) := ⟨fun k _ _ _ e b => by rw [ri_wi, if_neg (fun q => e q.1)], fun _ _ => rfl⟩
theorem Rf.keepQ {M M' : Mem} {F : List Int32} (h : Rf M F) (hs : Sq M M') : Rf M' F :=
  ⟨(hs.1 58 (by decide) (by decide) (by decide) (by decide) 25).trans h.1, (hs.1 58 (by decide) (by decide) (by decide) (by decide) 18).trans h.2.1, h.2.2.1, h.2.2.2.1, fun i hi => by rw [hs.1 63 (by decide) (by decide) (by decide) (by decide), hs.1 64 (by decide) (by decide) (by decide) (by decide)]; exact h.2.2.2.2 i hi⟩
theorem Ar.keep71 {M : Mem} {S : Sh} {j : Nat} {x : Int32} (h : Ar M 69 S) : Ar (wi M 71 j x) 69 S := by
  have r : ∀ b, ri (wi M 71 j x) 69 b = ri M 69 b := fun b => by rw [ri_wi, if_neg (fun q => by omega)]
  exact ⟨fun i hi => (r i).trans (h.1 i hi), (r 12).trans h.2.1, (r 13).trans h.2.2.1, fun k hk => (r _).trans (h.2.2.2.1 k hk), (r 22).trans h.2.2.2.2.1, (r 23).trans h.2.2.2.2.2⟩
theorem thI_nat {S : Sh} (hS : SOk S) {p : Nat} (hp : p < sn S) : thI S (nI p) = (sb S).testBit p := by
  have h8 := hS.1
  unfold thI nx
  rw [nI_clamp (by omega), show decide (0 ≤ nI p ∧ nI p < nI (sn S)) = true from decide_eq_true ⟨nI_pos' (by omega), nI_lt hp (by omega)⟩, Bool.true_and]
theorem rs_1 {d : Nat} {K : Mem → Prop} {S : Sh} {F : List Int32} {x1 : Int32} (hS : SOk S) (h4 : N4 S) (hW : WfF F) (M0 : Mem) (hK : ∀ M', Sq M0 M' → Ar M' 69 S → Rf M' F → ri M' 58 35 = nI (sn S) → (∀ q, q < sn S → ri M' 71 q = gvS S F q) → RV (d + 3) μX9_goSeason 41 [(0, .ref 58), (1, .int x1), (2, .int 0)] [] M' K) :
    ∀ (f p : Nat) (M : Mem), f + p = sn S → Sq M0 M → Ar M 69 S → Rf M F → ri M 58 35 = nI (sn S) → (∀ q, q < p → ri M 71 q = gvS S F q) → RV (d + 3) μX9_goSeason 2 [(0, .ref 58), (1, .int x1), (2, .int (nI p))] [] M K := by
  have h8 := hS.1
  intro f
  induction f with
  | zero =>
    intro p M hp hs hA hF hn hq
    have hp : p = sn S := by omega
    subst hp
    refine sg_X9_goSeason_2 ?_
    rw [hn, if_pos (by rw [nI_leI (by omega) (by omega)]; omega)]
    exact hK M hs hA hF hn hq
  | succ f ih =>
    intro p M hp hs hA hF hn hq
    have e1 : nx (nI p) = p := nI_clamp (by omega)
    refine sg_X9_goSeason_2 ?_
    rw [hn, if_neg (by rw [nI_leI (by omega) (by omega)]; omega)]
    refine r_isThere (by omega) hS.2.1 hA ?_
    have wr : ∀ (M1 M3 : Mem) (v : Int32), Sv M M1 → v = gvS S F p → M3 = wi M1 71 (nx (nI p)) v → RV (d + 3) μX9_goSeason 2 [(0, .ref 58), (1, .int x1), (2, .int (nI p + 1))] [] M3 K := by
      intro M1 M3 v hs1 hv h3
      rw [e1] at h3
      rw [nI_1]
      have q3 : Sq M M3 := hs1.sq.trans (by rw [h3]; exact Sq.w71)
      refine ih (p + 1) M3 (by omega) (hs.trans q3) (by rw [h3]; exact (hA.keepV (by decide) (by decide) hs1).keep71) (hF.keepQ q3) ((q3.1 58 (by decide) (by decide) (by decide) (by decide) 35).trans hn) (fun q hqp => ?_)
      rw [h3, ri_wi]
      by_cases hz : q = p
      · rw [if_pos ⟨rfl, hz⟩, hz]; exact hv
      · rw [if_neg (fun z => hz z.2), hs1.1 71 (by decide) (by decide) q]; exact hq q (by omega)
    have hth := thI_nat hS (p := p) (by omega)
    cases ht : (sb S).testBit p with
    | false =>
      rw [if_pos (by decide)]
      exact ⟨n_in (by omega) (by decide), fun M3 h3 => wr M M3 0 Sv.rf (by unfold gvS; rw [hth, ht]; rfl) h3⟩
    | true =>
      rw [if_neg (by decide)]
      exact r_growth (by omega) hS h4 hW hA hF (fun M1 hs1 => ⟨n_in (by omega) (by decide), fun M3 h3 => wr M1 M3 _ hs1 (by unfold gvS; rw [hth, ht, if_pos rfl]) h3⟩)
theorem r_within999 {d : Nat} {M : Mem} {K : Int32 → Mem → Prop} {v : Int32} (h : K (clS v) M) : CI d μX9_within [.int v, .int 0, .int 999] M K := by
  refine sg_X9_within_0 ?_
  unfold clS at h
  have n1 : (0 : Int32).toInt = 0 := by decide
  have n2 : (999 : Int32).toInt = 999 := by decide
  by_cases c1 : (0 : Int32) ≤ v
  · rw [if_pos c1]
    have k1 := Int32.le_iff_toInt_le.mp c1
    by_cases c2 : v ≤ 999
    · rw [if_pos c2]
      have k2 := Int32.le_iff_toInt_le.mp c2
      by_cases c3 : v < 999
      · simp only [c3, if_true] at h
        by_cases c4 : (0 : Int32) < v
        · rw [if_pos c4] at h; exact h
        · have : v = 0 := Int32.toInt_inj.mp (by have := Int32.le_iff_toInt_le.mp (i_nlt.mp c4); omega)
          rw [if_neg c4] at h
          rw [this]; exact h
      · have : v = 999 := Int32.toInt_inj.mp (by have := Int32.le_iff_toInt_le.mp (i_nlt.mp c3); omega)
        simp only [c3, if_false] at h
        rw [if_pos (by decide)] at h
        rw [this]; exact h
    · rw [if_neg c2]
      have c3 : ¬ v < 999 := fun z => c2 (Int32.le_of_lt z)
      simp only [c3, if_false] at h
      rw [if_pos (by decide)] at h
      exact h
  · rw [if_neg c1]
    have k1 := Int32.lt_iff_toInt_lt.mp (i_nle.mp c1)
    have c3 : v < 999 := Int32.lt_iff_toInt_lt.mpr (by omega)
    simp only [c3, if_true] at h
    rw [if_neg (fun z => c1 (Int32.le_of_lt z))] at h
    exact h
theorem rs_2 {d : Nat} {K : Mem → Prop} {S : Sh} {F : List Int32} {x1 : Int32} {gv : Nat → Int32} (hS : SOk S) (M0 : Mem) (hK : ∀ M', Sq M0 M' → Ar M' 69 (setZ S (szU S gv (sn S))) → Rf M' F → ri M' 58 35 = nI (sn S) → RV (d + 3) μX9_goSeason 89 [(0, .ref 58), (1, .int x1), (2, .int 0)] [] M' K) :
    ∀ (f p : Nat) (M : Mem), f + p = sn S → Sq M0 M → Ar M 69 (setZ S (szU S gv p)) → Rf M F → ri M 58 35 = nI (sn S) → (∀ q, q < sn S → ri M 71 q = gv q) → RV (d + 3) μX9_goSeason 41 [(0, .ref 58), (1, .int x1), (2, .int (nI p))] [] M K := by
  have h8 := hS.1
  have h12 := hS.2.2.1
  intro f
  induction f with
  | zero =>
    intro p M hp hs hA hF hn hq
    have hp : p = sn S := by omega
    subst hp
    refine sg_X9_goSeason_41 ?_
    rw [hn, if_pos (by rw [nI_leI (by omega) (by omega)]; omega)]
    exact hK M hs hA hF hn
  | succ f ih =>
    intro p M hp hs hA hF hn hq
    refine sg_X9_goSeason_41 ?_
    rw [hn, if_neg (by rw [nI_leI (by omega) (by omega)]; omega), n_14]
    have hin : vp_in (nI (14 + p)) 24 := n_in (by omega) (by decide)
    refine ⟨hin, n_in (by omega) (by decide), ?_⟩
    rw [show nx (nI (14 + p)) = 14 + p from nI_clamp (by omega), show nx (nI p) = p from nI_clamp (by omega), hA.2.2.2.1 p (by omega), hq p (by omega)]
    have ez : sz (setZ S (szU S gv p)) p = sz S p := by show szU S gv p p = _; unfold szU; rw [if_neg (by omega)]
    rw [ez]
    refine r_within999 ⟨hin, ?_⟩
    intro M3 h3
    obtain ⟨n, hn9, en⟩ := clS_nat (nI (sz S p) + gv p)
    have s3 : Sa M M3 := by rw [h3]; exact Sa.wi
    have r : ∀ j, ri M3 69 j = if j = 14 + p then clS (nI (sz S p) + gv p) else ri M 69 j := by intro j; rw [h3, ri_wi]; simp
    rw [nI_1]
    refine ih (p + 1) M3 (by omega) (hs.trans s3.sq) ⟨fun i hi => ?_, ?_, ?_, fun j hj => ?_, ?_, ?_⟩ (hF.keepQ s3.sq) ((s3.1 58 (by decide) 35).trans hn) (fun q hq' => (s3.1 71 (by decide) q).trans (hq q hq'))
    · have hi : i < (sc S).length := hi
      rw [r, if_neg (by omega)]; exact hA.1 i hi
    · rw [r, if_neg (by omega)]; exact hA.2.1
    · rw [r, if_neg (by omega)]; exact hA.2.2.1
    · rw [r]
      show _ = nI (szU S gv (p + 1) j)
      by_cases hz : j = p
      · subst hz
        rw [if_pos rfl]
        unfold szU
        rw [if_pos (by omega), en, show nx (nI n) = n from nI_clamp (by omega)]
      · rw [if_neg (by omega), hA.2.2.2.1 j hj]
        show nI (szU S gv p j) = _
        unfold szU
        by_cases hlt : j < p
        · rw [if_pos hlt, if_pos (by omega)]
        · rw [if_neg hlt, if_neg (by omega)]
    · rw [r, if_neg (by omega)]; exact hA.2.2.2.2.1
    · rw [r, if_neg (by omega)]; exact hA.2.2.2.2.2
