/-! acts, undone and done again: the class -/
def QH (s : Nat) (M M' : Mem) : Prop := (∀ k j, scr k = false → ¬ (s = 0 ∧ 27 ≤ k ∧ k ≤ 31) → ¬ (s = 0 ∧ k = 39) → ¬ (s = 0 ∧ k = 40) → ¬ (s = 1 ∧ k = 68) → ¬ (s = 1 ∧ k = 72) → ¬ (k = 58 ∧ (j = 48 ∨ j = 49 ∨ s = 1 ∧ (j = 40 ∨ j = 41))) → ri M' k j = ri M k j) ∧ ∀ k j, rl M' k j = rl M k j
theorem QH.rf {s : Nat} {M : Mem} : QH s M M := ⟨fun _ _ _ _ _ _ _ _ _ => rfl, fun _ _ => rfl⟩
theorem QH.trans {s : Nat} {M M' M'' : Mem} (h : QH s M M') (h2 : QH s M' M'') : QH s M M'' := ⟨fun k j a b c e f g i => (h2.1 k j a b c e f g i).trans (h.1 k j a b c e f g i), fun k j => (h2.2 k j).trans (h.2 k j)⟩
theorem Q.h {s : Nat} {M M' : Mem} (h : Q M M') : QH s M M' := ⟨fun k j a _ _ _ _ _ i => h.1 k j a (fun q => i ⟨q.1, by omega⟩), h.2⟩
theorem scr27 {k : Nat} (h : scr k = false) (h2 : ¬ (27 ≤ k ∧ k ≤ 31)) : k < 27 ∨ 27 + 5 < k := by
  have : k ≠ 32 := scr_ne h rfl
  omega
theorem Sm.h {M M' : Mem} (h : Sm M M' 27) : QH 0 M M' := ⟨fun k j a b _ _ _ _ _ => h.1 k (scr27 a (fun q => b ⟨rfl, q⟩)) j, h.2⟩
theorem Sp.h {M M' : Mem} {t : Nat} (ht : t = 2 ∨ t = 15) (h : Sp M M' 27 (t + 7)) : QH 0 M M' := by
  rcases ht with rfl | rfl
  · exact ⟨fun k j a b _ _ _ _ _ => h.1 k (scr27 a (fun q => b ⟨rfl, q⟩)) (scr_ne a rfl) (scr_ne a rfl) j, h.2⟩
  · exact ⟨fun k j a b _ _ _ _ _ => h.1 k (scr27 a (fun q => b ⟨rfl, q⟩)) (scr_ne a rfl) (scr_ne a rfl) j, h.2⟩
theorem qh_w39 {M : Mem} {j : Nat} {x : Int32} : QH 0 M (wi M 39 j x) := ⟨fun k j _ _ c _ _ _ _ => by rw [ri_wi, if_neg (fun q => c ⟨rfl, q.1⟩)], fun _ _ => rfl⟩
theorem Sr.h {M M' : Mem} {f : Nat} (h : Sr M M' 40 f) : QH 0 M M' := ⟨fun k j _ _ _ c _ _ _ => h.1 k j (fun q => c ⟨rfl, q.1⟩), h.2⟩
theorem Fr.keepH {s : Nat} {M M' : Mem} {o : Nat} {S : Sh} (h : Fr M o S) (ho : o = 3 ∨ o = 16) (q : QH s M M') : Fr M' o S := by
  apply h.keepK
  intro k hk j
  have : k = 0 ∨ k = 1 ∨ k = 2 ∨ k = 3 ∨ k = 4 := by omega
  apply q.1
  · rcases ho with rfl | rfl <;> rcases this with rfl | rfl | rfl | rfl | rfl <;> rfl
  all_goals omega
theorem CX.keepH {s : Nat} {M M' : Mem} {t : Nat} {F : List Int32} {st : Nat} {S S' S1 : Sh} (h : CX M t F st S S1) (q : QH s M M') (f : Fr M' 27 S') : CX M' t F st S' S1 := by
  obtain ⟨h1, h2, h3, h4, h5, h6⟩ := h
  refine ⟨by rw [q.1 0 1 rfl (by omega) (by omega) (by omega) (by omega) (by omega) (by omega)]; exact h1, h2, ⟨h3.1, ?_, ?_, h3.2.2.2⟩, ?_, h5.keepH (by omega) q, f⟩
  · rw [q.1 _ 3 (by rcases h2 with rfl | rfl <;> rfl) (by omega) (by omega) (by omega) (by omega) (by omega) (by omega)]; exact h3.2.1
  · intro i hi
    rw [q.1 _ i (by rcases h2 with rfl | rfl <;> rfl) (by omega) (by omega) (by omega) (by omega) (by omega) (by omega)]; exact h3.2.2.1 i hi
  · rw [q.1 _ 3 (by rcases h2 with rfl | rfl <;> rfl) (by omega) (by omega) (by omega) (by omega) (by omega) (by omega)]; exact h4
theorem CR.keepH {s : Nat} {M M' : Mem} {F : List Int32} {st : Nat} {S S' S1 : Sh} (h : CR M F st S S1) (q : QH s M M') (hn : sn S' = sn S) (a : Ar M' 68 S') : CR M' F st S' S1 := by
  obtain ⟨h1, h2, h3, h4, h5⟩ := h
  refine ⟨a, h2.keepE (fun j => q.1 70 j rfl (by omega) (by omega) (by omega) (by omega) (by omega) (by omega)), ⟨?_, ?_, h3.2.2.1, h3.2.2.2.1, ?_⟩, ?_, ?_⟩
  · rw [q.1 58 25 rfl (by omega) (by omega) (by omega) (by omega) (by omega) (by omega)]; exact h3.1
  · rw [q.1 58 18 rfl (by omega) (by omega) (by omega) (by omega) (by omega) (by omega)]; exact h3.2.1
  · intro i hi
    rw [q.1 63 i rfl (by omega) (by omega) (by omega) (by omega) (by omega) (by omega), q.1 64 i rfl (by omega) (by omega) (by omega) (by omega) (by omega) (by omega)]; exact h3.2.2.2.2 i hi
  · rw [q.1 58 35 rfl (by omega) (by omega) (by omega) (by omega) (by omega) (by omega), hn]; exact h4
  · rw [q.1 58 36 rfl (by omega) (by omega) (by omega) (by omega) (by omega) (by omega)]; exact h5
/-- a shire that may be kept -/
def GK (n : Nat) (T : Sh) : Prop := GS T ∧ sn T = n ∧ ∃ k, k ≤ 999 ∧ sy T = nI k
theorem Rw.keep {M M' : Mem} {w f : Nat} {T : Sh} (h : Rw M w f T) (hl : (sc T).length ≤ 12) (e : ∀ j, f ≤ j → j < f + 24 → ri M' w j = ri M w j) : Rw M' w f T := by
  refine ⟨?_, ?_, ?_, ?_, fun j hj => ?_, fun i hi => ?_⟩ <;> rw [e _ (by omega) (by omega)]
  · exact h.1
  · exact h.2.1
  · exact h.2.2.1
  · exact h.2.2.2.1
  · exact h.2.2.2.2.1 j hj
  · exact h.2.2.2.2.2 i hi
def HX (M : Mem) (S : Sh) (P R : List Sh) : Prop := ∃ a, a < 41 ∧ ri M 39 3 = nI a ∧ ri M 39 0 = nI P.length ∧ ri M 39 1 = nI R.length ∧ Rw M 40 (a * 24) S ∧ (∀ i, i < P.length → Rw M 40 (((a + 40 - i) % 41) * 24) (P[i]?.getD S0)) ∧ ∀ i, i < R.length → Rw M 40 (((a + 1 + i) % 41) * 24) (R[i]?.getD S0)
/-- the shires of acts: good ones, not too many -/
def HG (n : Nat) (P R : List Sh) : Prop := P.length + R.length ≤ 40 ∧ ∀ T, T ∈ P ∨ T ∈ R → GK n T
theorem HG.at {n : Nat} {P R : List Sh} (h : HG n P R) {i : Nat} (hi : i < P.length) : GK n (P[i]?.getD S0) := by
  rw [List.getElem?_eq_getElem hi]; exact h.2 _ (Or.inl (List.getElem_mem hi))
theorem HG.at2 {n : Nat} {P R : List Sh} (h : HG n P R) {i : Nat} (hi : i < R.length) : GK n (R[i]?.getD S0) := by
  rw [List.getElem?_eq_getElem hi]; exact h.2 _ (Or.inr (List.getElem_mem hi))
theorem rem41 {k : Nat} (hk : k < 1000) : nI k - nI k / 41 * 41 = nI (k % 41) := by
  rw [show (41 : Int32) = nI 41 from rfl]; exact pk_rem (by omega) (by omega) (by omega)
theorem x_keep {d n : Nat} {M : Mem} {K : Mem → Prop} {S S' : Sh} {P R : List Sh} (hF : Fr M 27 S') (hH : HX M S P R) (hG : HG n P R) (hS : GK n S) (hK : ∀ M', QH 0 M M' → Fr M' 27 S' → HX M' S' ((S :: P).take 40) [] → K M') : CV (d + 2) μX3_keep [.ref 39, .ref 27] M K := by
  obtain ⟨a, ha, h3, h0, h1, hrow, hP, hR⟩ := hH
  have hPl : P.length ≤ 40 := by have := hG.1; omega
  refine sg_X3_keep_0 (by decide +kernel) (fun M1 h1' => ?_)
  rw [h3, nI_1, rem41 (by omega)] at h1'
  have r1 : ∀ k j, ri M1 k j = if k = 39 ∧ j = 3 then nI ((a + 1) % 41) else ri M k j := by intro k j; rw [h1', ri_wi]
  rw [r1, if_pos ⟨rfl, rfl⟩, show (24 : Int32) = nI 24 from rfl, n_mul]
  have f1 : Fr M1 27 S' := hF.keepK (fun k hk j => by rw [r1, if_neg (by omega)])
  refine c_writeTo (nw := 984) (by decide +kernel) (by decide +kernel) (by omega) (by omega) (by omega) f1 (fun M2 s2 w2 => ?_)
  intro M3 h3' M4 h4'
  have e2 : ∀ k j, k ≠ 40 → ri M2 k j = ri M1 k j := fun k j hk => s2.1 k j (fun q => hk q.1)
  have e39 : ri M2 39 0 = nI P.length := by rw [e2 39 0 (by omega), r1, if_neg (by omega), h0]
  rw [e39, nI_1] at h3'
  have hlen : ((S :: P).take 40).length = if P.length + 1 < 40 then P.length + 1 else 40 := by
    rw [List.length_take, List.length_cons]
    split <;> omega
  have hmin : (if nI (P.length + 1) < 40 then nI (P.length + 1) else 40) = nI ((S :: P).take 40).length := by
    rw [hlen]
    by_cases hc : P.length + 1 < 40
    · rw [if_pos hc, if_pos (by rw [show (40 : Int32) = nI 40 from rfl, nI_ltI (by omega) (by omega)]; exact hc)]
    · rw [if_neg hc, if_neg (by rw [show (40 : Int32) = nI 40 from rfl, nI_ltI (by omega) (by omega)]; exact hc)]; rfl
  rw [hmin] at h3'
  have r3 : ∀ k j, ri M3 k j = if k = 39 ∧ j = 0 then nI ((S :: P).take 40).length else ri M2 k j := by intro k j; rw [h3', ri_wi]
  have r4 : ∀ k j, ri M4 k j = if k = 39 ∧ j = 1 then 0 else ri M3 k j := by intro k j; rw [h4', ri_wi]
  have e40 : ∀ j, ri M4 40 j = ri M2 40 j := fun j => by rw [r4, if_neg (by omega), r3, if_neg (by omega)]
  have old : ∀ b, b < 41 → b ≠ (a + 1) % 41 → ∀ j, b * 24 ≤ j → j < b * 24 + 24 → ri M4 40 j = ri M 40 j := by
    intro b hb hne j hj1 hj2
    rw [e40, s2.1 40 j (fun q => by omega), r1, if_neg (by omega)]
  refine hK M4 ?_ (f1.keepK (fun k hk j => by rw [r4, if_neg (by omega), r3, if_neg (by omega), e2 _ _ (by omega)])) ?_
  · have qa : QH 0 M M1 := by rw [h1']; exact qh_w39
    have qb : QH 0 M2 M3 := by rw [h3']; exact qh_w39
    have qc : QH 0 M3 M4 := by rw [h4']; exact qh_w39
    exact ((qa.trans s2.h).trans qb).trans qc
  · refine ⟨(a + 1) % 41, by omega, ?_, ?_, ?_, ?_, ?_, fun i hi => absurd hi (Nat.not_lt_zero _)⟩
    · rw [r4, if_neg (by omega), r3, if_neg (by omega), e2 _ _ (by omega), r1, if_pos ⟨rfl, rfl⟩]
    · rw [r4, if_neg (by omega), r3, if_pos ⟨rfl, rfl⟩]
    · rw [r4, if_pos ⟨rfl, rfl⟩]; rfl
    · exact w2.keep hF.2.2.2.2.1 (fun j _ _ => e40 j)
    · intro i hi
      have hi40 : i < 40 := by rw [hlen] at hi; split at hi <;> omega
      rw [List.getElem?_take, if_pos hi40]
      cases i with
      | zero =>
        rw [show ((a + 1) % 41 + 40 - 0) % 41 = a by omega]
        exact hrow.keep hS.1.1.2.2.1 (old a ha (by omega))
      | succ i =>
        have hiP : i < P.length := by rw [hlen] at hi; split at hi <;> omega
        rw [show ((a + 1) % 41 + 40 - (i + 1)) % 41 = (a + 40 - i) % 41 by omega]
        show Rw M4 40 _ (P[i]?.getD S0)
        exact (hP i hiP).keep (hG.at hiP).1.1.2.2.1 (old _ (by omega) (by omega))
theorem x_start {d n : Nat} {M : Mem} {K : Mem → Prop} {S : Sh} (hF : Fr M 27 S) (hK : ∀ M', QH 0 M M' → Fr M' 27 S → HX M' S [] [] → K M') : CV (d + 2) μX3_startFrom [.ref 39, .ref 27] M K := by
  refine sg_X3_startFrom_0 (by decide +kernel) (fun M1 h1 M2 h2 M3 h3 => ?_)
  have r1 : ∀ k j, ri M1 k j = if k = 39 ∧ j = 0 then 0 else ri M k j := by intro k j; rw [h1, ri_wi]
  have r2 : ∀ k j, ri M2 k j = if k = 39 ∧ j = 1 then 0 else ri M1 k j := by intro k j; rw [h2, ri_wi]
  have r3 : ∀ k j, ri M3 k j = if k = 39 ∧ j = 3 then 0 else ri M2 k j := by intro k j; rw [h3, ri_wi]
  have f3 : Fr M3 27 S := hF.keepK (fun k hk j => by rw [r3, if_neg (by omega), r2, if_neg (by omega), r1, if_neg (by omega)])
  refine c_writeTo (f := 0) (nw := 984) (by decide +kernel) (by decide +kernel) (by omega) (by omega) (by omega) f3 (fun M4 s4 w4 => ?_)
  have e4 : ∀ k j, k ≠ 40 → ri M4 k j = ri M3 k j := fun k j hk => s4.1 k j (fun q => hk q.1)
  refine hK M4 ?_ (f3.keepK (fun k hk j => e4 _ _ (by omega))) ⟨0, by omega, ?_, ?_, ?_, w4, fun i hi => absurd hi (Nat.not_lt_zero _), fun i hi => absurd hi (Nat.not_lt_zero _)⟩
  · have qa : QH 0 M M1 := by rw [h1]; exact qh_w39
    have qb : QH 0 M1 M2 := by rw [h2]; exact qh_w39
    have qc : QH 0 M2 M3 := by rw [h3]; exact qh_w39
    exact ((qa.trans qb).trans qc).trans s4.h
  · rw [e4 _ _ (by omega), r3, if_pos ⟨rfl, rfl⟩]; rfl
  · rw [e4 _ _ (by omega), r3, if_neg (by omega), r2, if_neg (by omega), r1, if_pos ⟨rfl, rfl⟩]; rfl
  · rw [e4 _ _ (by omega), r3, if_neg (by omega), r2, if_pos ⟨rfl, rfl⟩]; rfl
theorem x_undo {d n : Nat} {M : Mem} {K : Int32 → Mem → Prop} {S : Sh} {P R : List Sh} (hF : Fr M 27 S) (hn : sn S = n) (hH : HX M S P R) (hG : HG n P R) (h00 : P = [] → K 0 M) (hK : ∀ T P', P = T :: P' → ∀ M', QH 0 M M' → Fr M' 27 T → HX M' T P' (S :: R) → K 1 M') : CI (d + 4) μX8_undo [.ref 0] M K := by
  obtain ⟨a, ha, h3, h0, h1, hrow, hP, hR⟩ := hH
  have hl := hG.1
  refine sg_X8_undo_0 ?_
  refine sg_X3_stepBack_0 (by decide +kernel) ?_
  rw [h0]
  cases hPc : P with
  | nil => rw [if_pos (by rfl)]; exact ⟨Or.inl rfl, h00 hPc⟩
  | cons T P' =>
    subst hPc
    rw [if_neg (by rw [show (0 : Int32) = nI 0 from rfl, nI_eq (by simp at hl ⊢; omega) (by omega)]; simp)]
    rw [List.length_cons] at h0 hl
    intro M1 h1'
    have e41 : (nI a + 41) - 1 = nI (a + 40) := by
      rw [show (41 : Int32) = nI 41 from rfl, nI_add, show a + 41 = (a + 40) + 1 by omega, nI_pred]
    rw [h3, e41, rem41 (by omega)] at h1'
    have r1 : ∀ k j, ri M1 k j = if k = 39 ∧ j = 3 then nI ((a + 40) % 41) else ri M k j := by intro k j; rw [h1', ri_wi]
    rw [r1, if_pos ⟨rfl, rfl⟩, show (24 : Int32) = nI 24 from rfl, n_mul]
    have gT : GK n T := hG.2 T (Or.inl List.mem_cons_self)
    have hT : Rw M1 40 (((a + 40) % 41) * 24) T := by
      have := hP 0 (by simp)
      rw [show (a + 40 - 0) % 41 = (a + 40) % 41 by omega] at this
      exact this.keep gT.1.1.2.2.1 (fun j _ _ => by rw [r1, if_neg (by omega)])
    refine c_readFrom (nw := 984) (by decide +kernel) (by decide +kernel) (by omega) (by omega) (by omega) hT (by rw [r1, if_neg (by omega), hF.1.1, hn, gT.2.1]) gT.1.1 gT.1.2.1 (fun M2 s2 f2 => ?_)
    intro M3 h3' M4 h4'
    have e2 : ∀ k j, (k < 27 ∨ 27 + 5 < k) → ri M2 k j = ri M1 k j := fun k j hk => s2.1 k hk j
    rw [e2 39 0 (by omega), r1, if_neg (by omega), h0, nI_pred] at h3'
    have r3 : ∀ k j, ri M3 k j = if k = 39 ∧ j = 0 then nI P'.length else ri M2 k j := by intro k j; rw [h3', ri_wi]
    rw [r3, if_neg (by omega), e2 39 1 (by omega), r1, if_neg (by omega), h1, nI_1] at h4'
    have r4 : ∀ k j, ri M4 k j = if k = 39 ∧ j = 1 then nI (R.length + 1) else ri M3 k j := by intro k j; rw [h4', ri_wi]
    have e40 : ∀ j, ri M4 40 j = ri M 40 j := fun j => by rw [r4, if_neg (by omega), r3, if_neg (by omega), e2 _ _ (by omega), r1, if_neg (by omega)]
    have e40' : ∀ j, ri M4 40 j = ri M1 40 j := fun j => by rw [r4, if_neg (by omega), r3, if_neg (by omega), e2 _ _ (by omega)]
    refine ⟨Or.inr rfl, hK T P' rfl M4 ?_ (f2.keepK (fun k hk j => by rw [r4, if_neg (by omega), r3, if_neg (by omega)])) ⟨(a + 40) % 41, by omega, ?_, ?_, ?_, hT.keep gT.1.1.2.2.1 (fun j _ _ => e40' j), ?_, ?_⟩⟩
    · have qa : QH 0 M M1 := by rw [h1']; exact qh_w39
      have qb : QH 0 M2 M3 := by rw [h3']; exact qh_w39
      have qc : QH 0 M3 M4 := by rw [h4']; exact qh_w39
      exact ((qa.trans s2.h).trans qb).trans qc
    · rw [r4, if_neg (by omega), r3, if_neg (by omega), e2 _ _ (by omega), r1, if_pos ⟨rfl, rfl⟩]
    · rw [r4, if_neg (by omega), r3, if_pos ⟨rfl, rfl⟩]
    · rw [r4, if_pos ⟨rfl, rfl⟩]; rfl
    · intro i hi
      have h := hP (i + 1) (by rw [List.length_cons]; omega)
      rw [show ((a + 40) % 41 + 40 - i) % 41 = (a + 40 - (i + 1)) % 41 by omega]
      exact Rw.keep (T := P'[i]?.getD S0) h (hG.at (i := i + 1) (by rw [List.length_cons]; omega)).1.1.2.2.1 (fun j _ _ => e40 j)
    · intro i hi
      cases i with
      | zero =>
        rw [show ((a + 40) % 41 + 1 + 0) % 41 = a by omega]
        exact Rw.keep (T := S) hrow hF.2.2.2.2.1 (fun j _ _ => e40 j)
      | succ i =>
        have hiR : i < R.length := by rw [List.length_cons] at hi; omega
        rw [show ((a + 40) % 41 + 1 + (i + 1)) % 41 = (a + 1 + i) % 41 by omega]
        exact Rw.keep (T := R[i]?.getD S0) (hR i hiR) (hG.at2 hiR).1.1.2.2.1 (fun j _ _ => e40 j)
theorem x_redo {d n : Nat} {M : Mem} {K : Int32 → Mem → Prop} {S : Sh} {P R : List Sh} (hF : Fr M 27 S) (hn : sn S = n) (hH : HX M S P R) (hG : HG n P R) (h00 : R = [] → K 0 M) (hK : ∀ T R', R = T :: R' → ∀ M', QH 0 M M' → Fr M' 27 T → HX M' T (S :: P) R' → K 1 M') : CI (d + 4) μX8_redo [.ref 0] M K := by
  obtain ⟨a, ha, h3, h0, h1, hrow, hP, hR⟩ := hH
  have hl := hG.1
  refine sg_X8_redo_0 ?_
  refine sg_X3_stepOn_0 (by decide +kernel) ?_
  rw [h1]
  cases hRc : R with
  | nil => rw [if_pos (by rfl)]; exact ⟨Or.inl rfl, h00 hRc⟩
  | cons T R' =>
    subst hRc
    rw [if_neg (by rw [show (0 : Int32) = nI 0 from rfl, nI_eq (by simp at hl ⊢; omega) (by omega)]; simp)]
    rw [List.length_cons] at h1 hl
    intro M1 h1'
    rw [h3, nI_1, rem41 (by omega)] at h1'
    have r1 : ∀ k j, ri M1 k j = if k = 39 ∧ j = 3 then nI ((a + 1) % 41) else ri M k j := by intro k j; rw [h1', ri_wi]
    rw [r1, if_pos ⟨rfl, rfl⟩, show (24 : Int32) = nI 24 from rfl, n_mul]
    have gT : GK n T := hG.2 T (Or.inr List.mem_cons_self)
    have hT : Rw M1 40 (((a + 1) % 41) * 24) T := by
      have := hR 0 (by simp)
      rw [show (a + 1 + 0) % 41 = (a + 1) % 41 by omega] at this
      exact this.keep gT.1.1.2.2.1 (fun j _ _ => by rw [r1, if_neg (by omega)])
    refine c_readFrom (nw := 984) (by decide +kernel) (by decide +kernel) (by omega) (by omega) (by omega) hT (by rw [r1, if_neg (by omega), hF.1.1, hn, gT.2.1]) gT.1.1 gT.1.2.1 (fun M2 s2 f2 => ?_)
    intro M3 h3' M4 h4'
    have e2 : ∀ k j, (k < 27 ∨ 27 + 5 < k) → ri M2 k j = ri M1 k j := fun k j hk => s2.1 k hk j
    rw [e2 39 0 (by omega), r1, if_neg (by omega), h0, nI_1] at h3'
    have r3 : ∀ k j, ri M3 k j = if k = 39 ∧ j = 0 then nI (P.length + 1) else ri M2 k j := by intro k j; rw [h3', ri_wi]
    rw [r3, if_neg (by omega), e2 39 1 (by omega), r1, if_neg (by omega), h1, nI_pred] at h4'
    have r4 : ∀ k j, ri M4 k j = if k = 39 ∧ j = 1 then nI R'.length else ri M3 k j := by intro k j; rw [h4', ri_wi]
    have e40 : ∀ j, ri M4 40 j = ri M 40 j := fun j => by rw [r4, if_neg (by omega), r3, if_neg (by omega), e2 _ _ (by omega), r1, if_neg (by omega)]
    have e40' : ∀ j, ri M4 40 j = ri M1 40 j := fun j => by rw [r4, if_neg (by omega), r3, if_neg (by omega), e2 _ _ (by omega)]
    refine ⟨Or.inr rfl, hK T R' rfl M4 ?_ (f2.keepK (fun k hk j => by rw [r4, if_neg (by omega), r3, if_neg (by omega)])) ⟨(a + 1) % 41, by omega, ?_, ?_, ?_, hT.keep gT.1.1.2.2.1 (fun j _ _ => e40' j), ?_, ?_⟩⟩
    · have qa : QH 0 M M1 := by rw [h1']; exact qh_w39
      have qb : QH 0 M2 M3 := by rw [h3']; exact qh_w39
      have qc : QH 0 M3 M4 := by rw [h4']; exact qh_w39
      exact ((qa.trans s2.h).trans qb).trans qc
    · rw [r4, if_neg (by omega), r3, if_neg (by omega), e2 _ _ (by omega), r1, if_pos ⟨rfl, rfl⟩]
    · rw [r4, if_neg (by omega), r3, if_pos ⟨rfl, rfl⟩]; rfl
    · rw [r4, if_pos ⟨rfl, rfl⟩]
    · intro i hi
      cases i with
      | zero =>
        rw [show ((a + 1) % 41 + 40 - 0) % 41 = a by omega]
        exact Rw.keep (T := S) hrow hF.2.2.2.2.1 (fun j _ _ => e40 j)
      | succ i =>
        have hiP : i < P.length := by rw [List.length_cons] at hi; omega
        rw [show ((a + 1) % 41 + 40 - (i + 1)) % 41 = (a + 40 - i) % 41 by omega]
        exact Rw.keep (T := P[i]?.getD S0) (hP i hiP) (hG.at hiP).1.1.2.2.1 (fun j _ _ => e40 j)
    · intro i hi
      have h := hR (i + 1) (by rw [List.length_cons]; omega)
      rw [show ((a + 1) % 41 + 1 + i) % 41 = (a + 1 + (i + 1)) % 41 by omega]
      exact Rw.keep (T := R'[i]?.getD S0) h (hG.at2 (i := i + 1) (by rw [List.length_cons]; omega)).1.1.2.2.1 (fun j _ _ => e40 j)
