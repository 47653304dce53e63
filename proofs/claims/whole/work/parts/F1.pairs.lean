/-! one world of both sides, and what a pair of calls owes -/
abbrev Wo : Type := (List Int32 × Nat × Nat) × (Sh × Sh) × (List Sh × List Sh) × (Nat → Option Sh) × (Nat × (Nat → Sight)) × (Nat × (Nat → Nat)) × List Int32 × (Int32 × Int32 × Int32)
def WX (M : Mem) : Wo → Prop
  | ((F, st, un), (S, S1), (P, R), B, (c, W), (L, T), Ly, (tm, fc, fp)) => ∃ t t', ((t = 2 ∧ t' = 15) ∨ (t = 15 ∧ t' = 2)) ∧ CX M t F st S S1 ∧ nx (ri M 1 3) = t' ∧ ri M (t + 7) 4 = nI un ∧ HX M S P R ∧ BX M B ∧ MX M c W ∧ Cch M F st S1 ∧ TX M L T ∧ LyX M Ly ∧ ri M 0 10 = tm ∧ ri M 1 0 = fc ∧ ri M 1 1 = fp
def WM (M : Mem) : Wo → Prop
  | ((F, st, un), (S, S1), (P, R), B, (c, W), (L, T), Ly, (tm, fc, fp)) => CR M F st S S1 ∧ ri M 58 21 = nI un ∧ HM M P R ∧ BM M B ∧ MM M c W ∧ TM M L T ∧ LyM M Ly ∧ ri M 58 56 = tm ∧ ri M 58 2 = fc ∧ ri M 58 3 = fp
def WP : Wo → Prop
  | ((F, st, _), (S, S1), (P, R), B, (c, W), (L, T), Ly, (tm, _, _)) => CP F st S S1 ∧ GK (sn S) S ∧ HG (sn S) P R ∧ BG (sn S) B ∧ ATh S1 ∧ WOk c W ∧ (TOk L T ∧ ∃ n, n ≤ 100000 ∧ tm = nI n) ∧ Ly.length ≤ 8
/-- the class's calls keep the model's memory and the script -/
def FX (M M' : Mem) : Prop := ∀ k j, 57 < k → scr k = false → ¬ (k = 58 ∧ (j = 48 ∨ j = 49)) → ri M' k j = ri M k j
/-- the model's calls keep the class's memory and the script -/
def FZ (M M' : Mem) : Prop := ∀ k j, k < 58 ∨ 87 < k → scr k = false → ri M' k j = ri M k j
def PR (μx μm : Mt) (as : List Value) : Prop := ∀ w, WP w → ∃ r w', WP w' ∧ (∀ (M : Mem) (K : Int32 → Mem → Prop), WX M w → (∀ M', FX M M' → WX M' w' → K r M') → CI 113 μx (.ref 0 :: as) M K) ∧ ∀ (M : Mem) (K : Int32 → Mem → Prop), WM M w → (∀ M', FZ M M' → WM M' w' → K r M') → CI 113 μm (.ref 58 :: as) M K
theorem FX.rf {M : Mem} : FX M M := fun _ _ _ _ _ => rfl
theorem FZ.rf {M : Mem} : FZ M M := fun _ _ _ _ => rfl
theorem Q.fx {M M' : Mem} (q : Q M M') : FX M M' := fun k j _ b c => q.1 k j b c
theorem Q.fz {M M' : Mem} (q : Q M M') : FZ M M' := fun k j a b => q.1 k j b (by omega)
theorem QF.fx {M M' : Mem} (q : QF M M') : FX M M' := fun k j a b c => q.1 k j b c (by omega) (by omega)
theorem QL.fx {M M' : Mem} (q : QL 0 M M') : FX M M' := fun k j a b c => q.1 k j b (by omega) (by omega) (by omega) (by omega)
theorem QL.fz {M M' : Mem} (q : QL 1 M M') : FZ M M' := fun k j a b => q.1 k j b (by omega) (by omega) (by omega) (by omega)
theorem QH.fx {M M' : Mem} (q : QH 0 M M') : FX M M' := fun k j a b c => q.1 k j b (by omega) (by omega) (by omega) (by omega) (by omega) (by omega)
theorem QH.fz {M M' : Mem} (q : QH 1 M M') : FZ M M' := fun k j a b => q.1 k j b (by omega) (by omega) (by omega) (by omega) (by omega) (by omega)
theorem QS.fx {M M' : Mem} (q : QS 0 M M') : FX M M' := fun k j a b c => q.1 k j (by omega) (by omega) (by omega) (by omega)
theorem QS.fz {M M' : Mem} (q : QS 1 M M') : FZ M M' := fun k j a b => q.1 k j (by omega) (by omega) (by omega) (by omega)
theorem QT.fx {M M' : Mem} (q : QT 0 M M') : FX M M' := fun k j a b c => q.1 k j (by omega) (by omega)
theorem QT.fz {M M' : Mem} (q : QT 1 M M') : FZ M M' := fun k j a b => q.1 k j (by omega) (by omega)
theorem QP.fx {M M' : Mem} (q : QP 0 M M') : FX M M' := fun k j a b c => q.1 k j (by omega) (by omega) (by omega) (by omega)
theorem QP.fz {M M' : Mem} (q : QP 1 M M') : FZ M M' := fun k j a b => q.1 k j (by omega) (by omega) (by omega) (by omega)
theorem QB.fx {M M' : Mem} (q : QB 0 M M') : FX M M' := fun k j a b c => q.1 k j (by omega) (by omega) (by omega) (by omega)
theorem QB.fz {M M' : Mem} (q : QB 1 M M') : FZ M M' := fun k j a b => q.1 k j (by omega) (by omega) (by omega) (by omega)
section Keeps
variable {M M' : Mem} {F : List Int32} {st un c L t : Nat} {S S1 : Sh} {P R : List Sh} {B : Nat → Option Sh} {W : Nat → Sight} {T : Nat → Nat} {Ly : List Int32}
theorem CX.keepE (h : CX M t F st S S1) (e : ∀ k j, (k = 0 ∧ j = 1) ∨ (2 ≤ k ∧ k ≤ 10) ∨ (15 ≤ k ∧ k ≤ 23) ∨ (27 ≤ k ∧ k ≤ 31) → ri M' k j = ri M k j) : CX M' t F st S S1 := by
  obtain ⟨h1, h2, h3, h4, h5, h6⟩ := h
  exact ⟨by rw [e 0 1 (by omega)]; exact h1, h2, ⟨h3.1, by rw [e _ _ (by omega)]; exact h3.2.1, fun i hi => by rw [e _ _ (by omega)]; exact h3.2.2.1 i hi, h3.2.2.2⟩, by rw [e _ _ (by omega)]; exact h4, h5.keepK (fun k hk j => e _ _ (by omega)), h6.keepK (fun k hk j => e _ _ (by omega))⟩
theorem CR.keepE (h : CR M F st S S1) (e : ∀ k j, (k = 63 ∨ k = 64 ∨ k = 68 ∨ k = 70) ∨ (k = 58 ∧ (j = 18 ∨ j = 25 ∨ j = 35 ∨ j = 36)) → ri M' k j = ri M k j) : CR M' F st S S1 := by
  obtain ⟨h1, h2, ⟨h3, h4, h5, h6, h7⟩, h8, h9⟩ := h
  exact ⟨h1.keepA (fun j => e _ _ (by omega)), h2.keepA (fun j => e _ _ (by omega)), ⟨by rw [e _ _ (by omega)]; exact h3, by rw [e _ _ (by omega)]; exact h4, h5, h6, fun i hi => by rw [e 63 i (by omega), e 64 i (by omega)]; exact h7 i hi⟩, by rw [e _ _ (by omega)]; exact h8, by rw [e _ _ (by omega)]; exact h9⟩
theorem BX.keepE (h : BX M B) (hB : ∀ b T, B b = some T → (sc T).length ≤ 12) (e : ∀ k j, (k = 0 ∧ j = 6) ∨ k = 41 → ri M' k j = ri M k j) : BX M' B := by
  obtain ⟨m, hm, h6, h7⟩ := h
  exact ⟨m, hm, by rw [e _ _ (by omega)]; exact h6, fun b hb => ⟨(h7 b hb).1, fun T hT => ((h7 b hb).2 T hT).keep (hB b T hT) (fun j _ _ => e _ _ (by omega))⟩⟩
theorem BM.keepE (h : BM M B) (hB : ∀ b T, B b = some T → (sc T).length ≤ 12) (e : ∀ k j, k = 86 ∨ k = 87 → ri M' k j = ri M k j) : BM M' B := fun b hb => ⟨by rw [e _ _ (by omega)]; exact (h b hb).1, fun T hT => ((h b hb).2 T hT).copy (hB b T hT) (fun j _ => e _ _ (by omega))⟩
theorem BG.l {n : Nat} (h : BG n B) : ∀ b T, B b = some T → (sc T).length ≤ 12 := fun b T hT => (h b T hT).1.1.2.2.1
theorem MX.keepE (h : MX M c W) (e : ∀ k j, (k = 48 ∧ j = 0) ∨ (49 ≤ k ∧ k ≤ 53) → ri M' k j = ri M k j) : MX M' c W := ⟨by rw [e _ _ (by omega)]; exact h.1, fun i hi => by rw [e 49 i (by omega), e 50 i (by omega), e 51 i (by omega), e 52 i (by omega), e 53 i (by omega)]; exact h.2 i hi⟩
theorem MM.keepE (h : MM M c W) (e : ∀ k j, (k = 58 ∧ j = 55) ∨ (78 ≤ k ∧ k ≤ 82) → ri M' k j = ri M k j) : MM M' c W := ⟨by rw [e _ _ (by omega)]; exact h.1, fun i hi => by rw [e 78 i (by omega), e 79 i (by omega), e 80 i (by omega), e 81 i (by omega), e 82 i (by omega)]; exact h.2 i hi⟩
theorem Cch.keepE (h : Cch M F st S1) (e : ∀ k j, (k = 48 ∧ j = 7) ∨ k = 54 → ri M' k j = ri M k j) : Cch M' F st S1 := by
  rcases h with h | ⟨h, h'⟩
  · exact Or.inl (by rw [e _ _ (by omega)]; exact h)
  · exact Or.inr ⟨by rw [e _ _ (by omega)]; exact h, fun v s hv hs => by rw [e _ _ (by omega)]; exact h' v s hv hs⟩
theorem TX.keepE (h : TX M L T) (e : ∀ k j, (k = 1 ∧ j = 2) ∨ k = 14 → ri M' k j = ri M k j) : TX M' L T := ⟨by rw [e _ _ (by omega)]; exact h.1, fun i hi => by rw [e _ _ (by omega)]; exact h.2 i hi⟩
theorem TM.keepE (h : TM M L T) (e : ∀ k j, (k = 58 ∧ j = 1) ∨ k = 59 → ri M' k j = ri M k j) : TM M' L T := ⟨by rw [e _ _ (by omega)]; exact h.1, fun i hi => by rw [e _ _ (by omega)]; exact h.2 i hi⟩
theorem LyX.keepE (h : LyX M Ly) (e : ∀ k j, (k = 0 ∧ j = 12) ∨ k = 57 → ri M' k j = ri M k j) : LyX M' Ly := ⟨by rw [e _ _ (by omega)]; exact h.1, fun i hi => by rw [e _ _ (by omega)]; exact h.2 i hi⟩
theorem LyM.keepE (h : LyM M Ly) (e : ∀ k j, (k = 58 ∧ j = 45) ∨ k = 73 → ri M' k j = ri M k j) : LyM M' Ly := ⟨by rw [e _ _ (by omega)]; exact h.1, fun i hi => by rw [e _ _ (by omega)]; exact h.2 i hi⟩
end Keeps
theorem scr_ok : ∀ k, k < 58 → ((k < 2) ∨ (2 ≤ k ∧ k ≤ 10) ∨ (15 ≤ k ∧ k ≤ 23) ∨ (27 ≤ k ∧ k ≤ 31) ∨ k = 14 ∨ (39 ≤ k ∧ k ≤ 41) ∨ (48 ≤ k ∧ k ≤ 54) ∨ k = 57) → scr k = false := by decide +kernel
theorem scr_ok2 : ∀ k, k < 88 → (k = 58 ∨ k = 59 ∨ k = 63 ∨ k = 64 ∨ k = 68 ∨ k = 70 ∨ k = 72 ∨ k = 73 ∨ (78 ≤ k ∧ k ≤ 82) ∨ k = 86 ∨ k = 87) → scr k = false := by decide +kernel
theorem WX.keep {M M' : Mem} {w : Wo} (hw : WP w) (h : WX M w) (q : ∀ k j, k < 58 → scr k = false → ri M' k j = ri M k j) : WX M' w := by
  obtain ⟨⟨F, st, un⟩, ⟨S, S1⟩, ⟨P, R⟩, B, ⟨c, W⟩, ⟨L, T⟩, Ly, ⟨tm, fc, fp⟩⟩ := w
  obtain ⟨p1, p2, p3, p4, p5, p6, p7, p8⟩ := hw
  obtain ⟨t, t', ht, h1, h2, h3, h4, h5, h6, h7, h8, h9, h10, h11, h12⟩ := h
  have e : ∀ k j, ((k < 2) ∨ (2 ≤ k ∧ k ≤ 10) ∨ (15 ≤ k ∧ k ≤ 23) ∨ (27 ≤ k ∧ k ≤ 31) ∨ k = 14 ∨ (39 ≤ k ∧ k ≤ 41) ∨ (48 ≤ k ∧ k ≤ 54) ∨ k = 57) → ri M' k j = ri M k j := fun k j hk => q k j (by omega) (scr_ok k (by omega) hk)
  exact ⟨t, t', ht, h1.keepE (fun k j a => e k j (by omega)), by rw [e _ _ (by omega)]; exact h2, by rw [e _ _ (by omega)]; exact h3, h4.keepC p3 p1.1.1 (fun j => e _ _ (by omega)) (fun j => e _ _ (by omega)), h5.keepE p4.l (fun k j a => e k j (by omega)), h6.keepE (fun k j a => e k j (by omega)), h7.keepE (fun k j a => e k j (by omega)), h8.keepE (fun k j a => e k j (by omega)), h9.keepE (fun k j a => e k j (by omega)), by rw [e _ _ (by omega)]; exact h10, by rw [e _ _ (by omega)]; exact h11, by rw [e _ _ (by omega)]; exact h12⟩
theorem WM.keep {M M' : Mem} {w : Wo} (hw : WP w) (h : WM M w) (q : ∀ k j, 57 < k → scr k = false → ¬ (k = 58 ∧ (j = 48 ∨ j = 49)) → ri M' k j = ri M k j) : WM M' w := by
  obtain ⟨⟨F, st, un⟩, ⟨S, S1⟩, ⟨P, R⟩, B, ⟨c, W⟩, ⟨L, T⟩, Ly, ⟨tm, fc, fp⟩⟩ := w
  obtain ⟨p1, p2, p3, p4, p5, p6, p7, p8⟩ := hw
  obtain ⟨h1, h2, h3, h4, h5, h6, h7, h8, h9, h10⟩ := h
  have e : ∀ k j, (k = 58 ∨ k = 59 ∨ k = 63 ∨ k = 64 ∨ k = 68 ∨ k = 70 ∨ k = 72 ∨ k = 73 ∨ (78 ≤ k ∧ k ≤ 82) ∨ k = 86 ∨ k = 87) → ¬ (k = 58 ∧ (j = 48 ∨ j = 49)) → ri M' k j = ri M k j := fun k j hk hj => q k j (by omega) (scr_ok2 k (by omega) hk) hj
  exact ⟨h1.keepE (fun k j a => e k j (by omega) (by omega)), by rw [e _ _ (by omega) (by omega)]; exact h2, h3.keepC p3 (e _ _ (by omega) (by omega)) (e _ _ (by omega) (by omega)) (fun j => e _ _ (by omega) (by omega)), h4.keepE p4.l (fun k j a => e k j (by omega) (by omega)), h5.keepE (fun k j a => e k j (by omega) (by omega)), h6.keepE (fun k j a => e k j (by omega) (by omega)), h7.keepE (fun k j a => e k j (by omega) (by omega)), by rw [e _ _ (by omega) (by omega)]; exact h8, by rw [e _ _ (by omega) (by omega)]; exact h9, by rw [e _ _ (by omega) (by omega)]; exact h10⟩
theorem WX.fz {M M' : Mem} {w : Wo} (hw : WP w) (h : WX M w) (q : FZ M M') : WX M' w := h.keep hw (fun k j a b => q k j (Or.inl a) b)
theorem WM.fx {M M' : Mem} {w : Wo} (hw : WP w) (h : WM M w) (q : FX M M') : WM M' w := h.keep hw q
theorem WX.q {M M' : Mem} {w : Wo} (hw : WP w) (h : WX M w) (q : Q M M') : WX M' w := h.keep hw (fun k j a b => q.1 k j b (by omega))
theorem WM.q {M M' : Mem} {w : Wo} (hw : WP w) (h : WM M w) (q : Q M M') : WM M' w := h.keep hw (fun k j a b c => q.1 k j b c)
/-- a question -/
theorem pr_q {μx μm : Mt} {as : List Value} (h : ∀ F st S S1, CP F st S S1 → ∃ r, (∀ (M : Mem) (t : Nat) (K : Int32 → Mem → Prop), CX M t F st S S1 → (∀ M', Q M M' → K r M') → CI 113 μx (.ref 0 :: as) M K) ∧ ∀ (M : Mem) (K : Int32 → Mem → Prop), CR M F st S S1 → (∀ M', Q M M' → K r M') → CI 113 μm (.ref 58 :: as) M K) : PR μx μm as := by
  intro w hw
  obtain ⟨⟨F, st, un⟩, ⟨S, S1⟩, ⟨P, R⟩, B, ⟨c, W⟩, ⟨L, T⟩, Ly, ⟨tm, fc, fp⟩⟩ := w
  obtain ⟨r, hx, hm⟩ := h F st S S1 hw.1
  exact ⟨r, _, hw, fun M K hX hK => by
    obtain ⟨t, t', ht, h1, h2⟩ := hX
    exact hx M t K h1 (fun M' q => hK M' q.fx (WX.q hw ⟨t, t', ht, h1, h2⟩ q)), fun M K hM hK => hm M K hM.1 (fun M' q => hK M' q.fz (WM.q hw hM q))⟩
