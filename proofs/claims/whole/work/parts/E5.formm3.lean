/-! the model's way through a formula keeps the rules -/
section FormR
variable {T : Nat → Nat} {L : Nat}
def UR (d : Nat) (T : Nat → Nat) (L : Nat) (M0 : Mem) (K : Mem → Prop) (s : List Nat) (σ : Rdg) (u : Nat) (c : List Int32) : Prop := ∀ M, QFo M0 M → RN M L T σ → FM M s u c → RV (d + 4) μX9_unit 2 [(0, .ref 58), (1, .int 1)] [] M (fun M7 => RV (d + 5) μX9_formula 35 [(0, .ref 58), (1, .int 1)] [] M7 K)
def OR (d : Nat) (T : Nat → Nat) (L : Nat) (M0 : Mem) (K : Mem → Prop) (s : List Nat) (σ : Rdg) (u : Nat) (c : List Int32) : Prop := ∀ M, QFo M0 M → RN M L T σ → FM M s u c → RV (d + 5) μX9_formula 35 [(0, .ref 58), (1, .int 1)] [] M K
def FR (T : Nat → Nat) (L : Nat) (M0 : Mem) (K : Mem → Prop) (x : Nat × Nat) : Prop := ∀ M, QFo M0 M → RS M L T (.inr x) → K M
def ER (T : Nat → Nat) (L : Nat) (M0 : Mem) (K : Mem → Prop) (σ : Rdg) (u : Nat) (c : List Int32) : Prop := ∀ M, QFo M0 M → RN M L T σ → FM M [] u c → K M
theorem f35F {d : Nat} {M0 M : Mem} {K : Mem → Prop} {x : Nat × Nat} (q : QFo M0 M) (h : RF M x) (hF : FR T L M0 K x) : RV (d + 5) μX9_formula 35 [(0, .ref 58), (1, .int 1)] [] M K := by
  refine sg_X9_formula_35 ?_
  rw [if_neg (by decide), if_neg h.ne]
  refine sg_X9_formula_162 ?_
  rw [if_neg h.ne, if_neg h.ne]
  exact hF M q (Or.inr ⟨x, rfl, h⟩)
theorem u2F {d : Nat} {M0 M : Mem} {K : Mem → Prop} {x : Nat × Nat} {y : Int32} (q : QFo M0 M) (h : RF M x) (hF : FR T L M0 K x) : RV (d + 4) μX9_unit 2 [(0, .ref 58), (1, .int y)] [] M (fun M7 => RV (d + 5) μX9_formula 35 [(0, .ref 58), (1, .int 1)] [] M7 K) := by
  have fin : RV (d + 4) μX9_unit 101 [(0, .ref 58), (1, .int y)] [] M (fun M7 => RV (d + 5) μX9_formula 35 [(0, .ref 58), (1, .int 1)] [] M7 K) := by
    refine sg_X9_unit_101 ?_
    rw [if_neg h.gt]; exact f35F q h hF
  refine sg_X9_unit_2 ?_
  by_cases hy : y = 0
  · rw [if_pos hy]; exact fin
  · rw [if_neg hy, if_neg h.ne]; exact fin
theorem r_count {d u : Nat} {M : Mem} {K : Mem → Prop} {s : List Nat} {c : List Int32} (h : FM M s u c) (hu : u < 30) (hK : ∀ M', QFo M M' → (∀ j, j ≠ 20 → j ≠ 22 → ri M' 58 j = ri M 58 j) → (∀ k j, rl M' k j = rl M k j) → FM M' s (u + 1) c → K M') : CV d μX9_countUnit [.ref 58] M K := by
  obtain ⟨h1, h2, h3, h4, h5, h6, h7, h8, h9, h10, h11⟩ := h
  refine sg_X9_countUnit_0 ?_
  rw [h5, nI_1]
  intro M1 g1 M2 g2
  have r1 : ∀ k j, ri M1 k j = if k = 58 ∧ j = 20 then nI (u + 1) else ri M k j := by intro k j; rw [g1, ri_wi]
  rw [show ri M1 58 22 = nI u by rw [r1, if_neg (by omega)]; exact h6, nI_1] at g2
  have r2 : ∀ k j, ri M2 k j = if k = 58 ∧ j = 22 then nI (u + 1) else ri M1 k j := by intro k j; rw [g2, ri_wi]
  have ro : ∀ k j, ¬ (k = 58 ∧ (j = 20 ∨ j = 22)) → ri M2 k j = ri M k j := fun k j a => by rw [r2, if_neg (by omega), r1, if_neg (by omega)]
  refine hK M2 (QFo.trans (show QFo M M1 by rw [g1]; exact qf_w rfl) (by rw [g2]; exact qf_w rfl)) (fun j a b => ro _ _ (by omega)) (fun k j => by rw [g2, rl_wi, g1, rl_wi]) ⟨by rw [ro _ _ (by omega)]; exact h1, fun i hi => by rw [ro _ _ (by omega)]; exact h2 i hi, by rw [ro _ _ (by omega)]; exact h3, fun i hi => by rw [ro _ _ (by omega), ro _ _ (by omega)]; exact h4 i hi, by rw [r2, if_neg (by omega), r1, if_pos ⟨rfl, rfl⟩], by rw [r2, if_pos ⟨rfl, rfl⟩], by rw [ro _ _ (by omega)]; exact h7, h8, h9, h10, by omega⟩
/-- countUnit, whatever stands there -/
theorem r_countF {d : Nat} {M : Mem} {K : Mem → Prop} (hK : ∀ M', QFo M M' → (∀ j, j ≠ 20 → j ≠ 22 → ri M' 58 j = ri M 58 j) → K M') : CV d μX9_countUnit [.ref 58] M K := by
  refine sg_X9_countUnit_0 ?_
  intro M1 g1 M2 g2
  exact hK M2 (QFo.trans (show QFo M M1 by rw [g1]; exact qf_w rfl) (by rw [g2]; exact qf_w rfl)) (fun j a b => by rw [g2, ri_wi, if_neg (by omega), g1, ri_wi, if_neg (by omega)])
theorem FM.push {M M1 M2 M3 : Mem} {s : List Nat} {u x : Nat} {c : List Int32} (h : FM M s u c) (hs : s.length ≤ 100) (hx : x = 20 ∨ okO x) (g1 : M1 = wi M 65 s.length (nI x)) (g2 : M2 = wi M1 58 19 (nI (s.length + 1))) (g3 : ∀ k j, ri M3 k j = if k = 58 ∧ j = 23 then nI (dp (x :: s)) else ri M2 k j) : FM M3 (x :: s) u c := by
  obtain ⟨h1, h2, h3, h4, h5, h6, h7, h8, h9, h10, h11⟩ := h
  have r1 : ∀ k j, ri M1 k j = if k = 65 ∧ j = s.length then nI x else ri M k j := by intro k j; rw [g1, ri_wi]
  have r2 : ∀ k j, ri M2 k j = if k = 58 ∧ j = 19 then nI (s.length + 1) else ri M1 k j := by intro k j; rw [g2, ri_wi]
  have ro : ∀ k j, k ≠ 65 → ¬ (k = 58 ∧ (j = 19 ∨ j = 23)) → ri M3 k j = ri M k j := fun k j a b => by rw [g3, if_neg (by omega), r2, if_neg (by omega), r1, if_neg (by omega)]
  refine ⟨by rw [g3, if_neg (by omega), r2, if_pos ⟨rfl, rfl⟩]; rfl, fun i hi => ?_, by rw [ro _ _ (by omega) (by omega)]; exact h3, fun i hi => by rw [ro _ _ (by omega) (by omega), ro _ _ (by omega) (by omega)]; exact h4 i hi, by rw [ro _ _ (by omega) (by omega)]; exact h5, by rw [ro _ _ (by omega) (by omega)]; exact h6, by rw [g3, if_pos ⟨rfl, rfl⟩], fun y hy => ?_, by show s.length + 1 ≤ 101; omega, h10, h11⟩
  · have hi : i < s.length + 1 := hi
    rw [g3, if_neg (by omega), r2, if_neg (by omega), r1]
    by_cases z : i = s.length
    · rw [if_pos ⟨rfl, z⟩, z]; simp
    · rw [if_neg (fun q => z q.2), rev_lowN (by omega)]; exact h2 i (by omega)
  · rcases List.mem_cons.mp hy with q | q
    · rw [q]; exact hx
    · exact h8 y q
theorem dp_cons (x : Nat) (s : List Nat) : dp (x :: s) = dp s + (if x = 20 ∨ x = 21 then 1 else 0) := by
  show List.countP (fun x => x == 20 || x == 21) (x :: s) = _
  rw [List.countP_cons]
  by_cases h : x = 20 ∨ x = 21
  · rw [if_pos h, if_pos (by simpa using h)]; rfl
  · rw [if_neg h, if_neg (by simpa using h)]; rfl
theorem r_openUp {d u x : Nat} {M : Mem} {K : Mem → Prop} {s : List Nat} {c : List Int32} {σ : Rdg} (hT : TZ M L T) (hO : TOk L T) (h : FM M s u c) (hs : s.length ≤ 100) (hx : x = 20 ∨ x = 21) (hn : RN M L T σ) (hb : ∃ a, σ = .inl a) (hK : ∀ M', QFo M M' → RN M' L T (nxt T L σ) → FM M' (x :: s) u c → K M') : CV (d + 2) μX9_openUp [.ref 58, .int (nI x)] M K := by
  obtain ⟨a, rfl⟩ := hb
  have hdl := dp_le s
  refine sg_X9_openUp_0 ?_
  rw [h.1, show nx (nI s.length) = s.length from nI_clamp (by omega)]
  refine ⟨n_in (by omega) (by decide), fun M1 g1 M2 g2 M3 g3 => ?_⟩
  rw [show ri M1 58 19 = nI s.length by rw [g1, ri_wi, if_neg (by omega)]; exact h.1, nI_1] at g2
  have e23 : ri M2 58 23 = nI (dp s) := by rw [g2, ri_wi, if_neg (by omega), g1, ri_wi, if_neg (by omega)]; exact h.2.2.2.2.2.2.1
  rw [e23, nI_1] at g3
  have hdp : dp (x :: s) = dp s + 1 := by rw [dp_cons, if_pos hx]
  have F3 : FM M3 (x :: s) u c := h.push hs (by rcases hx with q | q; exact Or.inl q; exact Or.inr (Or.inl q)) g1 g2 (fun k j => by rw [g3, ri_wi, hdp])
  have q3 : QFo M M3 := (QFo.trans (show QFo M M1 by rw [g1]; exact qf_c (by omega)) (show QFo M1 M2 by rw [g2]; exact qf_w rfl)).trans (by rw [g3]; exact qf_w rfl)
  have n3 : RN M3 L T (.inl a) := hn.keep (fun j hj => by rw [g3, ri_wi, if_neg (by omega), g2, ri_wi, if_neg (by omega), g1, ri_wi, if_neg (by omega)]) (by rw [g3, rl_wi, g2, rl_wi, g1, rl_wi])
  rw [n3.1, if_pos rfl]
  exact r_tok (hT.qf q3) hO n3 (fun M4 q4 c4 => hK M4 (q3.trans q4.f) c4 (F3.qt q4))
theorem r_openUpF {d : Nat} {M : Mem} {K : Mem → Prop} {n : Nat} {x : Int32} {y : Nat × Nat} (h19 : ri M 58 19 = nI n) (hn : n < 160) (hf : RF M y) (hK : ∀ M', QFo M M' → RF M' y → K M') : CV (d + 1) μX9_openUp [.ref 58, .int x] M K := by
  refine sg_X9_openUp_0 ?_
  rw [h19, show nx (nI n) = n from nI_clamp (by omega)]
  refine ⟨n_in hn (by decide), fun M1 g1 M2 g2 M3 g3 => ?_⟩
  have f3 : RF M3 y := hf.keep (by rw [g3, ri_wi, if_neg (by omega), g2, ri_wi, if_neg (by omega), g1, ri_wi, if_neg (by omega)]) (by rw [g3, ri_wi, if_neg (by omega), g2, ri_wi, if_neg (by omega), g1, ri_wi, if_neg (by omega)])
  rw [if_neg f3.ne]
  exact hK M3 ((QFo.trans (show QFo M M1 by rw [g1]; exact qf_c (by omega)) (show QFo M1 M2 by rw [g2]; exact qf_w rfl)).trans (by rw [g3]; exact qf_w rfl)) f3
theorem cls0_br : ∀ (s : List Nat) (c : List Int32), 20 ∈ s → ∃ s', (cls 0 s c).1 = 20 :: s'
  | [], _, h => by cases h
  | x :: s, c, h => by
    show ∃ s', (if x = 20 ∨ tg x < 0 then (x :: s, c) else cls 0 s (c ++ [opc x])).1 = 20 :: s'
    by_cases hx : x = 20
    · rw [if_pos (Or.inl hx), hx]; exact ⟨s, rfl⟩
    · rw [if_neg (by omega)]
      exact cls0_br s _ ((List.mem_cons.mp h).resolve_left (fun z => hx z.symm))
theorem cls0_nil : ∀ (s : List Nat) (c : List Int32), ¬ 20 ∈ s → (cls 0 s c).1 = []
  | [], _, _ => rfl
  | x :: s, c, h => by
    show (if x = 20 ∨ tg x < 0 then (x :: s, c) else cls 0 s (c ++ [opc x])).1 = []
    rw [if_neg (fun q => by rcases q with q | q; exact h (by rw [q]; exact List.mem_cons_self); omega)]
    exact cls0_nil s _ (fun q => h (List.mem_cons_of_mem _ q))
theorem cls_len (k : Nat) : ∀ (s : List Nat) (c : List Int32), (cls k s c).1.length ≤ s.length
  | [], _ => Nat.le_refl _
  | x :: s, c => by
    show (if x = 20 ∨ tg x < k then (x :: s, c) else cls k s (c ++ [opc x])).1.length ≤ _
    split
    · exact Nat.le_refl _
    · exact Nat.le_trans (cls_len k s _) (by show s.length ≤ s.length + 1; omega)
theorem akI_2 {σ : Rdg} (h : isK T L 2 σ = true) : akI T L σ = -1 := by
  have no : ∀ v, isO T L v σ = false := fun v => by
    cases σ with
    | inr x => cases h
    | inl a => exact isO_k (by have := of_decide_eq_true (show decide (tK T L a = 2) = true from h); omega)
  unfold akI
  rw [no, no, no, no, no]; rfl
theorem inl_of {σ : Rdg} {k : Nat} (h : isK T L k σ = true) : ∃ a, σ = .inl a := by
  cases σ with
  | inl a => exact ⟨a, rfl⟩
  | inr x => cases h
theorem sgn41 {σ : Rdg} (h : isK T L 41 σ = true) : sgn T L σ = 0 := by
  obtain ⟨a, rfl⟩ := inl_of h
  have h := of_decide_eq_true (show decide (tK T L a = 41) = true from h)
  rw [sgn_k (by omega), h]; rfl
theorem Cl_R {d : Nat} {M0 : Mem} {K : Mem → Prop} (hT0 : TZ M0 L T) (hO : TOk L T) : Cl T L (UR d T L M0 K) (OR d T L M0 K) (FR T L M0 K) (ER T L M0 K) := by
  -- a unit that is neither not nor a bracket: to 101
  have to101 : ∀ (s : List Nat) (σ : Rdg) (u : Nat) (c : List Int32) (M : Mem) (K' : Mem → Prop), RN M L T σ → FM M s u c → ¬ (isO T L 9 σ = true ∧ topt s < 4) → isK T L 40 σ = false → RV (d + 4) μX9_unit 101 [(0, .ref 58), (1, .int 0)] [] M K' → RV (d + 4) μX9_unit 2 [(0, .ref 58), (1, .int 1)] [] M K' := by
    intro s σ u c M K' hn hF h9 h40 hk
    have at53 : RV (d + 4) μX9_unit 53 [(0, .ref 58), (1, .int 1)] [] M K' := by
      refine sg_X9_unit_53 ?_
      have e : ri M 58 6 = 40 ↔ isK T L 40 σ = true := hn.k (k := 40) (by omega) (by omega)
      rw [if_neg (fun q => by have := e.mp q; rw [h40] at this; cases this)]
      refine sg_X9_unit_2 ?_
      rw [if_pos rfl]; exact hk
    refine sg_X9_unit_2 ?_
    rw [if_neg (by decide), if_pos hn.1]
    refine r_isWord (w := 9) (by omega) ow_not hn ?_
    cases h9b : isO T L 9 σ with
    | false => rw [if_pos (by decide)]; exact at53
    | true =>
      rw [if_neg (by decide)]
      refine r_mayNot hF ?_
      rw [decide_eq_false (fun q => h9 ⟨h9b, q⟩), if_pos (by decide)]
      exact at53
  refine ⟨?_, ?_, ?_, ?_, ?_, ?_, ?_, ?_, ?_⟩
  · -- a leaf
    intro s σ u c x hl hu hs hc hOs M q hn hF
    have ok := lf_ok hl
    refine to101 s σ u c M _ hn hF (fun z => by rw [ok.2.2.2.2] at z; cases z.1) ok.2.2.2.1 ?_
    refine sg_X9_unit_101 ?_
    rw [if_pos hn.le]
    refine r_asked hn ?_
    have e2 : ri M 58 6 = 2 ↔ isK T L 2 σ = true := hn.k (k := 2) (by omega) (by omega)
    obtain ⟨a, ha⟩ : ∃ a, σ = .inl a := by
      cases σ with
      | inl a => exact ⟨a, rfl⟩
      | inr y => cases hl
    have at172 : ∀ (y1 y2 x2 : Int32) (M1 : Mem), QFo M M1 → RN M1 L T σ → FM M1 s (u + 1) c → encAt y1 y2 x → RV (d + 4) μX9_unit 172 [(0, .ref 58), (1, .int 0), (2, .int x2)] [.int y2, .int y1, .ref 58] M1 (fun M7 => RV (d + 5) μX9_formula 35 [(0, .ref 58), (1, .int 1)] [] M7 K) := by
      intro y1 y2 x2 M1 q1 n1 F1 he
      refine sg_X9_unit_172 ?_
      refine r_add F1 (by omega) he (fun M2 q2 e2 l2 F2 => ?_)
      have n2 : RN M2 L T σ := n1.keep (fun j hj => e2 j (by omega)) (l2 58 9)
      subst ha
      refine r_tok (hT0.qf (q.trans (q1.trans q2))) hO n2 (fun M3 q3 c3 => ?_)
      exact hOs M3 (q.trans ((q1.trans q2).trans q3.f)) c3 (F2.qt q3)
    have at138 : ∀ (x2 : Int32), (isK T L 2 σ = true ∧ x2 = -1 ∧ x = nI (sN T L σ)) ∨ (∃ j, j < 5 ∧ x2 = nI j ∧ encAt 1 (nI j) x) → RV (d + 4) μX9_unit 126 [(0, .ref 58), (1, .int 0), (2, .int x2)] [] M (fun M7 => RV (d + 5) μX9_formula 35 [(0, .ref 58), (1, .int 1)] [] M7 K) := by
      intro x2 hx2
      refine sg_X9_unit_126 (r_isFull hF ?_)
      rw [decide_eq_false (by omega), if_pos (by decide)]
      refine sg_X9_unit_138 ?_
      rw [if_pos hn.le]
      refine r_count hF hu (fun M1 q1 e1 l1 F1 => ?_)
      have n1 : RN M1 L T σ := hn.keep (fun j hj => e1 j (by omega) (by omega)) (l1 58 9)
      rcases hx2 with ⟨h2, rfl, hxx⟩ | ⟨j, hj, rfl, he⟩
      · rw [if_neg (by decide), if_neg (by decide), n1.n h2]
        refine at172 0 _ _ M1 q1 n1 F1 (Or.inr (Or.inr (Or.inl ⟨?_, rfl, hxx.symm⟩)))
        rw [hxx]; exact nI_nn (by have := sN_lt h2; omega)
      · rw [if_pos (nI_nn (by omega)), if_pos (nI_nn (by omega))]
        exact at172 1 _ _ M1 q1 n1 F1 he
    rcases lf_ak (T := T) (L := L) (σ := σ) with ⟨h2, he⟩ | ⟨h2, he, _⟩ | ⟨h2, j, x', hj, hak, he, henc⟩
    · rw [if_pos (e2.mpr h2)]
      rw [hl] at he
      exact at138 _ (Or.inl ⟨h2, akI_2 h2, Option.some.inj he⟩)
    · rw [hl] at he; cases he
    · rw [hl] at he
      cases he
      rw [if_neg (fun z => by have := e2.mp z; rw [h2] at this; cases this), hak, if_neg (i_nlt.mpr (nI_nn (by omega)))]
      exact at138 _ (Or.inr ⟨j, hj, rfl, henc⟩)
  · -- a bracket
    intro s σ u c h40 hu hdp hs hU M q hn hF
    have e40 : ri M 58 6 = 40 ↔ isK T L 40 σ = true := hn.k (k := 40) (by omega) (by omega)
    obtain ⟨a, ha⟩ := inl_of h40
    have h9 : isO T L 9 σ = false := by
      subst ha
      exact isO_k (by have := of_decide_eq_true (show decide (tK T L a = 40) = true from h40); omega)
    refine sg_X9_unit_2 ?_
    rw [if_neg (by decide), if_pos hn.1]
    refine r_isWord (w := 9) (by omega) ow_not hn ?_
    rw [h9, if_pos (by decide)]
    refine sg_X9_unit_53 ?_
    rw [if_pos (e40.mpr h40)]
    refine r_isFull hF ?_
    have hdl := dp_le s
    rw [decide_eq_false (by omega), if_pos (by decide), hF.2.2.2.2.2.2.1, if_pos (by rw [show (6 : Int32) = nI 6 from rfl, nI_leI (by omega) (by omega)]; exact hdp)]
    refine sg_X9_unit_83 ?_
    refine r_count hF hu (fun M1 q1 e1 l1 F1 => ?_)
    have n1 : RN M1 L T σ := hn.keep (fun j hj => e1 j (by omega) (by omega)) (l1 58 9)
    refine r_openUp (x := 20) (hT0.qf (q.trans q1)) hO F1 (by omega) (Or.inl rfl) n1 ⟨a, ha⟩ (fun M2 q2 n2 F2 => ?_)
    exact hU M2 ((q.trans q1).trans q2) n2 F2
  · -- not
    intro s σ u c h9 ht hdp hs hU M q hn hF
    obtain ⟨a, ha⟩ : ∃ a, σ = .inl a := by
      cases σ with
      | inl a => exact ⟨a, rfl⟩
      | inr y => cases h9
    have hdl := dp_le s
    refine sg_X9_unit_2 ?_
    rw [if_neg (by decide), if_pos hn.1]
    refine r_isWord (w := 9) (by omega) ow_not hn ?_
    rw [h9, if_neg (by decide)]
    refine r_mayNot hF ?_
    rw [decide_eq_true ht, if_neg (by decide), hF.2.2.2.2.2.2.1, if_pos (by rw [show (6 : Int32) = nI 6 from rfl, nI_leI (by omega) (by omega)]; exact hdp)]
    refine r_openUp (x := 21) (hT0.qf q) hO hF (by omega) (Or.inr rfl) hn ⟨a, ha⟩ (fun M2 q2 n2 F2 => ?_)
    exact hU M2 (q.trans q2) n2 F2
  · -- faults
    intro s σ u c hc hu hs hf M q hn hF
    have hdl := dp_le s
    have e40 : ri M 58 6 = 40 ↔ isK T L 40 σ = true := hn.k (k := 40) (by omega) (by omega)
    have e2 : ri M 58 6 = 2 ↔ isK T L 2 σ = true := hn.k (k := 2) (by omega) (by omega)
    have bad83 : CV (d + 3) μX9_wrong [.ref 58, .int 2] M (fun M3 => RV (d + 4) μX9_unit 83 [(0, .ref 58), (1, .int 1)] [] M3 (fun M7 => RV (d + 5) μX9_formula 35 [(0, .ref 58), (1, .int 1)] [] M7 K)) := by
      refine r_wrong (f := 2) (by omega) hn (fun M1 q1 c1 => ?_)
      refine sg_X9_unit_83 ?_
      refine r_countF (fun M2 q2 e2 => ?_)
      have f2 : RF M2 (blP T L 2 σ) := c1.keep (e2 2 (by omega) (by omega)) (e2 3 (by omega) (by omega))
      refine r_openUpF (n := s.length) (by rw [e2 19 (by omega) (by omega), q1.1 58 19 (by omega)]; exact hF.1) (by omega) f2 (fun M3 q3 f3 => ?_)
      exact u2F (q.trans ((q1.f.trans q2).trans q3)) f3 hf
    have bad138 : ∀ x2, CV (d + 3) μX9_wrong [.ref 58, .int 2] M (fun M3 => RV (d + 4) μX9_unit 138 [(0, .ref 58), (1, .int 0), (2, .int x2)] [] M3 (fun M7 => RV (d + 5) μX9_formula 35 [(0, .ref 58), (1, .int 1)] [] M7 K)) := by
      intro x2
      refine r_wrong (f := 2) (by omega) hn (fun M1 q1 c1 => ?_)
      refine sg_X9_unit_138 ?_
      rw [if_neg c1.gt]
      exact f35F (q.trans q1.f) c1 hf
    rcases hc with ⟨h9, ht, hd⟩ | ⟨h40, h⟩ | ⟨h9, h40, h⟩
    · refine sg_X9_unit_2 ?_
      rw [if_neg (by decide), if_pos hn.1]
      refine r_isWord (w := 9) (by omega) ow_not hn ?_
      rw [h9, if_neg (by decide)]
      refine r_mayNot hF ?_
      rw [decide_eq_true ht, if_neg (by decide), hF.2.2.2.2.2.2.1, if_neg (by rw [show (6 : Int32) = nI 6 from rfl, nI_leI (by omega) (by omega)]; omega)]
      refine r_wrong (f := 2) (by omega) hn (fun M1 q1 c1 => ?_)
      refine r_openUpF (n := s.length) (by rw [q1.1 58 19 (by omega)]; exact hF.1) (by omega) c1 (fun M3 q3 f3 => ?_)
      exact u2F (q.trans (q1.f.trans q3)) f3 hf
    · have h9 : isO T L 9 σ = false := by
        obtain ⟨a, ha⟩ := inl_of h40
        subst ha
        exact isO_k (by have := of_decide_eq_true (show decide (tK T L a = 40) = true from h40); omega)
      refine sg_X9_unit_2 ?_
      rw [if_neg (by decide), if_pos hn.1]
      refine r_isWord (w := 9) (by omega) ow_not hn ?_
      rw [h9, if_pos (by decide)]
      refine sg_X9_unit_53 ?_
      rw [if_pos (e40.mpr h40)]
      refine r_isFull hF ?_
      by_cases h30 : u = 30
      · rw [decide_eq_true h30, if_neg (by decide)]; exact bad83
      · rw [decide_eq_false h30, if_pos (by decide), hF.2.2.2.2.2.2.1, if_neg (by rw [show (6 : Int32) = nI 6 from rfl, nI_leI (by omega) (by omega)]; omega)]
        exact bad83
    · refine to101 s σ u c M _ hn hF h9 h40 ?_
      refine sg_X9_unit_101 ?_
      rw [if_pos hn.le]
      refine r_asked hn ?_
      have at126 : ∀ x2, u = 30 → RV (d + 4) μX9_unit 126 [(0, .ref 58), (1, .int 0), (2, .int x2)] [] M (fun M7 => RV (d + 5) μX9_formula 35 [(0, .ref 58), (1, .int 1)] [] M7 K) := by
        intro x2 h30
        refine sg_X9_unit_126 (r_isFull hF ?_)
        rw [decide_eq_true h30, if_neg (by decide)]
        exact bad138 x2
      rcases lf_ak (T := T) (L := L) (σ := σ) with ⟨h2, he⟩ | ⟨h2, he, hak⟩ | ⟨h2, j, x', hj, hak, he, henc⟩
      · rw [if_pos (e2.mpr h2)]
        rcases h with h | h
        · rw [he] at h; cases h
        · exact at126 _ h
      · rw [if_neg (fun z => by have := e2.mp z; rw [h2] at this; cases this), hak, if_pos (by decide)]
        exact bad138 _
      · rw [if_neg (fun z => by have := e2.mp z; rw [h2] at this; cases this), hak, if_neg (i_nlt.mpr (nI_nn (by omega)))]
        rcases h with h | h
        · rw [he] at h; cases h
        · exact at126 _ h
  · -- a bracket ends
    intro s σ u c h41 h20 hs hcl hOs M q hn hF
    have e41 : ri M 58 6 = 41 ↔ isK T L 41 σ = true := hn.k (k := 41) (by omega) (by omega)
    obtain ⟨a, ha⟩ := inl_of h41
    refine sg_X9_formula_35 ?_
    rw [if_neg (by decide), if_pos hn.1]
    refine r_sign hn ?_
    rw [if_pos (e41.mpr h41)]
    refine r_hasBracket hF ?_
    rw [decide_eq_true h20, if_neg (by decide)]
    refine r_close (d := d + 2) (k := 0) (by omega) s c M hF hcl (fun M1 q1 e1 l1 F1 => ?_)
    obtain ⟨s', hs'⟩ := cls0_br s c h20
    rw [hs'] at F1 hOs
    have hsl : s'.length + 1 ≤ 101 := F1.2.2.2.2.2.2.2.2.1
    have hdl := dp_le s'
    have hdp : dp (20 :: s') = dp s' + 1 := by rw [dp_cons, if_pos (Or.inl rfl)]
    intro M2 g2 M3 g3
    rw [show ri M1 58 19 = nI (s'.length + 1) from F1.1, nI_pred] at g2
    have r2 : ∀ k j, ri M2 k j = if k = 58 ∧ j = 19 then nI s'.length else ri M1 k j := by intro k j; rw [g2, ri_wi]
    rw [show ri M2 58 23 = nI (dp s' + 1) by rw [r2, if_neg (by omega), F1.2.2.2.2.2.2.1, hdp], nI_pred] at g3
    have r3 : ∀ k j, ri M3 k j = if k = 58 ∧ j = 23 then nI (dp s') else ri M2 k j := by intro k j; rw [g3, ri_wi]
    have ro : ∀ k j, ¬ (k = 58 ∧ (j = 19 ∨ j = 23)) → ri M3 k j = ri M1 k j := fun k j a => by rw [r3, if_neg (by omega), r2, if_neg (by omega)]
    have q3 : QFo M M3 := (q1.trans (show QFo M1 M2 by rw [g2]; exact qf_w rfl)).trans (by rw [g3]; exact qf_w rfl)
    have n3 : RN M3 L T σ := hn.keep (fun j hj => by rw [ro _ _ (by omega), e1 j (by omega) (by omega) (by omega)]) (by rw [g3, rl_wi, g2, rl_wi, l1])
    obtain ⟨f1, f2, f3, f4, f5, f6, f7, f8, f9, f10, f11⟩ := F1
    have F3 : FM M3 s' u (cls 0 s c).2 := ⟨by rw [r3, if_neg (by omega), r2, if_pos ⟨rfl, rfl⟩], fun i hi => by rw [ro _ _ (by omega), f2 i (by show i < s'.length + 1; omega), rev_lowN hi], by rw [ro _ _ (by omega)]; exact f3, fun i hi => by rw [ro _ _ (by omega), ro _ _ (by omega)]; exact f4 i hi, by rw [ro _ _ (by omega)]; exact f5, by rw [ro _ _ (by omega)]; exact f6, by rw [r3, if_pos ⟨rfl, rfl⟩], fun y hy => f8 y (List.mem_cons_of_mem _ hy), by omega, f10, f11⟩
    subst ha
    refine r_tok (hT0.qf (q.trans q3)) hO n3 (fun M4 q4 c4 => ?_)
    exact hOs M4 ((q.trans q3).trans q4.f) c4 (F3.qt q4)
  · -- a sign of two
    intro s σ u c h0 hrel' hs hcl hU M q hn hF
    have e41 : ri M 58 6 = 41 ↔ isK T L 41 σ = true := hn.k (k := 41) (by omega) (by omega)
    have h41 : ¬ isK T L 41 σ = true := fun z => h0 (sgn41 z)
    obtain ⟨hok, h21⟩ := sgn_ok h0
    have hg := okO_lt (Or.inr hok)
    obtain ⟨a, ha⟩ : ∃ a, σ = .inl a := by
      cases σ with
      | inl a => exact ⟨a, rfl⟩
      | inr y => exact absurd rfl h0
    have htg : tg (sgn T L σ) ≤ 6 := by have := sgn_tg h0; omega
    refine sg_X9_formula_35 ?_
    rw [if_neg (by decide), if_pos hn.1]
    refine r_sign hn ?_
    rw [if_neg (fun z => h41 (e41.mp z))]
    have at118 : RV (d + 5) μX9_formula 118 [(0, .ref 58), (1, .int 1), (2, .int (nI (sgn T L σ)))] [] M K := by
      refine sg_X9_formula_118 (r_tight (by omega) ?_)
      refine r_close (d := d + 2) (k := tg (sgn T L σ)) (by omega) s c M hF hcl (fun M1 q1 e1 l1 F1 => ?_)
      have hl1 := cls_len (tg (sgn T L σ)) s c
      rw [F1.1, show nx (nI (cls (tg (sgn T L σ)) s c).1.length) = (cls (tg (sgn T L σ)) s c).1.length from nI_clamp (by omega)]
      refine ⟨n_in (by omega) (by decide), fun M2 g2 M3 g3 => ?_⟩
      rw [show ri M2 58 19 = nI (cls (tg (sgn T L σ)) s c).1.length by rw [g2, ri_wi, if_neg (by omega)]; exact F1.1, nI_1] at g3
      have hdp : dp (sgn T L σ :: (cls (tg (sgn T L σ)) s c).1) = dp (cls (tg (sgn T L σ)) s c).1 := by rw [dp_cons, if_neg (by unfold okO at hok; omega)]; rfl
      have F3 : FM M3 (sgn T L σ :: (cls (tg (sgn T L σ)) s c).1) u (cls (tg (sgn T L σ)) s c).2 := F1.push (by omega) (Or.inr hok) g2 g3 (fun k j => by
        by_cases z : k = 58 ∧ j = 23
        · rw [if_pos z, z.1, z.2, g3, ri_wi, if_neg (by omega), g2, ri_wi, if_neg (by omega), F1.2.2.2.2.2.2.1, hdp]
        · rw [if_neg z])
      have q3 : QFo M M3 := (q1.trans (show QFo M1 M2 by rw [g2]; exact qf_c (by omega))).trans (by rw [g3]; exact qf_w rfl)
      have n3 : RN M3 L T σ := hn.keep (fun j hj => by rw [g3, ri_wi, if_neg (by omega), g2, ri_wi, if_neg (by omega), e1 j (by omega) (by omega) (by omega)]) (by rw [g3, rl_wi, g2, rl_wi, l1])
      subst ha
      refine r_tok (hT0.qf (q.trans q3)) hO n3 (fun M4 q4 c4 => ?_)
      exact sg_X9_unit_0 (hU M4 ((q.trans q3).trans q4.f) c4 (F3.qt q4))
    refine sg_X9_formula_99 ?_
    rw [if_neg (show ¬ nI (sgn T L σ) = 0 from fun z => h0 (nI_inj (b := 0) (by omega) (by omega) z))]
    refine r_tight (by omega) ?_
    by_cases h4 : tg (sgn T L σ) = 4
    · rw [if_pos (by rw [h4]; rfl)]
      refine r_hasRel hF ?_
      have : hrel s = false := by
        cases hh : hrel s with
        | false => rfl
        | true => exact absurd ⟨h4, hh⟩ hrel'
      rw [this, if_pos (by decide)]; exact at118
    · rw [if_neg (show ¬ nI (tg (sgn T L σ)) = 4 from fun z => h4 (nI_inj (b := 4) (by omega) (by omega) z))]; exact at118
  all_goals
    first
    | (-- the end, a bracket open
       intro s σ u c h41 hs0 h20 hs hf M q hn hF
       have e41 : ri M 58 6 = 41 ↔ isK T L 41 σ = true := hn.k (k := 41) (by omega) (by omega)
       have at162 : RV (d + 5) μX9_formula 35 [(0, .ref 58), (1, .int 0)] [] M K := by
         refine sg_X9_formula_35 ?_
         rw [if_pos rfl]
         refine sg_X9_formula_162 ?_
         rw [if_pos hn.1]
         refine r_hasBracket hF ?_
         rw [decide_eq_true h20, if_neg (by decide)]
         refine r_wrong (f := 2) (by omega) hn (fun M1 q1 c1 => ?_)
         rw [if_neg c1.ne]
         exact hf M1 (q.trans q1.f) (Or.inr ⟨_, rfl, c1⟩)
       have at99 : RV (d + 5) μX9_formula 99 [(0, .ref 58), (1, .int 1), (2, .int (nI (sgn T L σ)))] [] M K := by
         refine sg_X9_formula_99 ?_
         by_cases h0 : sgn T L σ = 0
         · rw [if_pos (by rw [h0]; rfl)]; exact at162
         · obtain ⟨hok, h21⟩ := sgn_ok h0
           have hg := okO_lt (Or.inr hok)
           rcases hs0 with z | ⟨h4, hh⟩
           · exact absurd z h0
           · rw [if_neg (show ¬ nI (sgn T L σ) = 0 from fun z => h0 (nI_inj (b := 0) (by omega) (by omega) z))]
             refine r_tight (by omega) ?_
             rw [if_pos (by rw [h4]; rfl)]
             refine r_hasRel hF ?_
             rw [hh, if_neg (by decide)]; exact at162
       refine sg_X9_formula_35 ?_
       rw [if_neg (by decide), if_pos hn.1]
       refine r_sign hn ?_
       rcases h41 with h41 | h41
       · rw [if_neg (fun z => by have := e41.mp z; rw [h41] at this; cases this)]; exact at99
       · exact absurd h20 h41)
    | (-- the end
       intro s σ u c h41 hs0 h20 hs hcl hE M q hn hF
       have e41 : ri M 58 6 = 41 ↔ isK T L 41 σ = true := hn.k (k := 41) (by omega) (by omega)
       have at162 : RV (d + 5) μX9_formula 35 [(0, .ref 58), (1, .int 0)] [] M K := by
         refine sg_X9_formula_35 ?_
         rw [if_pos rfl]
         refine sg_X9_formula_162 ?_
         rw [if_pos hn.1]
         refine r_hasBracket hF ?_
         rw [decide_eq_false h20, if_pos (by decide), if_pos hn.1]
         refine r_close (d := d + 2) (k := 0) (by omega) s c M hF hcl (fun M1 q1 e1 l1 F1 => ?_)
         rw [cls0_nil s c h20] at F1
         exact hE M1 (q.trans q1) (hn.keep (fun j hj => e1 j (by omega) (by omega) (by omega)) (l1 58 9)) F1
       have at99 : RV (d + 5) μX9_formula 99 [(0, .ref 58), (1, .int 1), (2, .int (nI (sgn T L σ)))] [] M K := by
         refine sg_X9_formula_99 ?_
         by_cases h0 : sgn T L σ = 0
         · rw [if_pos (by rw [h0]; rfl)]; exact at162
         · obtain ⟨hok, h21⟩ := sgn_ok h0
           have hg := okO_lt (Or.inr hok)
           rcases hs0 with z | ⟨h4, hh⟩
           · exact absurd z h0
           · rw [if_neg (show ¬ nI (sgn T L σ) = 0 from fun z => h0 (nI_inj (b := 0) (by omega) (by omega) z))]
             refine r_tight (by omega) ?_
             rw [if_pos (by rw [h4]; rfl)]
             refine r_hasRel hF ?_
             rw [hh, if_neg (by decide)]; exact at162
       refine sg_X9_formula_35 ?_
       rw [if_neg (by decide), if_pos hn.1]
       refine r_sign hn ?_
       by_cases h41b : isK T L 41 σ = true
       · rw [if_pos (e41.mpr h41b)]
         refine r_hasBracket hF ?_
         rw [decide_eq_false h20, if_pos (by decide)]; exact at99
       · rw [if_neg (fun z => h41b (e41.mp z))]; exact at99)
    | (intro x u c hf M q hn hF
       exact hf M q (Or.inl hn))
end FormR
