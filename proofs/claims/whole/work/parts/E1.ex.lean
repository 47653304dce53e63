/-! rows that can be worked out; the class's small steps in a formula -/
def Sf (q : Nat → Int32) (e st : List Int32) : Prop := ∀ i, i < e.length → (e[i]?.getD 0 = -6 → prun q (e.take i) st ≠ []) ∧ (e[i]?.getD 0 < -6 → 2 ≤ (prun q (e.take i) st).length) ∧ (-6 < e[i]?.getD 0 → (prun q (e.take i) st).length < 31)
def Ex (e : List Int32) (n : Nat) : Prop := ∀ (q : Nat → Int32) (st : List Int32), st.length + n ≤ 31 → Sf q e st ∧ ∃ v, prun q e st = v :: st
theorem prun_app (q : Nat → Int32) (a b st : List Int32) : prun q (a ++ b) st = prun q b (prun q a st) := by unfold prun; rw [List.foldl_append]
theorem Sf_app {q : Nat → Int32} {a b st : List Int32} (h1 : Sf q a st) (h2 : Sf q b (prun q a st)) : Sf q (a ++ b) st := by
  intro i hi
  by_cases hia : i < a.length
  · rw [List.getElem?_append_left hia, List.take_append_of_le_length (by omega)]; exact h1 i hia
  · rw [List.length_append] at hi
    have e : (a ++ b).take i = a ++ b.take (i - a.length) := by rw [List.take_append, List.take_of_length_le (by omega)]
    rw [List.getElem?_append_right (by omega), e, prun_app]
    exact h2 (i - a.length) (by omega)
theorem Sf_one {q : Nat → Int32} {x : Int32} {st : List Int32} (h : (x = -6 → st ≠ []) ∧ (x < -6 → 2 ≤ st.length) ∧ (-6 < x → st.length < 31)) : Sf q [x] st := by
  intro i hi
  have hi : i = 0 := by have : i < 1 := hi; omega
  subst hi
  exact h
theorem Ex_leaf {x : Int32} (hx : -6 < x) : Ex [x] 1 := by
  intro q st hst
  refine ⟨Sf_one ⟨fun z => ?_, fun z => ?_, fun _ => by omega⟩, ?_⟩
  · rw [z] at hx; exact absurd hx (by decide)
  · exact absurd (Int32.lt_trans z hx) Int32.lt_irrefl
  · show ∃ v, pst q x st = v :: st
    unfold pst
    rw [if_neg (fun z => by rw [z] at hx; exact absurd hx (by decide)), if_neg (fun z => absurd (Int32.lt_trans z hx) Int32.lt_irrefl), if_pos (by omega)]
    exact ⟨_, rfl⟩
theorem Ex_not {e : List Int32} {n : Nat} (h : Ex e n) : Ex (e ++ [-6]) n := by
  intro q st hst
  obtain ⟨h1, v, hv⟩ := h q st hst
  refine ⟨Sf_app h1 (Sf_one ⟨fun _ => (by rw [hv]; intro z; cases z), fun z => absurd z (by decide), fun z => absurd z (by decide)⟩), ?_⟩
  rw [prun_app, hv]
  exact ⟨_, rfl⟩
theorem Ex_op {e1 e2 : List Int32} {n1 n2 : Nat} {op : Int32} (h1 : Ex e1 n1) (h2 : Ex e2 n2) (hn : 1 ≤ n1) (ho : op < -6) : Ex (e1 ++ e2 ++ [op]) (n1 + n2) := by
  intro q st hst
  obtain ⟨a1, v1, b1⟩ := h1 q st (by omega)
  obtain ⟨a2, v2, b2⟩ := h2 q (v1 :: st) (by show st.length + 1 + n2 ≤ 31; omega)
  have hp : prun q (e1 ++ e2) st = v2 :: v1 :: st := by rw [prun_app, b1, b2]
  refine ⟨Sf_app (Sf_app a1 (by rw [b1]; exact a2)) (Sf_one ⟨fun z => by rw [z] at ho; exact absurd ho (by decide), fun _ => by rw [hp]; show 2 ≤ st.length + 1 + 1; omega, fun z => absurd (Int32.lt_trans z ho) Int32.lt_irrefl⟩), ?_⟩
  rw [prun_app, hp]
  show ∃ v, pst q op (v2 :: v1 :: st) = v :: st
  unfold pst
  rw [if_neg (fun z => by rw [z] at ho; exact absurd ho (by decide)), if_pos ho]
  exact ⟨_, rfl⟩
theorem Ex_mono {e : List Int32} {n m : Nat} (h : Ex e n) (hm : n ≤ m) : Ex e m := fun q st hst => h q st (by omega)
theorem Ex_wf {e : List Int32} {n : Nat} (h : Ex e n) (hn : n ≤ 31) : WfF e := by
  refine ⟨fun q i hi => (h q [] (by show 0 + n ≤ 31; omega)).1 i hi, fun q _ => ?_⟩
  obtain ⟨-, v, hv⟩ := h q [] (by show 0 + n ≤ 31; omega)
  rw [hv]; intro z; cases z
/-- the class's row so far -/
def GC (M : Mem) (t u : Nat) (c : List Int32) : Prop := ri M (t + 7) 3 = nI c.length ∧ ri M (t + 7) 4 = nI u ∧ ∀ i, i < c.length → ri M (t + 8) i = c[i]?.getD 0
def QG (t : Nat) (M M' : Mem) : Prop := (∀ k j, k ≠ 1 ∨ j = 2 ∨ j = 3 ∨ (j < 2 ∧ ri M' 1 0 = 0) → ¬ (k = t + 7 ∧ (j = 3 ∨ j = 4)) → k ≠ t + 8 → ri M' k j = ri M k j) ∧ ∀ k j, k ≠ 1 → rl M' k j = rl M k j
theorem QG.rf {t : Nat} {M : Mem} : QG t M M := ⟨fun _ _ _ _ _ => rfl, fun _ _ _ => rfl⟩
theorem QG.trans {t : Nat} {M M' M'' : Mem} (h : QG t M M') (h2 : QG t M' M'') : QG t M M'' := by
  refine ⟨fun k j a b e => ?_, fun k j a => (h2.2 k j a).trans (h.2 k j a)⟩
  rcases a with a | a | a | ⟨a, c⟩
  · exact (h2.1 k j (Or.inl a) b e).trans (h.1 k j (Or.inl a) b e)
  · exact (h2.1 k j (Or.inr (Or.inl a)) b e).trans (h.1 k j (Or.inr (Or.inl a)) b e)
  · exact (h2.1 k j (Or.inr (Or.inr (Or.inl a))) b e).trans (h.1 k j (Or.inr (Or.inr (Or.inl a))) b e)
  · have c' : ri M' 1 0 = 0 := by rw [← h2.1 1 0 (Or.inr (Or.inr (Or.inr ⟨by omega, c⟩))) (by omega) (by omega)]; exact c
    exact (h2.1 k j (Or.inr (Or.inr (Or.inr ⟨a, c⟩))) b e).trans (h.1 k j (Or.inr (Or.inr (Or.inr ⟨a, c'⟩))) b e)
theorem QA.g {t : Nat} {M M' : Mem} (h : QA M M') : QG t M M' := ⟨fun k j a _ _ => h.1 k j a, fun k j a => h.2 k j a⟩
theorem QG.r {t : Nat} {M M' : Mem} (ht : t = 2 ∨ t = 15) (h : QG t M M') : QR t M M' := ⟨fun k j a b => h.1 k j a (by omega) (by omega), fun k j a _ => h.2 k j a⟩
theorem QG.into {t : Nat} {M M' : Mem} (ht : t = 2 ∨ t = 15) (q : QG t M M') (h : nx (ri M 1 3) = t) : nx (ri M' 1 3) = t := by rw [q.1 1 3 (by omega) (by omega) (by omega)]; exact h
theorem TX.qg {t : Nat} {M M' : Mem} {L : Nat} {T : Nat → Nat} (ht : t = 2 ∨ t = 15) (h : TX M L T) (q : QG t M M') : TX M' L T := ⟨by rw [q.1 1 2 (by omega) (by omega) (by omega)]; exact h.1, fun i hi => by rw [q.1 14 i (by omega) (by omega) (by omega)]; exact h.2 i hi⟩
theorem GC.qa {M M' : Mem} {t u : Nat} {c : List Int32} (ht : t = 2 ∨ t = 15) (h : GC M t u c) (q : QA M M') : GC M' t u c := ⟨by rw [q.1 _ _ (by omega)]; exact h.1, by rw [q.1 _ _ (by omega)]; exact h.2.1, fun i hi => by rw [q.1 _ _ (by omega)]; exact h.2.2 i hi⟩
theorem x_put {d t u : Nat} {M : Mem} {K : Mem → Prop} {c : List Int32} {x : Int32} (ht : t = 2 ∨ t = 15) (h : GC M t u c) (hc : c.length < 270) (hK : ∀ M', QG t M M' → (∀ j, ri M' 1 j = ri M 1 j) → (∀ j, rl M' 1 j = rl M 1 j) → GC M' t u (c ++ [x]) → K M') : CV d μX1_put [.ref (t + 7), .int x] M K := by
  refine sg_X1_put_0 (tell_kd ht).2.1 ?_
  rw [h.1, if_neg (by show ¬ nI 270 ≤ nI c.length; rw [nI_leI (by omega) (by omega)]; omega), show nx (nI c.length) = c.length from nI_clamp (by omega)]
  refine ⟨n_in hc (by decide), fun M1 g1 M2 g2 => ?_⟩
  have r1 : ∀ k j, ri M1 k j = if k = t + 7 + 1 ∧ j = c.length then x else ri M k j := by intro k j; rw [g1, ri_wi]
  rw [show ri M1 (t + 7) 3 = nI c.length by rw [r1, if_neg (by omega)]; exact h.1, nI_1] at g2
  have r2 : ∀ k j, ri M2 k j = if k = t + 7 ∧ j = 3 then nI (c.length + 1) else ri M1 k j := by intro k j; rw [g2, ri_wi]
  refine hK M2 ⟨fun k j _ b cc => by rw [r2, if_neg (by omega), r1, if_neg (by omega)], fun k j _ => by rw [g2, rl_wi, g1, rl_wi]⟩ (fun j => by rw [r2, if_neg (by omega), r1, if_neg (by omega)]) (fun j => by rw [g2, rl_wi, g1, rl_wi]) ⟨by rw [r2, if_pos ⟨rfl, rfl⟩, List.length_append]; rfl, by rw [r2, if_neg (by omega), r1, if_neg (by omega)]; exact h.2.1, fun i hi => ?_⟩
  rw [List.length_append] at hi
  have hi : i < c.length + 1 := hi
  rw [r2, if_neg (by omega), r1]
  by_cases hic : i = c.length
  · rw [if_pos ⟨by omega, hic⟩, hic]; simp
  · rw [if_neg (fun q => hic q.2), List.getElem?_append_left (by omega)]; exact h.2.2 i (by omega)
/-- a fault: something is put that matters to nobody -/
theorem x_putF {d t m : Nat} {M : Mem} {K : Mem → Prop} {x : Int32} (ht : t = 2 ∨ t = 15) (hm : m ≤ 270) (h : ri M (t + 7) 3 = nI m) (hK : ∀ M', QG t M M' → (∀ j, ri M' 1 j = ri M 1 j) → (∀ j, rl M' 1 j = rl M 1 j) → (∃ m, m ≤ 270 ∧ ri M' (t + 7) 3 = nI m) → K M') : CV d μX1_put [.ref (t + 7), .int x] M K := by
  refine sg_X1_put_0 (tell_kd ht).2.1 ?_
  rw [h]
  by_cases h270 : m = 270
  · rw [if_pos (by show nI 270 ≤ nI m; rw [nI_leI (by omega) (by omega)]; omega)]
    exact hK M QG.rf (fun _ => rfl) (fun _ => rfl) ⟨m, hm, h⟩
  · rw [if_neg (by show ¬ nI 270 ≤ nI m; rw [nI_leI (by omega) (by omega)]; omega), show nx (nI m) = m from nI_clamp (by omega)]
    refine ⟨n_in (by omega) (by decide), fun M1 g1 M2 g2 => ?_⟩
    have r1 : ∀ k j, ri M1 k j = if k = t + 7 + 1 ∧ j = m then x else ri M k j := by intro k j; rw [g1, ri_wi]
    rw [show ri M1 (t + 7) 3 = nI m by rw [r1, if_neg (by omega)]; exact h, nI_1] at g2
    have r2 : ∀ k j, ri M2 k j = if k = t + 7 ∧ j = 3 then nI (m + 1) else ri M1 k j := by intro k j; rw [g2, ri_wi]
    exact hK M2 ⟨fun k j _ b cc => by rw [r2, if_neg (by omega), r1, if_neg (by omega)], fun k j _ => by rw [g2, rl_wi, g1, rl_wi]⟩ (fun j => by rw [r2, if_neg (by omega), r1, if_neg (by omega)]) (fun j => by rw [g2, rl_wi, g1, rl_wi]) ⟨m + 1, by omega, by rw [r2, if_pos ⟨rfl, rfl⟩]⟩
def sgk (k : Nat) : Nat := if k = 60 then 60 else if k = 62 then 62 else if k = 61 then 61 else if k = 43 then 43 else if k = 45 then 45 else if k = 42 then 42 else if k = 47 then 47 else if k = 37 then 37 else 0
def ovK (g lev : Nat) : Int32 := if g ≠ 0 ∧ tg g = tl lev then opc g else 0
section FormSteps
variable {T : Nat → Nat} {L : Nat}
theorem isO_k {w a : Nat} (h : tK T L a ≠ 1) : isO T L w (.inl a) = false := by
  unfold isO
  rw [show isK T L 1 (.inl a) = false from decide_eq_false h]; rfl
theorem sgn_k {a : Nat} (h : tK T L a ≠ 1) : sgn T L (.inl a) = sgk (tK T L a) := by
  unfold sgn sgk
  rw [isO_k h, isO_k h, if_neg (by decide), if_neg (by decide)]
  simp only [isK, decide_eq_true_eq]
theorem sgn_w {a : Nat} (h : tK T L a = 1) : sgn T L (.inl a) = if isO T L 8 (.inl a) = true then 38 else if isO T L 7 (.inl a) = true then 124 else 0 := by
  unfold sgn
  have e : ∀ k, k ≠ 1 → ¬ isK T L k (.inl a) = true := fun k hk q => hk ((of_decide_eq_true (show decide (tK T L a = k) = true from q)).symm.trans h)
  rw [if_neg (e 60 (by omega)), if_neg (e 62 (by omega)), if_neg (e 61 (by omega)), if_neg (e 43 (by omega)), if_neg (e 45 (by omega)), if_neg (e 42 (by omega)), if_neg (e 47 (by omega)), if_neg (e 37 (by omega))]
theorem sgk_ok (k : Nat) : sgk k = 0 ∨ (okO (sgk k) ∧ sgk k ≠ 21 ∧ sgk k = k) := by
  unfold sgk okO
  repeat' split
  all_goals omega
theorem sgn_ok {σ : Rdg} (h : sgn T L σ ≠ 0) : okO (sgn T L σ) ∧ sgn T L σ ≠ 21 := by
  cases σ with
  | inr x => exact absurd rfl h
  | inl a =>
    by_cases h1 : tK T L a = 1
    · rw [sgn_w h1] at h ⊢
      split
      · exact ⟨by unfold okO; omega, by omega⟩
      · split
        · exact ⟨by unfold okO; omega, by omega⟩
        · rename_i q1 q2; rw [if_neg q1, if_neg q2] at h; exact absurd rfl h
    · rw [sgn_k h1] at h ⊢
      rcases sgk_ok (tK T L a) with q | q
      · exact absurd q h
      · exact ⟨q.1, q.2.1⟩
theorem sgn_tg {σ : Rdg} (h : sgn T L σ ≠ 0) : tg (sgn T L σ) = 1 ∨ tg (sgn T L σ) = 2 ∨ tg (sgn T L σ) = 4 ∨ tg (sgn T L σ) = 5 ∨ tg (sgn T L σ) = 6 := by
  obtain ⟨h1, h2⟩ := sgn_ok h
  generalize sgn T L σ = g at *
  unfold okO at h1
  rcases h1 with rfl | rfl | rfl | rfl | rfl | rfl | rfl | rfl | rfl | rfl | rfl
  · exact absurd rfl h2
  all_goals decide
theorem opc_op {g : Nat} (h : okO g) (h2 : g ≠ 21) : opc g < -6 ∧ -16 ≤ (opc g).toInt ∧ opc g ≠ 0 := by
  unfold okO at h
  rcases h with rfl | rfl | rfl | rfl | rfl | rfl | rfl | rfl | rfl | rfl | rfl
  · exact absurd rfl h2
  all_goals decide
theorem x_op61 {d lev k : Nat} {M : Mem} {K : Int32 → Mem → Prop} (hl : lev < 5) (hk : 37 ≤ k ∧ k ≤ 62) (hK : K (ovK (sgk k) lev) M) : RI d μX6_opHere 61 [(0, .ref 1), (1, .int (nI lev))] [.int (nI k)] M K := by
  have e : ∀ c : Nat, c < 100 → (nI k = nI c) → k = c := fun c hc q => nI_inj (by omega) (by omega) q
  have hti : (nI k).toInt = (k : Int) := nI_toInt (by omega)
  have hlv : lev = 0 ∨ lev = 1 ∨ lev = 2 ∨ lev = 3 ∨ lev = 4 := by omega
  refine sg_X6_opHere_61 ?_
  rcases hlv with rfl | rfl | rfl | rfl | rfl
  all_goals
    refine ⟨fun q => ?_, fun q => ?_, fun q => ?_, fun q => ?_, fun q => ?_, fun q => ?_, fun q => ?_, fun q => ?_, fun q => ?_, fun q => ?_, fun q => ?_, fun q => ?_, fun q => ?_, fun q => ?_, fun q => ?_, fun q => ?_, fun q => ?_, fun q => ?_, fun q => ?_, fun q => ?_, fun q => ?_, fun q => ?_, fun q => ?_, fun q => ?_, fun q => ?_, fun q => ?_, fun q => ?_⟩
  all_goals first
    | (exfalso; rw [hti] at q; omega)
    | (have q2 := e _ (by decide) q; subst q2; first | exact hK | (rw [if_pos (by decide)]; exact hK) | (rw [if_neg (by decide)]; exact hK))
theorem x_op0 {d lev : Nat} {M : Mem} {K : Int32 → Mem → Prop} (hK : K 0 M) : RI d μX6_opHere 61 [(0, .ref 1), (1, .int (nI lev))] [.int 0] M K := by
  refine sg_X6_opHere_61 ?_
  refine ⟨fun q => ?_, fun q => ?_, fun q => ?_, fun q => ?_, fun q => ?_, fun q => ?_, fun q => ?_, fun q => ?_, fun q => ?_, fun q => ?_, fun q => ?_, fun q => ?_, fun q => ?_, fun q => ?_, fun q => ?_, fun q => ?_, fun q => ?_, fun q => ?_, fun q => ?_, fun q => ?_, fun q => ?_, fun q => ?_, fun q => ?_, fun q => ?_, fun q => ?_, fun q => ?_, fun q => hK⟩
  all_goals exact absurd q (by decide)
theorem x_opHere {d lev : Nat} {M : Mem} {K : Int32 → Mem → Prop} {σ : Rdg} (hl : lev < 5) (h : CS M L T σ) (hK : K (ovK (sgn T L σ) lev) M) : CI d μX6_opHere [.ref 1, .int (nI lev)] M K := by
  refine sg_X6_opHere_0 ?_
  cases σ with
  | inr x =>
    have hc : CF M x.1 x.2 := h
    rw [hc.2.2.1, if_neg (by decide), if_neg (by decide)]
    exact x_op0 hK
  | inl a =>
    have hk := h.k1
    have hkk := tKc T L a
    by_cases h1 : tK T L a = 1
    · have hi : isK T L 1 (.inl a) = true := decide_eq_true h1
      have ow := (hk.2.2.1 hi).2.1
      rw [if_pos (hk.1.mpr hi), ow]
      rw [sgn_w h1] at hK
      have e7 : owF (sW T L (.inl a)) 14 = 7 ↔ isO T L 7 (.inl a) = true := by
        rw [show (7 : Int32) = nI 7 from rfl, owF_eq (by omega)]; unfold isO; rw [hi, Bool.true_and, decide_eq_true_iff]
      have e8 : owF (sW T L (.inl a)) 14 = 8 ↔ isO T L 8 (.inl a) = true := by
        rw [show (8 : Int32) = nI 8 from rfl, owF_eq (by omega)]; unfold isO; rw [hi, Bool.true_and, decide_eq_true_iff]
      have hlv : lev = 0 ∨ lev = 1 ∨ lev = 2 ∨ lev = 3 ∨ lev = 4 := by omega
      by_cases h8 : isO T L 8 (.inl a) = true
      · have h7 : isO T L 7 (.inl a) = false := isO_ne (by omega) (by omega) (by omega) h8
        rw [if_pos h8] at hK
        rcases hlv with rfl | rfl | rfl | rfl | rfl
        · rw [if_pos (by decide), if_neg (fun q => by have := e7.mp q; rw [h7] at this; cases this), if_neg (by decide)]; exact hK
        · rw [if_neg (by decide), if_pos (by decide), if_pos (e8.mpr h8)]; exact hK
        · rw [if_neg (by decide), if_neg (by decide)]; exact hK
        · rw [if_neg (by decide), if_neg (by decide)]; exact hK
        · rw [if_neg (by decide), if_neg (by decide)]; exact hK
      · rw [if_neg h8] at hK
        by_cases h7 : isO T L 7 (.inl a) = true
        · rw [if_pos h7] at hK
          rcases hlv with rfl | rfl | rfl | rfl | rfl
          · rw [if_pos (by decide), if_pos (e7.mpr h7)]; exact hK
          · rw [if_neg (by decide), if_pos (by decide), if_neg (fun q => h8 (e8.mp q))]; exact hK
          · rw [if_neg (by decide), if_neg (by decide)]; exact hK
          · rw [if_neg (by decide), if_neg (by decide)]; exact hK
          · rw [if_neg (by decide), if_neg (by decide)]; exact hK
        · rw [if_neg h7] at hK
          have hK : K 0 M := by unfold ovK at hK; rw [if_neg (fun q => q.1 rfl)] at hK; exact hK
          rcases hlv with rfl | rfl | rfl | rfl | rfl
          · rw [if_pos (by decide), if_neg (fun q => h7 (e7.mp q)), if_neg (by decide)]; exact hK
          · rw [if_neg (by decide), if_pos (by decide), if_neg (fun q => h8 (e8.mp q))]; exact hK
          · rw [if_neg (by decide), if_neg (by decide)]; exact hK
          · rw [if_neg (by decide), if_neg (by decide)]; exact hK
          · rw [if_neg (by decide), if_neg (by decide)]; exact hK
    · have hi : ¬ isK T L 1 (.inl a) = true := fun q => h1 (of_decide_eq_true q)
      rw [if_neg (fun q => hi (hk.1.mp q))]
      rw [sgn_k h1] at hK
      obtain ⟨⟨c1, c2, c3, c4, c5, c6, c7⟩, c8, c9⟩ := h
      by_cases h3 : 2 < tK T L a
      · rw [if_pos (by rw [c4]; exact (kC_3 hkk).mpr h3), c7 (by omega)]
        exact x_op61 hl (by omega) hK
      · rw [if_neg (by rw [c4]; exact fun q => h3 ((kC_3 hkk).mp q))]
        refine x_op0 ?_
        have : sgk (tK T L a) = 0 := by
          rcases sgk_ok (tK T L a) with q | q
          · exact q
          · have := q.1; rw [q.2.2] at this; unfold okO at this; omega
        rw [this] at hK
        unfold ovK at hK; rw [if_neg (fun q => q.1 rfl)] at hK; exact hK
theorem x_given {d : Nat} {M : Mem} {K : Int32 → Mem → Prop} {σ : Rdg} (h : CS M L T σ) (h2 : isK T L 2 σ = false) (hK : K ((lf T L σ).getD (-6)) M) : CI d μX6_givenHere [.ref 1] M K := by
  refine sg_X6_givenHere_0 ?_
  have hk := h.k1
  unfold lf at hK
  rw [h2, if_neg (by decide)] at hK
  have iw : ∀ w, w < 14 → isO T L w σ = true → isK T L 1 σ = true ∧ owF (sW T L σ) 14 = nI w := fun w hw q => by
    unfold isO at q
    rw [Bool.and_eq_true, decide_eq_true_iff] at q
    exact ⟨q.1, (owF_eq hw).mpr q.2⟩
  have wi' : ∀ w, w < 14 → isK T L 1 σ = true → owF (sW T L σ) 14 = nI w → isO T L w σ = true := fun w hw q1 q2 => by
    unfold isO; rw [q1, Bool.true_and]; exact decide_eq_true ((owF_eq hw).mp q2)
  by_cases h1 : isK T L 1 σ = true
  · rw [if_pos (hk.1.mpr h1), (hk.2.2.1 h1).2.1]
    rcases owF_cases (sW T L σ) with ⟨w, hw, e, ho⟩ | ⟨hn, ho⟩
    · rw [ho]
      have hw2 := wi' w hw h1 ho
      have no : ∀ v, v < 14 → v ≠ w → isO T L v σ = false := fun v hv hne => isO_ne hw hv (Ne.symm hne) hw2
      have eq : ∀ c, c < 100 → nI w = nI c → w = c := fun c hc q => nI_inj (by omega) (by omega) q
      have hti : (nI w).toInt = (w : Int) := nI_toInt (by omega)
      refine sg_X6_givenHere_16 ⟨fun q => ?_, fun q => ?_, fun q => ?_, fun q => ?_, fun q => ?_, fun q => ?_, fun q => ?_, fun q => ?_, fun q => ?_, fun q => ?_⟩
      · have := eq 5 (by omega) q; subst this
        rw [no 10 (by omega) (by omega), if_neg (by decide), if_pos hw2] at hK; exact hK
      · have := eq 6 (by omega) q; subst this
        rw [no 10 (by omega) (by omega), no 5 (by omega) (by omega), no 11 (by omega) (by omega), no 12 (by omega) (by omega), no 13 (by omega) (by omega)] at hK; exact hK
      · have := eq 7 (by omega) q; subst this
        rw [no 10 (by omega) (by omega), no 5 (by omega) (by omega), no 11 (by omega) (by omega), no 12 (by omega) (by omega), no 13 (by omega) (by omega)] at hK; exact hK
      · have := eq 8 (by omega) q; subst this
        rw [no 10 (by omega) (by omega), no 5 (by omega) (by omega), no 11 (by omega) (by omega), no 12 (by omega) (by omega), no 13 (by omega) (by omega)] at hK; exact hK
      · have := eq 9 (by omega) q; subst this
        rw [no 10 (by omega) (by omega), no 5 (by omega) (by omega), no 11 (by omega) (by omega), no 12 (by omega) (by omega), no 13 (by omega) (by omega)] at hK; exact hK
      · have := eq 10 (by omega) q; subst this
        rw [if_pos hw2] at hK; exact hK
      · have := eq 11 (by omega) q; subst this
        rw [no 10 (by omega) (by omega), no 5 (by omega) (by omega), if_neg (by decide), if_neg (by decide), if_pos hw2] at hK; exact hK
      · have := eq 12 (by omega) q; subst this
        rw [no 10 (by omega) (by omega), no 5 (by omega) (by omega), no 11 (by omega) (by omega), if_neg (by decide), if_neg (by decide), if_neg (by decide), if_pos hw2] at hK; exact hK
      · have := eq 13 (by omega) q; subst this
        rw [no 10 (by omega) (by omega), no 5 (by omega) (by omega), no 11 (by omega) (by omega), no 12 (by omega) (by omega), if_neg (by decide), if_neg (by decide), if_neg (by decide), if_neg (by decide), if_pos hw2] at hK; exact hK
      · rw [hti] at q
        rw [no 10 (by omega) (by omega), no 5 (by omega) (by omega), no 11 (by omega) (by omega), no 12 (by omega) (by omega), no 13 (by omega) (by omega)] at hK; exact hK
    · rw [ho]
      have no : ∀ v, v < 14 → isO T L v σ = false := fun v hv => by
        cases hq : isO T L v σ with
        | false => rfl
        | true => have := (iw v hv hq).2; rw [ho] at this; have nn := nI_nn (v := v) (by omega); rw [← this] at nn; exact absurd nn (by decide)
      rw [no 10 (by omega), no 5 (by omega), no 11 (by omega), no 12 (by omega), no 13 (by omega)] at hK
      refine sg_X6_givenHere_16 ⟨fun q => ?_, fun q => ?_, fun q => ?_, fun q => ?_, fun q => ?_, fun q => ?_, fun q => ?_, fun q => ?_, fun q => ?_, fun q => hK⟩
      all_goals exact absurd q (by decide)
  · rw [if_neg (fun q => h1 (hk.1.mp q))]
    have no : ∀ v, isO T L v σ = false := fun v => by unfold isO; rw [Bool.eq_false_iff.mpr h1]; rfl
    rw [no, no, no, no, no] at hK
    refine sg_X6_givenHere_16 ⟨fun q => ?_, fun q => ?_, fun q => ?_, fun q => ?_, fun q => ?_, fun q => ?_, fun q => ?_, fun q => ?_, fun q => ?_, fun q => hK⟩
    all_goals exact absurd q (by decide)
theorem lf_ok {σ : Rdg} {x : Int32} (h : lf T L σ = some x) : -6 < x ∧ -16 ≤ x.toInt ∧ x ≠ -6 ∧ isK T L 40 σ = false ∧ isO T L 9 σ = false := by
  have two : isK T L 2 σ = true → isK T L 40 σ = false ∧ isO T L 9 σ = false := fun q => by
    cases σ with
    | inr y => cases q
    | inl a =>
      have q := of_decide_eq_true (show decide (tK T L a = 2) = true from q)
      exact ⟨decide_eq_false (by omega), isO_k (by omega)⟩
  have wrd : ∀ w, w < 14 → w ≠ 9 → isO T L w σ = true → isK T L 40 σ = false ∧ isO T L 9 σ = false := fun w hw h9 q => by
    refine ⟨?_, isO_ne hw (by omega) h9 q⟩
    unfold isO at q
    rw [Bool.and_eq_true] at q
    cases σ with
    | inr y => rfl
    | inl a =>
      have q := of_decide_eq_true (show decide (tK T L a = 1) = true from q.1)
      exact decide_eq_false (by omega)
  unfold lf at h
  split at h
  · rename_i h2
    cases h
    have hl := sN_lt h2
    refine ⟨?_, ?_, ?_, two h2⟩
    · exact Int32.lt_of_lt_of_le (by decide) (nI_nn (v := sN T L σ) (by omega))
    · rw [nI_toInt (by omega)]; omega
    · intro z; have := nI_nn (v := sN T L σ) (by omega); rw [z] at this; exact absurd this (by decide)
  · split at h
    · rename_i q; cases h; exact ⟨by decide, by decide, by decide, wrd 10 (by omega) (by omega) q⟩
    · split at h
      · rename_i q; cases h; exact ⟨by decide, by decide, by decide, wrd 5 (by omega) (by omega) q⟩
      · split at h
        · rename_i q; cases h; exact ⟨by decide, by decide, by decide, wrd 11 (by omega) (by omega) q⟩
        · split at h
          · rename_i q; cases h; exact ⟨by decide, by decide, by decide, wrd 12 (by omega) (by omega) q⟩
          · split at h
            · rename_i q; cases h; exact ⟨by decide, by decide, by decide, wrd 13 (by omega) (by omega) q⟩
            · cases h
end FormSteps
