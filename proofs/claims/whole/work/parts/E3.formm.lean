/-! the model's stack of signs: its small steps -/
theorem r_tight {d x : Nat} {M : Mem} {K : Int32 → Mem → Prop} (hx : x < 1000) (hK : K (nI (tg x)) M) : CI d μX9_tight [.int (nI x)] M K := by
  have e : ∀ c, c < 1000 → nI x = nI c → x = c := fun c hc q => nI_inj (by omega) (by omega) q
  refine sg_X9_tight_0 ⟨fun q => ?_, fun q => ?_, fun q => ?_, fun q => ?_, fun q => ?_, fun q => ?_, fun q => ?_, fun q => ?_, fun q => ?_⟩
  · have := e 21 (by omega) q; subst this; exact hK
  · have := e 38 (by omega) q; subst this; exact hK
  · have := e 43 (by omega) q; subst this; exact hK
  · have := e 45 (by omega) q; subst this; exact hK
  · have := e 60 (by omega) q; subst this; exact hK
  · have := e 61 (by omega) q; subst this; exact hK
  · have := e 62 (by omega) q; subst this; exact hK
  · have := e 124 (by omega) q; subst this; exact hK
  · have n : ∀ c, ¬ nI x = nI c → x ≠ c := fun c h z => h (by rw [z])
    have n1 := n 21 q.1
    have n2 := n 38 q.2.1
    have n3 := n 43 q.2.2.1
    have n4 := n 45 q.2.2.2.1
    have n5 := n 60 q.2.2.2.2.1
    have n6 := n 61 q.2.2.2.2.2.1
    have n7 := n 62 q.2.2.2.2.2.2.1
    have n8 := n 124 q.2.2.2.2.2.2.2
    have : tg x = 6 := by unfold tg; rw [if_neg n8, if_neg n2, if_neg n1, if_neg (by omega), if_neg (by omega)]
    rw [this] at hK; exact hK
def fj (j : Nat) : Bool := [2, 3, 4, 6, 7, 8, 17, 19, 20, 22, 23].contains j
def QFo (M M' : Mem) : Prop := (∀ k j, k ≠ 61 → k ≠ 62 → k ≠ 65 → ¬ (k = 58 ∧ fj j = true) → ri M' k j = ri M k j) ∧ ∀ k j, ¬ (k = 58 ∧ j = 9) → rl M' k j = rl M k j
theorem QFo.rf {M : Mem} : QFo M M := ⟨fun _ _ _ _ _ _ => rfl, fun _ _ _ => rfl⟩
theorem QFo.trans {M M' M'' : Mem} (h : QFo M M') (h2 : QFo M' M'') : QFo M M'' := ⟨fun k j a b c e => (h2.1 k j a b c e).trans (h.1 k j a b c e), fun k j a => (h2.2 k j a).trans (h.2 k j a)⟩
theorem QTm.f {M M' : Mem} (h : QTm M M') : QFo M M' := ⟨fun k j _ _ _ f => h.1 k j (fun q => f ⟨q.1, by rcases q.2 with rfl | rfl | rfl | rfl | rfl | rfl <;> rfl⟩), fun k j a => h.2 k j a⟩
theorem qf_w {M : Mem} {j : Nat} {x : Int32} (h : fj j = true) : QFo M (wi M 58 j x) := ⟨fun k i _ _ _ f => by rw [ri_wi, if_neg (fun q => f ⟨q.1, by rw [q.2]; exact h⟩)], fun _ _ _ => rfl⟩
theorem qf_c {M : Mem} {k j : Nat} {x : Int32} (h : k = 61 ∨ k = 62 ∨ k = 65) : QFo M (wi M k j x) := ⟨fun a b _ _ _ _ => by rw [ri_wi, if_neg (by omega)], fun _ _ _ => rfl⟩
theorem TZ.qf {M M' : Mem} {L : Nat} {T : Nat → Nat} (h : TZ M L T) (q : QFo M M') : TZ M' L T := ⟨by rw [q.1 58 5 (by omega) (by omega) (by omega) (fun z => absurd z.2 (by decide))]; exact h.1, fun i hi => by rw [q.1 59 i (by omega) (by omega) (by omega) (by omega)]; exact h.2 i hi⟩
def FM (M : Mem) (s : List Nat) (u : Nat) (c : List Int32) : Prop := ri M 58 19 = nI s.length ∧ (∀ i, i < s.length → ri M 65 i = nI (s.reverse[i]?.getD 0)) ∧ ri M 58 17 = nI c.length ∧ (∀ i, i < c.length → encAt (ri M 61 i) (ri M 62 i) (c[i]?.getD 0)) ∧ ri M 58 20 = nI u ∧ ri M 58 22 = nI u ∧ ri M 58 23 = nI (dp s) ∧ (∀ x ∈ s, x = 20 ∨ okO x) ∧ s.length ≤ 101 ∧ c.length ≤ 320 ∧ u ≤ 30
theorem FM.qt {M M' : Mem} {s : List Nat} {u : Nat} {c : List Int32} (h : FM M s u c) (q : QTm M M') : FM M' s u c := by
  obtain ⟨h1, h2, h3, h4, h5, h6, h7, h8⟩ := h
  exact ⟨by rw [q.1 _ _ (by omega)]; exact h1, fun i hi => by rw [q.1 _ _ (by omega)]; exact h2 i hi, by rw [q.1 _ _ (by omega)]; exact h3, fun i hi => by rw [q.1 _ _ (by omega), q.1 _ _ (by omega)]; exact h4 i hi, by rw [q.1 _ _ (by omega)]; exact h5, by rw [q.1 _ _ (by omega)]; exact h6, by rw [q.1 _ _ (by omega)]; exact h7, h8⟩
theorem FM.top {M : Mem} {x : Nat} {s : List Nat} {u : Nat} {c : List Int32} (h : FM M (x :: s) u c) : ri M 65 s.length = nI x := by
  rw [h.2.1 s.length (by show s.length < s.length + 1; omega)]
  simp
theorem okO_lt {x : Nat} (h : x = 20 ∨ okO x) : x < 200 := by unfold okO at h; omega
theorem rev_lowN {x : Nat} {s : List Nat} {i : Nat} (h : i < s.length) : (x :: s).reverse[i]?.getD 0 = s.reverse[i]?.getD 0 := by
  rw [List.reverse_cons, List.getElem?_append_left (by rw [List.length_reverse]; exact h)]
theorem r_add {d u : Nat} {M : Mem} {K : Mem → Prop} {s : List Nat} {c : List Int32} {a b op : Int32} (h : FM M s u c) (hc : c.length < 320) (he : encAt a b op) (hK : ∀ M', QFo M M' → (∀ j, j ≠ 17 → ri M' 58 j = ri M 58 j) → (∀ k j, rl M' k j = rl M k j) → FM M' s u (c ++ [op]) → K M') : CV d μX9_add [.ref 58, .int a, .int b] M K := by
  obtain ⟨h1, h2, h3, h4, h5, h6, h7, h8, h9, h10, h11⟩ := h
  refine sg_X9_add_0 ?_
  rw [h3, show nx (nI c.length) = c.length from nI_clamp (by omega)]
  refine ⟨n_in hc (by decide), fun M1 g1 => ?_⟩
  have r1 : ∀ k j, ri M1 k j = if k = 61 ∧ j = c.length then a else ri M k j := by intro k j; rw [g1, ri_wi]
  rw [show ri M1 58 17 = nI c.length by rw [r1, if_neg (by omega)]; exact h3, show nx (nI c.length) = c.length from nI_clamp (by omega)]
  refine ⟨n_in hc (by decide), fun M2 g2 M3 g3 => ?_⟩
  have r2 : ∀ k j, ri M2 k j = if k = 62 ∧ j = c.length then b else ri M1 k j := by intro k j; rw [g2, ri_wi]
  rw [show ri M2 58 17 = nI c.length by rw [r2, if_neg (by omega), r1, if_neg (by omega)]; exact h3, nI_1] at g3
  have r3 : ∀ k j, ri M3 k j = if k = 58 ∧ j = 17 then nI (c.length + 1) else ri M2 k j := by intro k j; rw [g3, ri_wi]
  have ro : ∀ k j, k ≠ 61 → k ≠ 62 → ¬ (k = 58 ∧ j = 17) → ri M3 k j = ri M k j := fun k j a b cc => by rw [r3, if_neg cc, r2, if_neg (fun q => b q.1), r1, if_neg (fun q => a q.1)]
  have rl3 : ∀ k j, rl M3 k j = rl M k j := fun k j => by rw [g3, rl_wi, g2, rl_wi, g1, rl_wi]
  refine hK M3 ((QFo.trans (show QFo M M1 by rw [g1]; exact qf_c (by omega)) (show QFo M1 M2 by rw [g2]; exact qf_c (by omega))).trans (by rw [g3]; exact qf_w rfl)) (fun j hj => ro 58 j (by omega) (by omega) (by omega)) rl3 ⟨by rw [ro _ _ (by omega) (by omega) (by omega)]; exact h1, fun i hi => by rw [ro _ _ (by omega) (by omega) (by omega)]; exact h2 i hi, by rw [r3, if_pos ⟨rfl, rfl⟩, List.length_append]; rfl, fun i hi => ?_, by rw [ro _ _ (by omega) (by omega) (by omega)]; exact h5, by rw [ro _ _ (by omega) (by omega) (by omega)]; exact h6, by rw [ro _ _ (by omega) (by omega) (by omega)]; exact h7, h8, h9, by rw [List.length_append]; show c.length + 1 ≤ 320; omega, h11⟩
  rw [List.length_append] at hi
  have hi : i < c.length + 1 := hi
  have e61 : ri M3 61 i = if i = c.length then a else ri M 61 i := by
    rw [r3, if_neg (by omega), r2, if_neg (by omega), r1]
    by_cases z : i = c.length
    · rw [if_pos ⟨rfl, z⟩, if_pos z]
    · rw [if_neg (fun q => z q.2), if_neg z]
  have e62 : ri M3 62 i = if i = c.length then b else ri M 62 i := by
    rw [r3, if_neg (by omega), r2]
    by_cases z : i = c.length
    · rw [if_pos ⟨rfl, z⟩, if_pos z]
    · rw [if_neg (fun q => z q.2), if_neg z, r1, if_neg (by omega)]
  rw [e61, e62]
  by_cases z : i = c.length
  · rw [if_pos z, if_pos z, z]; simp; exact he
  · rw [if_neg z, if_neg z, List.getElem?_append_left (by omega)]; exact h4 i (by omega)
theorem enc_op {x : Nat} (h : okO x) (h21 : x ≠ 21) : encAt 3 (nI x) (opc x) := by
  right; left
  unfold okO at h
  rcases h with rfl | rfl | rfl | rfl | rfl | rfl | rfl | rfl | rfl | rfl | rfl
  · exact absurd rfl h21
  all_goals exact ⟨by decide, rfl, by decide⟩
theorem r_close {d u k : Nat} {K : Mem → Prop} (hk : k ≤ 10) : ∀ (s : List Nat) (c : List Int32) (M : Mem), FM M s u c → (cls k s c).2.length ≤ 320 → (∀ M', QFo M M' → (∀ j, j ≠ 17 → j ≠ 19 → j ≠ 23 → ri M' 58 j = ri M 58 j) → (∀ k j, rl M' k j = rl M k j) → FM M' (cls k s c).1 u (cls k s c).2 → K M') → CV (d + 2) μX9_close [.ref 58, .int (nI k)] M K := by
  intro s
  induction s with
  | nil =>
    intro c M h hc hK
    refine sg_X9_close_0 ?_
    rw [h.1, if_pos (by decide)]
    exact hK M QFo.rf (fun _ _ _ _ => rfl) (fun _ _ => rfl) h
  | cons x s ih =>
    intro c M h hc hK
    have hx := h.2.2.2.2.2.2.2.1 x List.mem_cons_self
    have hx2 := okO_lt hx
    have hlen : s.length + 1 ≤ 101 := h.2.2.2.2.2.2.2.2.1
    have e19 : ri M 58 19 = nI (s.length + 1) := h.1
    have ec : cls k (x :: s) c = if x = 20 ∨ tg x < k then (x :: s, c) else cls k s (c ++ [opc x]) := rfl
    refine sg_X9_close_0 ?_
    rw [e19, if_neg (by rw [show (0 : Int32) = nI 0 from rfl, nI_leI (by omega) (by omega)]; omega), nI_pred, show nx (nI s.length) = s.length from nI_clamp (by omega), h.top]
    refine ⟨n_in (by omega) (by decide), ?_⟩
    by_cases h20 : x = 20
    · rw [if_pos (by rw [h20]; rfl)]
      rw [if_pos (Or.inl h20)] at ec
      rw [ec] at hK
      exact hK M QFo.rf (fun _ _ _ _ => rfl) (fun _ _ => rfl) h
    · rw [if_neg (show ¬ nI x = 20 from fun q => h20 (nI_inj (b := 20) (by omega) (by omega) q))]
      refine ⟨n_in (by omega) (by decide), r_tight (by omega) ?_⟩
      have htg : tg x ≤ 6 := by unfold tg; repeat' split
                                all_goals omega
      by_cases htk : tg x < k
      · rw [if_pos (by rw [nI_ltI (by omega) (by omega)]; exact htk)]
        rw [if_pos (Or.inr htk)] at ec
        rw [ec] at hK
        exact hK M QFo.rf (fun _ _ _ _ => rfl) (fun _ _ => rfl) h
      · rw [if_neg (by rw [nI_ltI (by omega) (by omega)]; exact htk)]
        rw [if_neg (by rintro (q | q); exact h20 q; exact htk q)] at ec
        rw [ec] at hK hc
        have hmono : ∀ (s : List Nat) (c : List Int32), c.length ≤ (cls k s c).2.length := by
          intro s
          induction s with
          | nil => intro c; exact Nat.le_refl _
          | cons y s ihs =>
            intro c
            show _ ≤ (if y = 20 ∨ tg y < k then (y :: s, c) else cls k s (c ++ [opc y])).2.length
            split
            · exact Nat.le_refl _
            · have := ihs (c ++ [opc y]); rw [List.length_append] at this; simp at this; omega
        have hcl : c.length < 320 := by
          have := hmono s (c ++ [opc x]); rw [List.length_append] at this; simp at this; omega
        intro M3 g3
        rw [e19, nI_pred] at g3
        have r3 : ∀ k j, ri M3 k j = if k = 58 ∧ j = 19 then nI s.length else ri M k j := by intro k j; rw [g3, ri_wi]
        have q3 : QFo M M3 := by rw [g3]; exact qf_w rfl
        rw [show ri M3 58 19 = nI s.length by rw [r3, if_pos ⟨rfl, rfl⟩], show nx (nI s.length) = s.length from nI_clamp (by omega), show ri M3 65 s.length = nI x by rw [r3, if_neg (by omega)]; exact h.top]
        refine ⟨n_in (by omega) (by decide), ?_⟩
        obtain ⟨h1, h2, h3, h4, h5, h6, h7, h8, h9, h10, h11⟩ := h
        have h8' : ∀ y ∈ s, y = 20 ∨ okO y := fun y hy => h8 y (List.mem_cons_of_mem _ hy)
        have h2' : ∀ i, i < s.length → ri M 65 i = nI (s.reverse[i]?.getD 0) := fun i hi => by rw [h2 i (by show i < s.length + 1; omega), rev_lowN hi]
        by_cases h21 : x = 21
        · subst h21
          rw [if_pos (by rfl)]
          have hdp : dp (21 :: s) = dp s + 1 := by
            show List.countP (fun x => x == 20 || x == 21) (21 :: s) = _
            rw [List.countP_cons, if_pos (by decide)]; rfl
          have hcp : dp s ≤ s.length := List.countP_le_length
          -- the row grows by a not; deep is mended behind it
          refine sg_X9_add_0 ?_
          have e17 : ri M3 58 17 = nI c.length := by rw [r3, if_neg (by omega)]; exact h3
          rw [e17, show nx (nI c.length) = c.length from nI_clamp (by omega)]
          refine ⟨n_in hcl (by decide), fun M4 g4 => ?_⟩
          have r4 : ∀ k j, ri M4 k j = if k = 61 ∧ j = c.length then 2 else ri M3 k j := by intro k j; rw [g4, ri_wi]
          rw [show ri M4 58 17 = nI c.length by rw [r4, if_neg (by omega)]; exact e17, show nx (nI c.length) = c.length from nI_clamp (by omega)]
          refine ⟨n_in hcl (by decide), fun M5 g5 M6 g6 M7 g7 => ?_⟩
          have r5 : ∀ k j, ri M5 k j = if k = 62 ∧ j = c.length then 0 else ri M4 k j := by intro k j; rw [g5, ri_wi]
          rw [show ri M5 58 17 = nI c.length by rw [r5, if_neg (by omega), r4, if_neg (by omega)]; exact e17, nI_1] at g6
          have r6 : ∀ k j, ri M6 k j = if k = 58 ∧ j = 17 then nI (c.length + 1) else ri M5 k j := by intro k j; rw [g6, ri_wi]
          rw [show ri M6 58 23 = nI (dp s + 1) by rw [r6, if_neg (by omega), r5, if_neg (by omega), r4, if_neg (by omega), r3, if_neg (by omega), h7, hdp], nI_pred] at g7
          have r7 : ∀ k j, ri M7 k j = if k = 58 ∧ j = 23 then nI (dp s) else ri M6 k j := by intro k j; rw [g7, ri_wi]
          have ro : ∀ k j, k ≠ 61 → k ≠ 62 → ¬ (k = 58 ∧ (j = 17 ∨ j = 19 ∨ j = 23)) → ri M7 k j = ri M k j := fun k j a b cc => by rw [r7, if_neg (by omega), r6, if_neg (by omega), r5, if_neg (by omega), r4, if_neg (by omega), r3, if_neg (by omega)]
          have q7 : QFo M M7 := q3.trans ((((show QFo M3 M4 by rw [g4]; exact qf_c (by omega)).trans (show QFo M4 M5 by rw [g5]; exact qf_c (by omega))).trans (show QFo M5 M6 by rw [g6]; exact qf_w rfl)).trans (by rw [g7]; exact qf_w rfl))
          have l7 : ∀ k j, rl M7 k j = rl M k j := fun k j => by rw [g7, rl_wi, g6, rl_wi, g5, rl_wi, g4, rl_wi, g3, rl_wi]
          refine ih (c ++ [opc 21]) M7 ⟨?_, fun i hi => ?_, ?_, fun i hi => ?_, ?_, ?_, ?_, h8', by omega, by rw [List.length_append]; show c.length + 1 ≤ 320; omega, h11⟩ hc (fun M8 q8 e8 l8 F8 => hK M8 (q7.trans q8) (fun j a b cc => by rw [e8 j a b cc, ro _ _ (by omega) (by omega) (by omega)]) (fun k j => by rw [l8, l7]) F8)
          · rw [r7, if_neg (by omega), r6, if_neg (by omega), r5, if_neg (by omega), r4, if_neg (by omega), r3, if_pos ⟨rfl, rfl⟩]
          · rw [ro _ _ (by omega) (by omega) (by omega)]; exact h2' i hi
          · rw [r7, if_neg (by omega), r6, if_pos ⟨rfl, rfl⟩, List.length_append]; rfl
          · rw [List.length_append] at hi
            have hi : i < c.length + 1 := hi
            have e61 : ri M7 61 i = if i = c.length then 2 else ri M 61 i := by
              rw [r7, if_neg (by omega), r6, if_neg (by omega), r5, if_neg (by omega), r4]
              by_cases z : i = c.length
              · rw [if_pos ⟨rfl, z⟩, if_pos z]
              · rw [if_neg (fun q => z q.2), if_neg z, r3, if_neg (by omega)]
            have e62 : ri M7 62 i = if i = c.length then 0 else ri M 62 i := by
              rw [r7, if_neg (by omega), r6, if_neg (by omega), r5]
              by_cases z : i = c.length
              · rw [if_pos ⟨rfl, z⟩, if_pos z]
              · rw [if_neg (fun q => z q.2), if_neg z, r4, if_neg (by omega), r3, if_neg (by omega)]
            rw [e61, e62]
            by_cases z : i = c.length
            · rw [if_pos z, if_pos z, z]
              left; simp; decide
            · rw [if_neg z, if_neg z, List.getElem?_append_left (by omega)]; exact h4 i (by omega)
          · rw [ro _ _ (by omega) (by omega) (by omega)]; exact h5
          · rw [ro _ _ (by omega) (by omega) (by omega)]; exact h6
          · rw [r7, if_pos ⟨rfl, rfl⟩]
        · have hok : okO x := by rcases hx with q | q; exact absurd q h20; exact q
          rw [if_neg (show ¬ nI x = 21 from fun q => h21 (nI_inj (b := 21) (by omega) (by omega) q))]
          refine ⟨n_in (by omega) (by decide), ?_⟩
          have hdp : dp (x :: s) = dp s := by
            show List.countP (fun x => x == 20 || x == 21) (x :: s) = _
            rw [List.countP_cons, if_neg (by simp; omega)]; rfl
          have F3' : FM M3 s u c := ⟨by rw [r3, if_pos ⟨rfl, rfl⟩], fun i hi => by rw [r3, if_neg (by omega)]; exact h2' i hi, by rw [r3, if_neg (by omega)]; exact h3, fun i hi => by rw [r3, if_neg (by omega), r3, if_neg (by omega)]; exact h4 i hi, by rw [r3, if_neg (by omega)]; exact h5, by rw [r3, if_neg (by omega)]; exact h6, by rw [r3, if_neg (by omega), h7, hdp], h8', by omega, h10, h11⟩
          refine r_add F3' hcl (enc_op hok h21) (fun M4 q4 e4 l4 F4 => ?_)
          refine ih (c ++ [opc x]) M4 F4 hc (fun M8 q8 e8 l8 F8 => hK M8 ((q3.trans q4).trans q8) (fun j a b cc => by rw [e8 j a b cc, e4 j a, r3, if_neg (by omega)]) (fun k j => by rw [l8, l4, g3, rl_wi]) F8)
