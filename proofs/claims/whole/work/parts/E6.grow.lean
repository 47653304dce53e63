/-! grows, both sides; what lines keep -/
def grP (P : Pd) (c : List Int32) (u : Nat) : Pd := (pN P, pS P, pL P, pT P, pD P, some (c, u))
theorem x_readGrows {d L t a : Nat} {T : Nat → Nat} {M : Mem} {K : Mem → Prop} {P : Pd} (ht : t = 2 ∨ t = 15) (h3 : nx (ri M 1 3) = t) (hT : TX M L T) (hO : TOk L T) (h : CS M L T (.inl a)) (hD : DX M t P) (hF : (pG P).isSome = true → ∀ M', QR t M M' → CS M' L T (blm T L 2 (.inl a)) → K M') (hK : (pG P).isSome = false → ∀ σ1 u1 c1 M', QR t M M' → CS M' L T (tsS T L 59 σ1) → Sim T L 0 0 (nxt T L (.inl a)) 0 [] σ1 u1 c1 → ((∃ b, σ1 = .inl b) → Mo (nxt T L (.inl a)) σ1 ∧ Rt T L 0 σ1 ∧ u1 ≤ 30 ∧ c1.length ≤ 270 ∧ c1 ≠ [] ∧ Ex c1 u1 ∧ ∀ x ∈ c1, -16 ≤ x.toInt) → ((∃ b, tsS T L 59 σ1 = .inl b) → DX M' t (grP P c1 u1)) → K M') : CV (d + 110) μX6_readGrows [.ref 1] M K := by
  have hk := (tell_kd ht).1
  refine sg_X6_readGrows_0 ⟨t, h3, hk, ?_⟩
  rw [hD.2.2.2.2.2.2.1]
  cases hg : (pG P).isSome with
  | true =>
    rw [if_neg (by decide)]
    exact x_blm (f := 2) (by omega) h (fun M' q c => hF hg M' q.r c)
  | false =>
    rw [if_pos (by decide)]
    refine ⟨t, h3, hk, fun M1 g1 => ?_⟩
    have hnone : pG P = none := by cases hq : pG P with
      | none => rfl
      | some z => rw [hq] at hg; cases hg
    have r1 : ∀ k j, ri M1 k j = if k = t ∧ j = 5 then 1 else ri M k j := by intro k j; rw [g1, ri_wi]
    have q1 : QR t M M1 := by rw [g1]; exact qr_w (by omega) (by omega) (by omega)
    have c1 : CS M1 L T (.inl a) := by rw [g1]; exact h.wi (by omega)
    refine x_adv (d := d + 102) (hT.qr ht q1) hO c1 (fun M2 q2 c2 => ?_)
    have i2 := q2.into (q1.into ht h3)
    have t2 := (hT.qr ht q1).qa q2
    obtain ⟨d1, d2, d3, d4, d5, d6, d7, d8, d9, d10⟩ := hD
    rw [hnone] at d8 d9
    have G2 : GC M2 t 0 [] := ⟨by rw [q2.1 _ _ (by omega), r1, if_neg (by omega)]; exact d8, by rw [q2.1 _ _ (by omega), r1, if_neg (by omega)]; exact d9, fun i hi => absurd hi (Nat.not_lt_zero _)⟩
    refine RV.deeper (d := d + 2 * 47 + 12) (by omega) (x_part ht hO 47 0 0 (by omega) (by omega) (by omega) (nxt T L (.inl a)) 0 [] M2 _ i2 t2 c2 G2 (by omega) (by simp) (fun σ1 u1 cc M3 q3 c3 S3 g3 f3 => ?_))
    refine x_takeSign (d := d + 101) (c := 59) (by omega) (t2.qg ht q3) hO c3 (fun M4 q4 c4 => ?_)
    refine hK hg σ1 u1 cc M4 (((q1.trans q2.r).trans (q3.r ht)).trans q4.r) c4 S3 (fun hb => ?_) (fun hb => ?_)
    · obtain ⟨mo, e1, e2, e3, e4, e5, e, e6, e7, e8⟩ := g3 hb
      rw [List.nil_append] at e6
      subst e6
      refine ⟨mo, e5, e3, ?_, ?_, e7, e8⟩
      · have : ([] : List Int32).length = 0 := rfl
        omega
      · intro z
        obtain ⟨-, v, hv⟩ := e7 (fun _ => 0) [] (by show 0 + (u1 - 0) ≤ 31; omega)
        rw [z] at hv; cases hv
    · obtain ⟨b0, hb0⟩ := hb
      obtain ⟨b, hb⟩ := tsS_in hb0
      obtain ⟨mo, e1, -⟩ := g3 ⟨b, hb⟩
      have e : ∀ k j, t ≤ k → k ≤ t + 11 → ¬ (k = t + 7 ∧ (j = 3 ∨ j = 4)) → k ≠ t + 8 → ri M4 k j = if k = t ∧ j = 5 then 1 else ri M k j := fun k j k1 k2 k3 k4 => by
        rw [q4.1 k j (by omega), q3.1 k j (by omega) k3 k4, q2.1 k j (by omega), r1]
      refine ⟨fun k hk => by rw [q4.2 _ _ (by omega), q3.2 _ _ (by omega), q2.2 _ _ (by omega), g1, rl_wi]; exact d1 k hk, d2.keepK (fun k hk j => by rw [e _ _ (by omega) (by omega) (by omega) (by omega), if_neg (by omega)]), ?_, ?_, ?_, ?_, ?_, ?_, ?_, fun i hi => ?_⟩
      · rw [e _ _ (by omega) (by omega) (by omega) (by omega), if_neg (by omega)]; exact d3
      · rw [e _ _ (by omega) (by omega) (by omega) (by omega), if_neg (by omega)]; exact d4
      · rw [e _ _ (by omega) (by omega) (by omega) (by omega), if_neg (by omega)]; exact d5
      · rw [e _ _ (by omega) (by omega) (by omega) (by omega), if_neg (by omega)]; exact d6
      · rw [e _ _ (by omega) (by omega) (by omega) (by omega), if_pos ⟨rfl, rfl⟩]; rfl
      · rw [q4.1 _ _ (by omega)]; exact e1.1
      · rw [q4.1 _ _ (by omega)]; exact e1.2.1
      · rw [q4.1 _ _ (by omega)]; exact e1.2.2 i hi
theorem QFo.m {M M' : Mem} (h : QFo M M') : QM M M' := ⟨fun k j a b c _ f => h.1 k j a b c (fun q => f ⟨q.1, by
    have q2 := q.2
    unfold fj at q2
    have q2 := List.contains_iff_mem.mp q2
    simp only [List.mem_cons, List.not_mem_nil, or_false] at q2
    rcases q2 with z | z | z | z | z | z | z | z | z | z | z <;> rw [z] <;> rfl⟩), fun k j a _ => h.2 k j a⟩
theorem r_lineGrows {d L a : Nat} {T : Nat → Nat} {M : Mem} {K : Mem → Prop} {P : Pd} {σ1 : Rdg} {u1 : Nat} {c1 : List Int32} (hT : TZ M L T) (hO : TOk L T) (h : RN M L T (.inl a)) (hD : DM M P) (hP : PO P) (ho : isO T L 2 (.inl a) = true) (hs : (pG P).isSome = false) (hSim : Sim T L 0 0 (nxt T L (.inl a)) 0 [] σ1 u1 c1) (hRt : (∃ b, σ1 = .inl b) → Rt T L 0 σ1 ∧ c1.length ≤ 270) (hK : ∀ M', QM M M' → RS M' L T (tsS T L 59 σ1) → ((∃ b, tsS T L 59 σ1 = .inl b) → DM M' (grP P c1 u1)) → K M') : CV (d + 6) μX9_readLine [.ref 58] M K := by
  refine rl_26 h hD (Or.inl (isO_ne (by omega) (by omega) (by omega) ho)) (rl_52 h hD hP.2.2.2.2.2.1 (Or.inl (isO_ne (by omega) (by omega) (by omega) ho)) ?_)
  refine sg_X9_readLine_52 (r_isWord (w := 2) (by omega) ow_grows h ?_)
  rw [ho, if_neg (by decide), hD.2.2.2.2.2.2.2.1, hs, if_pos (by decide)]
  have hnone : pG P = none := by cases hq : pG P with
    | none => rfl
    | some z => rw [hq] at hs; cases hs
  refine sg_X9_formula_0 ?_
  refine r_tok hT hO h (fun M1 q1 n1 => ?_)
  intro M2 g2 M3 g3 M4 g4 M5 g5 M6 g6
  have r6 : ∀ k j, ¬ (k = 58 ∧ (j = 24 ∨ j = 17 ∨ j = 19 ∨ j = 23 ∨ j = 22)) → ri M6 k j = ri M1 k j := fun k j hn => by
    rw [g6, ri_wi, if_neg (by omega), g5, ri_wi, if_neg (by omega), g4, ri_wi, if_neg (by omega), g3, ri_wi, if_neg (by omega), g2, ri_wi, if_neg (by omega)]
  have l6 : ∀ k j, rl M6 k j = rl M1 k j := fun k j => by rw [g6, rl_wi, g5, rl_wi, g4, rl_wi, g3, rl_wi, g2, rl_wi]
  have v24 : ri M6 58 24 = 1 := by rw [g6, ri_wi, if_neg (by omega), g5, ri_wi, if_neg (by omega), g4, ri_wi, if_neg (by omega), g3, ri_wi, if_neg (by omega), g2, ri_wi, if_pos ⟨rfl, rfl⟩]
  have v17 : ri M6 58 17 = 0 := by rw [g6, ri_wi, if_neg (by omega), g5, ri_wi, if_neg (by omega), g4, ri_wi, if_neg (by omega), g3, ri_wi, if_pos ⟨rfl, rfl⟩]
  have v19 : ri M6 58 19 = 0 := by rw [g6, ri_wi, if_neg (by omega), g5, ri_wi, if_neg (by omega), g4, ri_wi, if_pos ⟨rfl, rfl⟩]
  have v23 : ri M6 58 23 = 0 := by rw [g6, ri_wi, if_neg (by omega), g5, ri_wi, if_pos ⟨rfl, rfl⟩]
  have v22 : ri M6 58 22 = 0 := by rw [g6, ri_wi, if_pos ⟨rfl, rfl⟩]
  have D1 := hD.qt q1
  have v20 : ri M6 58 20 = 0 := by rw [r6 _ _ (by omega), D1.2.2.2.2.2.2.2.2.1, hnone]; rfl
  have q6 : QM M M6 := q1.m.trans (((((show QM M1 M2 by rw [g2]; exact qm_w rfl).trans (show QM M2 M3 by rw [g3]; exact qm_w rfl)).trans (show QM M3 M4 by rw [g4]; exact qm_w rfl)).trans (show QM M4 M5 by rw [g5]; exact qm_w rfl)).trans (by rw [g6]; exact qm_w rfl))
  have n6 : RN M6 L T (nxt T L (.inl a)) := n1.keep (fun j hj => r6 _ _ (by omega)) (l6 _ _)
  have F6 : FM M6 [] 0 [] := ⟨v19, fun i hi => absurd hi (Nat.not_lt_zero _), v17, fun i hi => absurd hi (Nat.not_lt_zero _), v20, v22, v23, fun x hx => (by cases hx), by decide, by decide, by omega⟩
  have t6 := hT.qm q6
  have hC := Cl_R (d := d) (M0 := M6) (K := fun M' => RV (d + 6) μX9_readLine 158 [(0, .ref 58)] [] M' K) t6 hO
  have hs0 : cmp 0 0 [] := ⟨Nat.le_refl _, rfl, Nat.le_refl _, fun x hx => (by cases hx)⟩
  have S := hSim _ _ _ _ hC [] hs0 (fun z => by omega)
  refine sg_X9_unit_0 ?_
  have goal : UR d T L M6 (fun M' => RV (d + 6) μX9_readLine 158 [(0, .ref 58)] [] M' K) [] (nxt T L (.inl a)) 0 [] := by
    cases hs1 : σ1 with
    | inr x =>
      rw [hs1] at hK
      refine S.1 x hs1 (fun M7 q7 c7 => ?_)
      exact r_158 (t6.qf q7) hO c7 (fun M8 q8 c8 => hK M8 ((q6.trans q7.m).trans q8.m) c8 (fun ⟨b, z⟩ => by cases z))
    | inl b =>
      obtain ⟨hrt, hcl⟩ := hRt ⟨b, hs1⟩
      refine S.2 ⟨b, hs1⟩ (fun l c0 hN hr => ?_)
      obtain ⟨p, p1, p2, p3, p4⟩ := hN
      have h20 : ¬ 20 ∈ l := fun z => by
        rw [p1, List.append_nil] at z
        exact (p2 20 z).1 rfl
      have e0 : cls 0 l c0 = ([], c1) := by rw [p1, cls_pend (Or.inl rfl) p c0 (fun x hx => ⟨(p2 x hx).1, Nat.zero_le _⟩), p3]
      refine hC.2.2.2.2.2.2.2.1 l σ1 u1 c0 (Or.inr h20) ?_ h20 p4 (by rw [e0]; show c1.length ≤ 320; omega) ?_
      · by_cases h0 : sgn T L σ1 = 0
        · exact Or.inl h0
        · right
          have hrt := hrt h0
          have hge := tg_ge (sgn T L σ1)
          have e1 : tl 0 = 1 := rfl
          have h4 : tg (sgn T L σ1) = 4 := by omega
          exact ⟨h4, hr (by omega) h0 h4⟩
      · rw [e0]
        intro M7 q7 n7 F7
        refine r_158 (t6.qf q7) hO (Or.inl n7) (fun M8 q8 c8 => hK M8 ((q6.trans q7.m).trans q8.m) c8 (fun _ => ?_))
        refine DM.qt ?_ q8
        obtain ⟨d1, d2, d3, d4, d5, d6, d7, d8, d9, d10⟩ := D1
        have e : ∀ k j, k ≠ 61 → k ≠ 62 → k ≠ 65 → ¬ (k = 58 ∧ (j = 2 ∨ j = 3 ∨ j = 4 ∨ j = 6 ∨ j = 7 ∨ j = 8 ∨ j = 17 ∨ j = 19 ∨ j = 20 ∨ j = 22 ∨ j = 23 ∨ j = 24)) → ri M7 k j = ri M1 k j := fun k j a b c f => by
          rw [q7.1 k j a b c (fun z => ?_), r6 k j (by omega)]
          have z2 := z.2
          unfold fj at z2
          have z2 := List.contains_iff_mem.mp z2
          simp only [List.mem_cons, List.not_mem_nil, or_false] at z2
          omega
        refine ⟨⟨by rw [e _ _ (by omega) (by omega) (by omega) (by omega)]; exact d1.1, d1.2.1, fun k hk => by rw [q7.2 _ _ (by omega), l6]; exact d1.2.2.1 k hk, d1.2.2.2⟩, d2.keepA (fun j => e _ _ (by omega) (by omega) (by omega) (by omega)), ?_, ?_, ?_, ?_, ?_, ?_, ?_, fun q => ⟨?_, fun i hi => ?_⟩⟩
        · rw [e _ _ (by omega) (by omega) (by omega) (by omega)]; exact d3
        · rw [e _ _ (by omega) (by omega) (by omega) (by omega)]; exact d4
        · rw [e _ _ (by omega) (by omega) (by omega) (by omega)]; exact d5
        · rw [e _ _ (by omega) (by omega) (by omega) (by omega)]; exact d6
        · rw [e _ _ (by omega) (by omega) (by omega) (by omega)]; exact d7
        · rw [q7.1 58 24 (by omega) (by omega) (by omega) (fun z => absurd z.2 (by decide))]; exact v24
        · exact F7.2.2.2.2.1
        · exact F7.2.2.1
        · exact F7.2.2.2.1 i hi
  exact goal M6 QFo.rf n6 F6
/-! readings go on -/
section Mos
variable {T : Nat → Nat} {L : Nat}
theorem Mo_r {σ : Rdg} {x : Nat × Nat} : Mo σ (.inr x) := fun b hb => by cases hb
theorem Mo_tw {w : Nat} {σ : Rdg} : Mo σ (twS T L w σ) := by unfold twS; split; exact Mo_nxt T L σ; exact Mo_r
theorem Mo_ts {c : Nat} {σ : Rdg} : Mo σ (tsS T L c σ) := by unfold tsS; split; exact Mo_nxt T L σ; exact Mo_r
theorem Mo_tn {m : Nat} {σ : Rdg} : Mo σ (tnS T L m σ) := by
  unfold tnS; split
  · split
    · exact Mo_nxt T L σ
    · exact Mo_r
  · exact Mo_r
theorem Mo_lh {NL : List (List Nat)} {σ : Rdg} : Mo σ (lhS T L NL σ) := by
  unfold lhS; split
  · split
    · exact Mo_r
    · exact Mo.rf
  · exact Mo_r
theorem Mo_nm {NL : List (List Nat)} {σ : Rdg} : Mo σ (nmS T L NL σ) := by
  unfold nmS; split
  · split
    · exact Mo_nxt T L σ
    · exact Mo_r
  · exact Mo_r
theorem Mo_st {P : Pd} {σ : Rdg} : Mo (nxt T L σ) (stS T L P σ) := by
  unfold stS; split
  · exact Mo_r
  · exact Mo_tn.trans Mo_ts
theorem Mo_dr {P : Pd} {σ : Rdg} : Mo (nxt T L σ) (drS T L P σ) := by
  unfold drS; split
  · exact Mo_r
  · exact Mo_tn.trans Mo_ts
theorem Mo_fl {P : Pd} {σ : Rdg} : Mo (nxt T L σ) (flS T L P σ) := by
  have h2 : Mo (nxt T L σ) (f2 T L P σ) := ((Mo_lh (T := T) (L := L) (NL := pN P)).trans (Mo_nxt T L _)).trans Mo_lh
  unfold flS; split
  · refine Mo.trans (σ' := f3 T L P σ) ?_ Mo_ts
    unfold f3; split
    · split
      · exact Mo_r
      · exact h2.trans (Mo_nxt T L _)
    · exact h2
  · exact Mo_r
theorem Mo_lo {P : Pd} {σ : Rdg} : Mo (nxt T L σ) (loS T L P σ) := by
  have h4 : Mo (nxt T L σ) (l4 T L P σ) := ((Mo_nm (T := T) (L := L) (NL := pN P)).trans Mo_tw).trans Mo_tn
  unfold loS; split
  · refine Mo.trans (σ' := l5 T L P σ) ?_ Mo_ts
    unfold l5; split
    · exact h4
    · refine h4.trans ?_
      have h3 : Mo (l4 T L P σ) (k3 T L (pN P) (l4 T L P σ)) := ((((Mo_tw (T := T) (L := L) (w := 6)).trans Mo_lh).trans (Mo_nxt T L _)).trans Mo_lh).trans ((Mo_nxt T L _).trans Mo_lh)
      unfold crS; split
      · split
        · exact h3.trans (Mo_nxt T L _)
        · exact Mo_r
      · exact h3
  · exact Mo_r
/-- a line takes a byte at least -/
theorem Mo_lt {a b : Nat} {σ' : Rdg} (h0 : tK T L a ≠ 0) (h : Mo (nxt T L (.inl a)) σ') (hb : σ' = .inl b) : a < b := by
  obtain ⟨c, hc, hl⟩ := h b hb
  have hc : tA T L (tE T L a) = .inl c := hc
  unfold tA at hc
  split at hc
  · cases hc
  · cases hc
    have := tE_gt h0
    omega
end Mos
/-! what is told stays good -/
section POs
variable {T : Nat → Nat} {L : Nat} {P : Pd}
theorem PO_st {σ : Rdg} (h : PO P) : PO (stP T L P σ) := by
  obtain ⟨h1, h2, h3, h4, h5, h6, h7, h8, h9, h10, h11⟩ := h
  exact ⟨h1, h2, h3, h4, h5, h6, fun v hv => by have hv : some (tnV T L 100 (nxt T L σ)) = some v := hv; cases hv; exact tnV_le T L 100 _, h8, h9, h10, h11⟩
theorem PO_dr {σ : Rdg} (h : PO P) : PO (drP T L P σ) := by
  obtain ⟨h1, h2, h3, h4, h5, h6, h7, h8, h9, h10, h11⟩ := h
  have hv := tnV_le T L 999 (nxt T L σ)
  exact ⟨GS_Clo.2.2.2.2.2.1 (pS P) _ h1 (by omega), h2, h3, h4, h5, h6, h7, fun v hv2 => by have hv2 : some (tnV T L 999 (nxt T L σ)) = some v := hv2; cases hv2; exact hv, rfl, h10, h11⟩
theorem PO_fl {σ : Rdg} (h : PO P) (hl : pL P < 12) (hne : fe (pS P) ((fa T L P σ).getD 0) ((fb T L P σ).getD 0) ≠ 0) (ha : (fa T L P σ).getD 0 < sn (pS P)) (hb : (fb T L P σ).getD 0 < sn (pS P)) : PO (flP T L P σ) := by
  obtain ⟨h1, h2, h3, h4, h5, h6, h7, h8, h9, h10, h11⟩ := h
  exact ⟨GS_flip h1 ha hb hne, h2, h3, h4, h5, by show pL P + 1 ≤ 12; omega, h7, h8, h9, h10, h11⟩
theorem PO_lo {σ : Rdg} {b : Nat} (h : PO P) (hs : loS T L P σ = .inl b) : PO (loP T L P σ) := by
  obtain ⟨h1, h2, h3, h4, h5, h6, h7, h8, h9, h10, h11⟩ := h
  have hl : (pN P).length < 8 := by
    unfold loS at hs
    split at hs
    · assumption
    · cases hs
  unfold loS at hs
  rw [if_pos hl] at hs
  obtain ⟨n1, n2, n3⟩ := lo_in hs
  have hg := GS_born (v := lv0 T L P σ) (m := lm0 T L P σ) h1 h2 (by omega) (tnV_le T L 999 _) (fun z => (n3 (by omega)).2)
  refine ⟨hg.1, hg.2, ?_, ?_, ?_, h6, h7, h8, h9, h10, h11⟩
  · show sn (pS P) + 1 = (pN P ++ [sW T L (nxt T L σ)]).length
    rw [List.length_append, h3]; rfl
  · have hn := fnd_none n2
    intro i j hi hj e
    have hi : i < (pN P).length + 1 := by have : i < (pN P ++ [sW T L (nxt T L σ)]).length := hi; rw [List.length_append] at this; exact this
    have hj : j < (pN P).length + 1 := by have : j < (pN P ++ [sW T L (nxt T L σ)]).length := hj; rw [List.length_append] at this; exact this
    have e : (pN P ++ [sW T L (nxt T L σ)]).getD i [] = (pN P ++ [sW T L (nxt T L σ)]).getD j [] := e
    rw [getD_app hi, getD_app hj] at e
    by_cases hin : i = (pN P).length
    · by_cases hjn : j = (pN P).length
      · omega
      · rw [if_pos hin, if_neg hjn] at e; exact absurd e.symm (hn j (by omega))
    · by_cases hjn : j = (pN P).length
      · rw [if_neg hin, if_pos hjn] at e; exact absurd e (hn i (by omega))
      · rw [if_neg hin, if_neg hjn] at e; exact h4 i j (by omega) (by omega) e
  · intro l hl2
    rcases List.mem_append.mp hl2 with z | z
    · exact h5 l z
    · rw [show l = sW T L (nxt T L σ) by simpa using z]; exact (isN_wo n1).2
theorem PO_gr {c : List Int32} {u : Nat} (h : PO P) (hu : u ≤ 30) (hc : c.length ≤ 270) (hn : c ≠ []) (he : Ex c u) (hx : ∀ x ∈ c, -16 ≤ x.toInt) : PO (grP P c u) := by
  obtain ⟨h1, h2, h3, h4, h5, h6, h7, h8, h9, h10, h11⟩ := h
  refine ⟨h1, h2, h3, h4, h5, h6, h7, h8, h9, h10, fun F v hv => ?_⟩
  have hv : some (c, u) = some (F, v) := hv
  cases hv
  exact ⟨Ex_wf he (by omega), hn, hc, fun x hx2 => ⟨hx x hx2, by omega⟩, hu⟩
end POs
