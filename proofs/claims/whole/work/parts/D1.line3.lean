/-! the class: lord -/
theorem getD_app {NL : List (List Nat)} {l : List Nat} {k : Nat} (hk : k < NL.length + 1) : (NL ++ [l]).getD k [] = if k = NL.length then l else NL.getD k [] := by
  by_cases h : k = NL.length
  · rw [if_pos h, h]; simp [List.getD]
  · rw [if_neg h]
    have : k < NL.length := by omega
    simp [List.getD, List.getElem?_append_left this]
theorem x_addLord {d t v m : Nat} {M : Mem} {K : Mem → Prop} {P : Pd} {l : List Nat} (ht : t = 2 ∨ t = 15) (hD : DX M t P) (hP : PO P) (hn : (pN P).length < 8) (hv : v ≤ 999) (hm : 3 ≤ sn (pS P) → m ∈ sc (pS P)) (hm2 : m < 256) (hK : ∀ M', QR t M M' → (∀ j, ri M' 1 j = ri M 1 j) → (∀ j, rl M' 1 j = rl M 1 j) → DX M' t (pN P ++ [l], bornS (pS P) v m, pL P, pT P, pD P, pG P) → K M') : CV (d + 3) μX7_addLord [.ref t, .long (lN (v32 l)), .int (nI v), .int (nI m)] M K := by
  have hsn := hP.2.2.1
  refine sg_X7_addLord_0 (tell_kd ht).1 ?_
  rw [hD.2.1.1.1, hsn, if_neg (by rw [show (8 : Int32) = nI 8 from rfl, nI_leI (by omega) (by omega)]; omega), show nx (nI (pN P).length) = (pN P).length from nI_clamp (by omega)]
  refine ⟨n_in hn (by decide), fun M1 g1 => ?_⟩
  have r1 : ∀ k j, ri M1 k j = ri M k j := by intro k j; rw [g1, ri_wl]
  refine c_bear (tell_kd ht).2.2 (hD.2.1.keepK (fun k hk j => r1 _ _)) hP.1 hP.2.1 (by omega) hv hm hm2 (fun M2 s2 F2 => ?_)
  have es : ∀ k j, k < t + 1 ∨ t + 6 < k → ri M2 k j = ri M k j := fun k j hk => by rw [s2.1 k (by omega) j, r1]
  have el : ∀ k j, rl M2 k j = if k = t + 11 ∧ j = (pN P).length then lN (v32 l) else rl M k j := fun k j => by rw [s2.2, g1, rl_wl]
  obtain ⟨d1, d2, d3, d4, d5, d6, d7, d8, d9, d10⟩ := hD
  refine hK M2 ⟨fun k j _ hk => es k j (by omega), fun k j _ hk => by rw [el, if_neg (fun q => hk q.1)]⟩ (fun j => es 1 j (by omega)) (fun j => by rw [el, if_neg (by omega)]) ⟨fun k hk => ?_, F2, ?_, ?_, ?_, ?_, ?_, ?_, ?_, fun i hi => ?_⟩
  · have hk : k < (pN P).length + 1 := by have : k < (pN P ++ [l]).length := hk; rw [List.length_append] at this; exact this
    show rl M2 (t + 11) k = lN (v32 ((pN P ++ [l]).getD k []))
    rw [el, getD_app hk]
    by_cases hkn : k = (pN P).length
    · rw [if_pos ⟨rfl, hkn⟩, if_pos hkn]
    · rw [if_neg (fun q => hkn q.2), if_neg hkn]; exact d1 k (by omega)
  · rw [es _ _ (by omega)]; exact d3
  · rw [es _ _ (by omega)]; exact d4
  · rw [es _ _ (by omega)]; exact d5
  · rw [es _ _ (by omega)]; exact d6
  · rw [es _ _ (by omega)]; exact d7
  · rw [es _ _ (by omega)]; exact d8
  · rw [es _ _ (by omega)]; exact d9
  · rw [es _ _ (by omega)]; exact d10 i hi
/-- what holds when a lord's line ends well -/
theorem lo_in {T : Nat → Nat} {L : Nat} {P : Pd} {σ : Rdg} {b : Nat} (h : tsS T L 59 (l5 T L P σ) = .inl b) : isN T L (nxt T L σ) = true ∧ fnd (pN P) (sW T L (nxt T L σ)) = none ∧ (3 ≤ (pN P).length → (∃ c, crS T L (pN P) (pS P) (l4 T L P σ) = .inl c) ∧ lm0 T L P σ ∈ sc (pS P)) := by
  obtain ⟨a5, h5⟩ := tsS_in h
  have h4 : ∃ a, l4 T L P σ = .inl a := by
    unfold l5 at h5
    split at h5
    · exact ⟨a5, h5⟩
    · exact (crS_in h5).2
  obtain ⟨a4, h4⟩ := h4
  obtain ⟨⟨a3, h3⟩, -⟩ := tnS_in h4
  obtain ⟨⟨a2, h2⟩, -⟩ := twS_in h3
  obtain ⟨n1, n2⟩ := nmS_in h2
  refine ⟨n1, n2, fun h3 => ?_⟩
  unfold l5 at h5
  rw [if_neg (by omega)] at h5
  refine ⟨⟨a5, h5⟩, ?_⟩
  unfold lm0
  rw [if_neg (by omega)]
  exact (crS_in h5).1
theorem x_readLord {d L t a : Nat} {T : Nat → Nat} {M : Mem} {K : Mem → Prop} {P : Pd} (ht : t = 2 ∨ t = 15) (h3 : nx (ri M 1 3) = t) (hT : TX M L T) (hO : TOk L T) (h : CS M L T (.inl a)) (hD : DX M t P) (hP : PO P) (hK : ∀ M', QR t M M' → CS M' L T (loS T L P (.inl a)) → ((∃ b, loS T L P (.inl a) = .inl b) → DX M' t (loP T L P (.inl a))) → K M') : CV (d + 10) μX6_readLord [.ref 1] M K := by
  have hk := (tell_kd ht).1
  have hsn := hP.2.2.1
  have h8 := hP.1.1.1
  refine sg_X6_readLord_0 ⟨t, h3, hk, ?_⟩
  rw [hD.2.1.1.1, hsn]
  unfold loS at hK
  by_cases hl : (pN P).length < 8
  · rw [if_pos hl] at hK
    rw [if_pos (by rw [show (8 : Int32) = nI 8 from rfl, nI_ltI (by omega) (by omega)]; exact hl)]
    refine x_adv (d := d + 2) hT hO h (fun M2 q2 c2 => ?_)
    have i2 := q2.into h3
    have hk1 := c2.k1
    have at71 : ∀ (Mx : Mem) (σx : Rdg), QA M2 Mx → CS Mx L T σx → nxt T L σx = nmS T L (pN P) (nxt T L (.inl a)) → RV (d + 10) μX6_readLord 71 [(0, .ref 1), (1, .long (rl M2 1 11))] [] Mx K := by
      intro Mx σx qx cx hx
      refine sg_X6_readLord_71 ?_
      refine x_adv (d := d + 2) (hT.qa (q2.trans qx)) hO cx (fun M3 q3 c3 => ?_)
      rw [hx] at c3
      have qa3 := (q2.trans qx).trans q3
      refine x_takeWord (d := d + 1) (w := 5) (by omega) (hT.qa qa3) hO c3 (fun M4 q4 c4 => ?_)
      have qa4 := qa3.trans q4
      refine x_takeNum (d := d + 1) (most := 999) (by omega) (hT.qa qa4) hO (show CS M4 L T (l3 T L P (.inl a)) from c4) (fun M5 q5 c5 => ?_)
      have qa5 := qa4.trans q5
      have D5 := hD.qa ht qa5
      have c5 : CS M5 L T (l4 T L P (.inl a)) := c5
      refine ⟨t, qa5.into h3, hk, ?_⟩
      rw [D5.2.1.1.1, hsn]
      have at110 : ∀ (y : Int32) (My : Mem), QA M My → CS My L T (l5 T L P (.inl a)) → ((∃ b, tsS T L 59 (l5 T L P (.inl a)) = .inl b) → y = nI (lm0 T L P (.inl a)) ∧ lm0 T L P (.inl a) < 256) → RV (d + 10) μX6_readLord 110 [(0, .ref 1), (1, .long (rl M2 1 11)), (3, .int (nI (tnV T L 999 (l3 T L P (.inl a)))))] [.int y] My K := by
        intro y My qy cy hy
        refine sg_X6_readLord_110 ?_
        refine x_takeSign (d := d + 1) (c := 59) (by omega) (hT.qa qy) hO cy (fun M7 q7 c7 => ?_)
        have qa7 := qy.trans q7
        cases hs : tsS T L 59 (l5 T L P (.inl a)) with
        | inr x =>
          rw [hs] at c7 hK
          rw [if_neg (CS.f1 c7)]
          exact hK M7 qa7.r c7 (fun ⟨b, z⟩ => by cases z)
        | inl b =>
          rw [hs] at c7 hK
          rw [if_pos (CS.f0 c7)]
          obtain ⟨n1, n2, n3⟩ := lo_in hs
          obtain ⟨y1, y2⟩ := hy ⟨b, hs⟩
          refine ⟨t, qa7.into h3, hk, ?_⟩
          rw [y1, (hk1.2.2.1 (isN_wo n1).1).1]
          refine RV.deeper (d := d + 9) (Nat.le_refl _) (x_addLord (d := d + 6) ht (hD.qa ht qa7) hP hl (tnV_le T L 999 _) (fun z => (n3 (by omega)).2) y2 (fun M8 q8 e8 el8 D8 => ?_))
          exact hK M8 (qa7.r.trans q8) (c7.keep e8 el8) (fun _ => D8)
      by_cases h3' : (pN P).length < 3
      · rw [if_neg (by rw [show (3 : Int32) = nI 3 from rfl, nI_leI (by omega) (by omega)]; omega)]
        have e5 : l5 T L P (.inl a) = l4 T L P (.inl a) := by unfold l5; rw [if_pos h3']
        refine at110 0 M5 qa5 (by rw [e5]; exact c5) (fun _ => ?_)
        unfold lm0; rw [if_pos h3']; exact ⟨rfl, by omega⟩
      · rw [if_pos (by rw [show (3 : Int32) = nI 3 from rfl, nI_leI (by omega) (by omega)]; omega)]
        have e5 : l5 T L P (.inl a) = crS T L (pN P) (pS P) (l4 T L P (.inl a)) := by unfold l5; rw [if_neg h3']
        refine x_readCorner (P := P) ht (qa5.into h3) (hT.qa qa5) hO c5 (D5.nx hP) D5.2.1 (fun r M6 q6 c6 hr => ?_)
        refine at110 r M6 (qa5.trans q6) (by rw [e5]; exact c6) (fun ⟨b, hb⟩ => ?_)
        have := hr ((lo_in hb).2.2 (by omega)).1
        unfold lm0; rw [if_neg h3']; exact this
    by_cases h1 : isK T L 1 (nxt T L (.inl a)) = true
    · obtain ⟨e11, e10, hw⟩ := hk1.2.2.1 h1
      rw [if_pos (hk1.1.mpr h1), e10]
      by_cases ho : owF (sW T L (nxt T L (.inl a))) 14 = -1
      · rw [if_pos ho]
        have hn : isN T L (nxt T L (.inl a)) = true := by unfold isN; rw [h1, decide_eq_true ho]; rfl
        have N2 : NX M2 t (pN P) := (hD.qa ht q2).nx hP
        refine ⟨t, i2, hk, ?_⟩
        rw [e11]
        refine x_lordNamed hk N2 hw ?_
        rw [← e11]
        have hm := oI_m1 (o := fnd (pN P) (sW T L (nxt T L (.inl a)))) (fun i hi => by have := (fnd_some hi).1; omega)
        by_cases hf : fnd (pN P) (sW T L (nxt T L (.inl a))) = none
        · rw [if_pos (hm.mpr hf)]
          exact at71 M2 _ QA.rf c2 (by unfold nmS; rw [if_pos hn, if_pos hf])
        · rw [if_neg (fun q => hf (hm.mp q))]
          exact x_blm (f := 3) (by omega) c2 (fun Mx qx cx => at71 Mx _ qx cx (by unfold nmS; rw [if_pos hn, if_neg hf]; rfl))
      · rw [if_neg ho]
        have hn : ¬ isN T L (nxt T L (.inl a)) = true := by unfold isN; rw [h1, decide_eq_false ho]; decide
        exact x_blm (f := 2) (by omega) c2 (fun Mx qx cx => at71 Mx _ qx cx (by unfold nmS; rw [if_neg hn]; rfl))
    · rw [if_neg (fun q => h1 (hk1.1.mp q))]
      have hn : ¬ isN T L (nxt T L (.inl a)) = true := by unfold isN; rw [Bool.eq_false_iff.mpr h1, Bool.false_and]; decide
      exact x_blm (f := 2) (by omega) c2 (fun Mx qx cx => at71 Mx _ qx cx (by unfold nmS; rw [if_neg hn]; rfl))
  · rw [if_neg hl] at hK
    rw [if_neg (by rw [show (8 : Int32) = nI 8 from rfl, nI_ltI (by omega) (by omega)]; exact hl)]
    exact x_blm (f := 2) (by omega) h (fun M' q c => hK M' q.r c (fun ⟨b, z⟩ => by cases z))
