/-! the model's lord line, whole -/
theorem i_13 : nx 13 = 13 := nI_clamp (n := 13) (by omega)
theorem r_lineLord {d L a : Nat} {T : Nat → Nat} {M : Mem} {K : Mem → Prop} {P : Pd} (hT : TZ M L T) (hO : TOk L T) (h : RN M L T (.inl a)) (hD : DM M P) (hP : PO P) (ho : isO T L 0 (.inl a) = true) (hl : (pN P).length < 8) (hK : ∀ M', QM M M' → RS M' L T (loS T L P (.inl a)) → ((∃ b, loS T L P (.inl a) = .inl b) → DM M' (loP T L P (.inl a))) → K M') : CV (d + 6) μX9_readLine [.ref 58] M K := by
  have hsn := hP.2.2.1
  have hS := hP.1.1
  have h8 := hS.1
  have hlen := GS.len hP.1 hP.2.1 (by omega)
  refine sg_X9_readLine_0 (r_isWord (w := 0) (by omega) ow_lord h ?_)
  rw [ho, if_neg (by decide), hD.1.1, if_neg (by rw [show (8 : Int32) = nI 8 from rfl, nI_leI (by omega) (by omega)]; omega)]
  have es : loS T L P (.inl a) = tsS T L 59 (l5 T L P (.inl a)) := by unfold loS; rw [if_pos hl]
  rw [es] at hK
  have bad : ∀ (x : Nat × Nat) (Mx : Mem), QM M Mx → RF Mx x → l5 T L P (.inl a) = .inr x → RV (d + 6) μX9_readLine 158 [(0, .ref 58)] [] Mx K := by
    intro x Mx qx cx hx
    rw [hx] at hK
    exact r_158F cx (hK Mx qx (Or.inr ⟨x, rfl, cx⟩) (fun ⟨b, z⟩ => by cases z))
  refine sg_X9_readLord_0 ?_
  refine r_newName (d := d + 1) hT hO hD.1 hP.2.2.2.1 hl h (fun M1 q1 c1 => ?_)
  refine r_told (d := d + 1) (w := 5) (most := 999) (by omega) ow_size (by omega) (hT.qm q1.m) hO c1.rs (fun r M2 q2 c2 => ?_)
  have qn2 : QN (pN P).length M M2 := q1.trans q2.n
  have D2 := hD.qn qn2
  rcases c2 with ⟨c2, hk2, hr⟩ | ⟨x, hx, c2⟩
  · have c2 : RN M2 L T (l4 T L P (.inl a)) := c2
    have hr : r = nI (lv0 T L P (.inl a)) := hr
    have hv : lv0 T L P (.inl a) ≤ 999 := tnV_le T L 999 _
    -- the name stands there
    have hname : rl M2 60 (pN P).length = lN (v256 (sW T L (nxt T L (.inl a)))) := by
      rcases c1 with ⟨_, c1⟩ | ⟨x, hx, _⟩
      · rw [q2.2 60 _ (by omega)]; exact c1
      · rw [hx] at hk2; exact absurd hk2.1 (by intro z; cases z)
    rw [c2.1, if_pos rfl, D2.1.1]
    have at34 : ∀ (My : Mem) (C0 : List Nat) (m : Nat), (∀ k j, k ≠ 69 → ¬ (k = 58 ∧ (j = 2 ∨ j = 3 ∨ j = 4 ∨ j = 6 ∨ j = 7 ∨ j = 8)) → ri My k j = ri M k j) → (∀ k j, ¬ (k = 58 ∧ j = 9) → ¬ (k = 60 ∧ j = (pN P).length) → rl My k j = rl M k j) → rl My 60 (pN P).length = lN (v256 (sW T L (nxt T L (.inl a)))) → RN My L T (l5 T L P (.inl a)) → Ar My 69 (setC (setD (pS P) 0) C0) → ((pN P).length < 3 → C0 = []) → (3 ≤ (pN P).length → C0 = bornC (pS P) m) → C0.length ≤ 12 → ((∃ b, l5 T L P (.inl a) = .inl b) → m = lm0 T L P (.inl a)) → RV (d + 5) μX9_readLord 34 [(0, .ref 58), (1, .int r)] [] My (fun M3 => RV (d + 6) μX9_readLine 158 [(0, .ref 58)] [] M3 K) := by
      intro My C0 m ey ely hny cy Ay hC1 hC2 hC12 hmm
      have n31 : ri My 58 31 = nI (pN P).length := by rw [ey _ _ (by omega) (by omega)]; exact hD.1.1
      have qy : QM M My := ⟨fun k j _ _ _ a f => ey k j a (fun q => f ⟨q.1, by rcases q.2 with rfl | rfl | rfl | rfl | rfl | rfl <;> rfl⟩), fun k j a b => ely k j a (fun q => b q.1)⟩
      refine sg_X9_readLord_34 ?_
      rw [if_pos cy.le, n31, show (14 : Int32) = nI 14 from rfl, nI_add, show nx (nI (14 + (pN P).length)) = 14 + (pN P).length from nI_clamp (by omega), i_13]
      refine ⟨n_in (by omega) (by decide), fun M3 g3 M4 g4 M5 g5 => ?_⟩
      have r3 : ∀ k j, ri M3 k j = if k = 69 ∧ j = 14 + (pN P).length then r else ri My k j := by intro k j; rw [g3, ri_wi]
      rw [show ri M3 69 13 = nI (sb (pS P)) by rw [r3, if_neg (by omega)]; exact Ay.2.2.1, show ri M3 58 31 = nI (pN P).length by rw [r3, if_neg (by omega)]; exact n31, n_shl (by omega), n_or] at g4
      have r4 : ∀ k j, ri M4 k j = if k = 69 ∧ j = 13 then nI (sb (pS P) ||| 2 ^ (pN P).length) else ri M3 k j := by intro k j; rw [g4, ri_wi]
      rw [show ri M4 58 31 = nI (pN P).length by rw [r4, if_neg (by omega), r3, if_neg (by omega)]; exact n31, nI_1] at g5
      have r5 : ∀ k j, ri M5 k j = if k = 58 ∧ j = 31 then nI ((pN P).length + 1) else ri M4 k j := by intro k j; rw [g5, ri_wi]
      have o5 : ∀ k j, k ≠ 69 → ri M5 k j = if k = 58 ∧ j = 31 then nI ((pN P).length + 1) else ri My k j := fun k j hk => by
        have e4 : ri M4 k j = ri My k j := by rw [r4, if_neg (fun q => hk q.1), r3, if_neg (fun q => hk q.1)]
        rw [r5, e4]
      have l5' : ∀ k j, rl M5 k j = rl My k j := fun k j => by rw [g5, rl_wi, g4, rl_wi, g3, rl_wi]
      have q5 : QM M M5 := qy.trans ((((show QM My M3 by rw [g3]; exact qm_c (by omega)).trans (show QM M3 M4 by rw [g4]; exact qm_c (by omega)))).trans (by rw [g5]; exact qm_w rfl))
      have hsz : ∀ j, (fun j => if j = sn (pS P) then lv0 T L P (.inl a) else sz (pS P) j) j ≤ 999 := fun j => by
        show (if j = sn (pS P) then lv0 T L P (.inl a) else sz (pS P) j) ≤ 999
        split
        · exact hv
        · exact hS.2.2.2.2.2 j
      have A5 : Ar M5 69 (sn (pS P) + 1, sb (pS P) ||| 2 ^ sn (pS P), sy (pS P), 0, C0, fun j => if j = sn (pS P) then lv0 T L P (.inl a) else sz (pS P) j) := by
        have e5 : ∀ j, ri M5 69 j = if j = 13 then nI (sb (pS P) ||| 2 ^ sn (pS P)) else if j = 14 + sn (pS P) then r else ri My 69 j := fun j => by
          rw [r5, if_neg (by omega), r4, r3, hsn]
          by_cases h13 : j = 13
          · rw [if_pos ⟨rfl, h13⟩, if_pos h13]
          · rw [if_neg (fun q => h13 q.2), if_neg h13]
            by_cases h14 : j = 14 + (pN P).length
            · rw [if_pos ⟨rfl, h14⟩, if_pos h14]
            · rw [if_neg (fun q => h14 q.2), if_neg h14]
        refine ⟨fun i hi => ?_, ?_, ?_, fun j hj => ?_, ?_, ?_⟩
        · rw [e5, if_neg (by have : i < C0.length := hi; omega), if_neg (by have : i < C0.length := hi; omega)]; exact Ay.1 i hi
        · rw [e5, if_neg (by omega), if_neg (by omega)]; exact Ay.2.1
        · rw [e5, if_pos rfl]; rfl
        · show ri M5 69 (14 + j) = nI (if j = sn (pS P) then lv0 T L P (.inl a) else sz (pS P) j)
          rw [e5, if_neg (by omega)]
          by_cases hj2 : j = sn (pS P)
          · rw [if_pos (by omega), if_pos hj2]; exact hr
          · rw [if_neg (by omega), if_neg hj2]; exact Ay.2.2.2.1 j hj
        · rw [e5, if_neg (by omega), if_neg (by omega)]; exact Ay.2.2.2.2.1
        · rw [e5, if_neg (by omega), if_neg (by omega)]; exact Ay.2.2.2.2.2
      have c5 : RN M5 L T (l5 T L P (.inl a)) := cy.keep (fun j hj => by rw [o5 _ _ (by omega), if_neg (by omega)]) (l5' 58 9)
      have fin : ∀ (M6 : Mem), QM M M6 → (∀ k j, k ≠ 69 → ri M6 k j = ri M5 k j) → (∀ k j, rl M6 k j = rl M5 k j) → Ar M6 69 (setD (bornS (pS P) (lv0 T L P (.inl a)) m) 0) → RV (d + 6) μX9_readLine 158 [(0, .ref 58)] [] M6 K := by
        intro M6 q6 e6 el6 A6
        have c6 : RN M6 L T (l5 T L P (.inl a)) := c5.keep (fun j _ => e6 _ _ (by omega)) (el6 _ _)
        refine r_158 (hT.qm q6) hO (Or.inl c6) (fun M7 q7 c7 => hK M7 (q6.trans q7.m) c7 (fun ⟨b, hb⟩ => ?_))
        have hwo := (isN_wo (lo_in hb).1).2
        refine DM.qt ?_ q7
        obtain ⟨d1, d2, d3, d4, d5, d6, d7, d8, d9, d10⟩ := hD
        have ee : ∀ k j, k ≠ 69 → ¬ (k = 58 ∧ (j = 2 ∨ j = 3 ∨ j = 4 ∨ j = 6 ∨ j = 7 ∨ j = 8 ∨ j = 31)) → ri M6 k j = ri M k j := fun k j h1 h2 => by rw [e6 k j h1, o5 k j h1, if_neg (by omega), ey k j h1 (by omega)]
        have hm' := hmm (tsS_in hb)
        rw [hm'] at A6
        refine ⟨⟨?_, ?_, fun k hk => ?_, fun l hl2 => ?_⟩, A6, ?_, ?_, ?_, ?_, ?_, ?_, ?_, fun q => ⟨?_, fun i hi => ?_⟩⟩
        · show ri M6 58 31 = nI (pN P ++ [sW T L (nxt T L (.inl a))]).length
          rw [e6 _ _ (by omega), o5 _ _ (by omega), if_pos ⟨rfl, rfl⟩, List.length_append]; rfl
        · show (pN P ++ [sW T L (nxt T L (.inl a))]).length ≤ 8
          rw [List.length_append]; show (pN P).length + 1 ≤ 8; omega
        · have hk : k < (pN P).length + 1 := by have : k < (pN P ++ [sW T L (nxt T L (.inl a))]).length := hk; rw [List.length_append] at this; exact this
          show rl M6 60 k = lN (v256 ((pN P ++ [sW T L (nxt T L (.inl a))]).getD k []))
          rw [el6, l5', getD_app hk]
          by_cases hkn : k = (pN P).length
          · rw [if_pos hkn, hkn]; exact hny
          · rw [if_neg hkn, ely _ _ (by omega) (by omega)]; exact d1.2.2.1 k (by omega)
        · rcases List.mem_append.mp hl2 with z | z
          · exact d1.2.2.2 l z
          · rw [show l = sW T L (nxt T L (.inl a)) by simpa using z]; exact hwo
        · rw [ee _ _ (by omega) (by omega)]; exact d3
        · rw [ee _ _ (by omega) (by omega)]; exact d4
        · rw [ee _ _ (by omega) (by omega)]; exact d5
        · rw [ee _ _ (by omega) (by omega)]; exact d6
        · rw [ee _ _ (by omega) (by omega)]; exact d7
        · rw [ee _ _ (by omega) (by omega)]; exact d8
        · rw [ee _ _ (by omega) (by omega)]; exact d9
        · rw [ee _ _ (by omega) (by omega)]; exact (d10 q).1
        · rw [ee _ _ (by omega) (by omega), ee _ _ (by omega) (by omega)]; exact (d10 q).2 i hi
      rw [show ri M5 58 31 = nI ((pN P).length + 1) by rw [r5, if_pos ⟨rfl, rfl⟩]]
      by_cases h2 : (pN P).length = 2
      · rw [if_pos (by rw [h2]; rfl)]
        have hC0 := hC1 (by omega)
        subst hC0
        have hal := all_n (n := sn (pS P)) (by omega)
        have hsb256 : sb (pS P) ||| 2 ^ sn (pS P) < 256 := Nat.or_lt_two_pow (n := 8) hS.2.1 (Nat.pow_lt_pow_right (by decide) (by omega))
        have ok5 : SOk (sn (pS P) + 1, sb (pS P) ||| 2 ^ sn (pS P), sy (pS P), 0, ([] : List Nat), fun j => if j = sn (pS P) then lv0 T L P (.inl a) else sz (pS P) j) := ⟨by show sn (pS P) + 1 ≤ 8; omega, hsb256, by show 0 ≤ 12; omega, fun x hx => (by cases hx), by show 0 < 1000; omega, hsz⟩
        refine r_addCorner (d := d + 2) (a := 0) (b := 1) (c := 2) (by omega) (by omega) (by omega) (by omega) (by omega) (by omega) ok5 (fun i j _ hj => absurd hj (Nat.not_lt_zero _)) (by show 0 < 12; omega) A5 (fun M6 s6 A6 => ?_)
        have ok6 : SOk (setC (sn (pS P) + 1, sb (pS P) ||| 2 ^ sn (pS P), sy (pS P), 0, ([] : List Nat), fun j => if j = sn (pS P) then lv0 T L P (.inl a) else sz (pS P) j) (ins (tri 0 1 2) [])) := ok5.set (by decide) (fun x hx => by rw [show x = 7 by simpa [ins, tri] using hx]; exact ⟨by decide, by decide⟩)
        refine r_addCorner (d := d + 2) (a := 0) (b := 1) (c := 2) (by omega) (by omega) (by omega) (by omega) (by omega) (by omega) ok6 (ins_srt (fun i j _ hj => absurd hj (Nat.not_lt_zero _))) (by show 1 < 12; omega) A6 (fun M7 s7 A7 => ?_)
        have sa := s6.trans s7
        refine fin M7 (q5.trans sa.m) (fun k j hk => sa.1 k hk j) sa.2 ?_
        have e : setD (bornS (pS P) (lv0 T L P (.inl a)) m) 0 = setC (setC (sn (pS P) + 1, sb (pS P) ||| 2 ^ sn (pS P), sy (pS P), 0, ([] : List Nat), fun j => if j = sn (pS P) then lv0 T L P (.inl a) else sz (pS P) j) (ins (tri 0 1 2) [])) (ins (tri 0 1 2) (ins (tri 0 1 2) [])) := by
          unfold bornS bornC
          rw [if_neg (by omega), if_pos (by omega), show sortC [7, 7] = ins (tri 0 1 2) (ins (tri 0 1 2) []) by decide]; rfl
        rw [e]; exact A7
      · rw [if_neg (fun q => h2 (by have := nI_inj (b := 3) (by omega) (by omega) q; omega))]
        refine fin M5 q5 (fun _ _ _ => rfl) (fun _ _ => rfl) ?_
        have e : setD (bornS (pS P) (lv0 T L P (.inl a)) m) 0 = (sn (pS P) + 1, sb (pS P) ||| 2 ^ sn (pS P), sy (pS P), 0, C0, fun j => if j = sn (pS P) then lv0 T L P (.inl a) else sz (pS P) j) := by
          have : bornC (pS P) m = C0 := by
            by_cases h3 : (pN P).length < 3
            · rw [hC1 h3]; unfold bornC; rw [if_pos (by omega)]
            · rw [hC2 (by omega)]
          unfold bornS
          rw [this]; rfl
        rw [e]; exact A5
    by_cases h3 : (pN P).length < 3
    · rw [if_pos (by rw [show (2 : Int32) = nI 2 from rfl, nI_leI (by omega) (by omega)]; omega)]
      have e5 : l5 T L P (.inl a) = l4 T L P (.inl a) := by unfold l5; rw [if_pos h3]
      have hnil : sc (pS P) = [] := List.length_eq_zero_iff.mp (by omega)
      exact at34 M2 [] (lm0 T L P (.inl a)) (fun k j _ hj => qn2.1 k j hj) (fun k j a b => qn2.2 k j a b) hname (by rw [e5]; exact c2) (by rw [← hnil]; exact D2.2.1) (fun _ => rfl) (fun z => by omega) (by decide) (fun _ => rfl)
    · rw [if_neg (by rw [show (2 : Int32) = nI 2 from rfl, nI_leI (by omega) (by omega)]; omega)]
      have e5 : l5 T L P (.inl a) = crS T L (pN P) (pS P) (l4 T L P (.inl a)) := by unfold l5; rw [if_neg h3]
      refine r_readBirth (hT.qm qn2.m) hO (Or.inl c2) D2.1 D2.2.1 hP (by omega) hl (fun M3 x q3 c3 hx => ?_) (fun M3 e3 el3 c3 hm A3 => ?_)
      · refine sg_X9_readLord_34 ?_
        rw [if_neg c3.gt]
        exact bad x M3 (qn2.m.trans q3.m) c3 (by rw [e5]; exact hx)
      · refine at34 M3 _ (crM T L (pN P) (l4 T L P (.inl a))) (fun k j hk hj => by rw [e3 k j hk hj, qn2.1 k j hj]) (fun k j a b => by rw [el3 k j a, qn2.2 k j a b]) (by rw [el3 60 _ (by omega)]; exact hname) (by rw [e5]; exact c3) A3 (fun z => by omega) (fun _ => rfl) (GS_born (v := 0) hP.1 hP.2.1 (by omega) (by omega) (fun _ => hm)).1.1.2.2.1 (fun _ => by unfold lm0; rw [if_neg h3])
  · rw [if_neg c2.ne]
    have hx : l4 T L P (.inl a) = .inr x := hx
    refine sg_X9_readLord_34 ?_
    rw [if_neg c2.gt]
    refine bad x M2 qn2.m c2 ?_
    unfold l5
    split
    · exact hx
    · rw [hx]; rfl
