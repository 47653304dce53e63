/-! pricks, the class -/
theorem x_pricks {d : Nat} {M : Mem} {K : Int32 → Mem → Prop} {S : Sh} {x y : Int32} (hF : Fr M 27 S) (hG : GS S) (h0 : twI S x y = false → ∀ M', QL 0 M M' → LyX M' [] → K (-1) M') (hK : twI S x y = true → ∀ M', QL 0 M M' → LyX M' (dlL (dlR S (nx x) (nx y))) → K (nI (dlR S (nx x) (nx y)).1) M') : CI (d + 5) μX8_pricks [.ref 0, .int x, .int y] M K := by
  have hS := hF.2.2
  have h8 := hS.1
  refine sg_X8_pricks_0 (fun M1 h1 => ?_)
  have q1 : QL 0 M M1 := by rw [h1]; exact QL.w0
  have e12 : ri M1 0 12 = 0 := by rw [h1, ri_wi, if_pos ⟨rfl, rfl⟩]
  have f1 := hF.keepQL (by omega) q1
  refine x_areTwo f1 ?_
  cases htw : twI S x y with
  | false =>
    rw [if_pos (by decide)]
    exact h0 htw M1 q1 ⟨e12, fun i hi => absurd hi (Nat.not_lt_zero _)⟩
  | true =>
    rw [if_neg (by decide)]
    have hK := hK htw
    unfold twI at htw
    rw [Bool.and_eq_true, Bool.and_eq_true] at htw
    obtain ⟨a, ha, rfl, -⟩ := thI_is hS htw.1.2
    obtain ⟨b, hb, rfl, -⟩ := thI_is hS htw.2
    have ea : nx (nI a) = a := nI_clamp (by omega)
    have eb : nx (nI b) = b := nI_clamp (by omega)
    rw [ea, eb] at hK
    refine sg_X0_countRests_0 (by decide +kernel) (by decide +kernel) ?_
    refine x_choices f1 (by omega) (by omega) (fun M3 h3 => ?_)
    have r3 : ∀ k j, ri M3 k j = if k = 45 ∧ j = 4 then nI (chF S a b (sn S)) else ri M1 k j := by intro k j; rw [h3, ri_wi]
    have q3 : Q M1 M3 := by rw [h3]; exact Q.wi rfl
    have f3 := f1.keepQ (by omega) q3
    refine x_choices f3 (by omega) (by omega) (fun M6 h6 => ?_)
    have r6 : ∀ k j, ri M6 k j = if k = 45 ∧ j = 5 then nI (chF S b a (sn S)) else ri M3 k j := by intro k j; rw [h6, ri_wi]
    have q6 : Q M1 M6 := q3.trans (by rw [h6]; exact Q.wi rfl)
    have m4 : ri M6 45 4 = nI (chF S a b (sn S)) := by rw [r6, if_neg (by omega), r3, if_pos ⟨rfl, rfl⟩]
    have m5 : ri M6 45 5 = nI (chF S b a (sn S)) := by rw [r6, if_pos ⟨rfl, rfl⟩]
    -- what is behind the counting
    have fin : ∀ (M7 : Mem) (s : Nat × Nat), s = dlR S a b → s.1 ≤ 81 → Q M1 M7 → (s.1 ≠ 0 → ri M7 45 0 = nI (s.2 / 9) - 1 ∧ ri M7 45 1 = nI (s.2 % 9) - 1) → (if nI s.1 ≤ 0 then K (nI s.1) M7 else (∀ M8, M8 = wi M7 57 (nx 0) (ri M7 45 0) → (∀ M9, M9 = wi M8 57 (nx 1) (ri M8 45 1) → (∀ MA, MA = wi M9 0 12 2 → K (nI s.1) MA)))) := by
      intro M7 s hs hs81 q7 ht
      have hk := hK
      rw [← hs] at hk
      by_cases hz : s.1 = 0
      · rw [if_pos (by rw [hz]; decide)]
        refine hk M7 (q1.trans q7.l) ?_
        unfold dlL
        rw [if_pos hz]
        exact ⟨by rw [q7.1 0 12 rfl (by omega)]; exact e12, fun i hi => absurd hi (Nat.not_lt_zero _)⟩
      · rw [if_neg (by rw [show (0 : Int32) = nI 0 from rfl, nI_leI (by omega) (by omega)]; omega)]
        intro M8 h8' M9 h9 MA hA
        rw [show nx 0 = 0 from rfl] at h8'
        rw [show nx 1 = 1 by decide] at h9
        have r8 : ∀ k j, ri M8 k j = if k = 57 ∧ j = 0 then ri M7 45 0 else ri M7 k j := by intro k j; rw [h8', ri_wi]
        have r9 : ∀ k j, ri M9 k j = if k = 57 ∧ j = 1 then ri M8 45 1 else ri M8 k j := by intro k j; rw [h9, ri_wi]
        have rA : ∀ k j, ri MA k j = if k = 0 ∧ j = 12 then 2 else ri M9 k j := by intro k j; rw [hA, ri_wi]
        refine hk MA ((q1.trans q7.l).trans (by rw [hA, h9, h8']; exact (QL.w57.trans QL.w57).trans QL.w0)) ?_
        unfold dlL
        rw [if_neg hz]
        refine ⟨by rw [rA, if_pos ⟨rfl, rfl⟩]; rfl, fun i hi => ?_⟩
        have hi : i < 2 := hi
        have : i = 0 ∨ i = 1 := by omega
        rcases this with rfl | rfl
        · rw [rA, if_neg (by omega), r9, if_neg (by omega), r8, if_pos ⟨rfl, rfl⟩]; exact (ht hz).1
        · rw [rA, if_neg (by omega), r9, if_pos ⟨rfl, rfl⟩, r8, if_neg (by omega)]; exact (ht hz).2
    -- the counting
    have count : ∀ (r u v : Nat) (s : Nat × Nat) (M7 : Mem), r + (9 * u + v) = 81 → u < 9 → v < 9 → s.1 ≤ 9 * u + v → dlF (rsP S a b) r s = dlR S a b → Q M1 M7 → ri M7 45 4 = nI (chF S a b (sn S)) → ri M7 45 5 = nI (chF S b a (sn S)) → TbX M7 S a b 81 46 47 → (s.1 ≠ 0 → ri M7 45 0 = nI (s.2 / 9) - 1 ∧ ri M7 45 1 = nI (s.2 % 9) - 1) → RI (d + 4) μX0_countRests 146 [(0, .ref 45), (1, .ref 27), (2, .ref 33), (3, .int (nI a)), (4, .int (nI b)), (5, .int (nI s.1)), (6, .int (nI u)), (7, .int (nI v))] [] M7 (fun r5 M4 => (if r5 ≤ 0 then K r5 M4 else (∀ M6, M6 = wi M4 57 (nx 0) (ri M4 45 0) → (∀ M7, M7 = wi M6 57 (nx 1) (ri M6 45 1) → (∀ M8, M8 = wi M7 0 12 2 → K r5 M8))))) := by
      intro r
      induction r with
      | zero => intro u v s M7 hr hu hv; omega
      | succ r ih =>
        intro u v s M7 hr hu hv hsl he q7 m4 m5 hT ht
        rw [dlF_at (show r + 1 + (9 * u + v) = 81 by omega)] at he
        -- on to the next
        have onw : ∀ (s' : Nat × Nat) (M8 : Mem), s'.1 ≤ 9 * u + v + 1 → dlF (rsP S a b) r s' = dlR S a b → Q M1 M8 → ri M8 45 4 = nI (chF S a b (sn S)) → ri M8 45 5 = nI (chF S b a (sn S)) → TbX M8 S a b 81 46 47 → (s'.1 ≠ 0 → ri M8 45 0 = nI (s'.2 / 9) - 1 ∧ ri M8 45 1 = nI (s'.2 % 9) - 1) → RI (d + 4) μX0_countRests 146 [(0, .ref 45), (1, .ref 27), (2, .ref 33), (3, .int (nI a)), (4, .int (nI b)), (5, .int (nI s'.1)), (6, .int (nI u)), (7, .int (nI (v + 1)))] [] M8 (fun r5 M4 => (if r5 ≤ 0 then K r5 M4 else (∀ M6, M6 = wi M4 57 (nx 0) (ri M4 45 0) → (∀ M7, M7 = wi M6 57 (nx 1) (ri M6 45 1) → (∀ M8, M8 = wi M7 0 12 2 → K r5 M8))))) := by
          intro s' M8 hs' he' q8 m4' m5' hT' ht'
          by_cases hv9 : v + 1 < 9
          · exact ih u (v + 1) s' M8 (by omega) hu hv9 (by omega) he' q8 m4' m5' hT' ht'
          · refine sg_X0_countRests_146 (by decide +kernel) (by decide +kernel) ?_
            rw [if_pos (by rw [show (9 : Int32) = nI 9 from rfl, nI_leI (by omega) (by omega)]; omega), nI_1]
            refine sg_X0_countRests_136 (by decide +kernel) (by decide +kernel) ?_
            by_cases hu9 : u + 1 < 9
            · rw [if_neg (by rw [show (9 : Int32) = nI 9 from rfl, nI_leI (by omega) (by omega)]; omega)]
              exact ih (u + 1) 0 s' M8 (by omega) hu9 (by omega) (by omega) he' q8 m4' m5' hT' ht'
            · rw [if_pos (by rw [show (9 : Int32) = nI 9 from rfl, nI_leI (by omega) (by omega)]; omega)]
              have hr0 : r = 0 := by omega
              rw [hr0] at he'
              exact fin M8 s' he' (by omega) q8 ht'
        refine sg_X0_countRests_146 (by decide +kernel) (by decide +kernel) ?_
        rw [if_neg (by rw [show (9 : Int32) = nI 9 from rfl, nI_leI (by omega) (by omega)]; omega), nI_1]
        have e9 : (9 * u + v) / 9 = u := by omega
        have e9' : (9 * u + v) % 9 = v := by omega
        have eP : rsP S a b (9 * u + v) = (mBd S a b u v && isR S a b u v 9 0) := by unfold rsP; rw [e9, e9']
        have skip : rsP S a b (9 * u + v) = false → RI (d + 4) μX0_countRests 146 [(0, .ref 45), (1, .ref 27), (2, .ref 33), (3, .int (nI a)), (4, .int (nI b)), (5, .int (nI s.1)), (6, .int (nI u)), (7, .int (nI (v + 1)))] [] M7 (fun r5 M4 => (if r5 ≤ 0 then K r5 M4 else (∀ M6, M6 = wi M4 57 (nx 0) (ri M4 45 0) → (∀ M7, M7 = wi M6 57 (nx 1) (ri M6 45 1) → (∀ M8, M8 = wi M7 0 12 2 → K r5 M8))))) := by
          intro hf
          rw [if_neg (by rw [hf]; decide)] at he
          exact onw s M7 (by omega) he q7 m4 m5 hT ht
        refine x_mayBe h8 m4 m5 hu hv ?_
        cases hm : mBd S a b u v with
        | false => rw [if_pos (by decide)]; exact skip (by rw [eP, hm, Bool.false_and])
        | true =>
          rw [if_neg (by decide)]
          refine x_isRest hG (by omega) (by omega) m4 m5 hT hu hv hm ?_
          cases hr2 : isR S a b u v 9 0 with
          | false => rw [if_pos (by decide)]; exact skip (by rw [eP, hr2, Bool.and_false])
          | true =>
            rw [if_neg (by decide)]
            rw [if_pos (by rw [eP, hm, hr2]; rfl)] at he
            by_cases hz : s.1 = 0
            · rw [if_pos (by rw [hz]; rfl)]
              intro M8 h8' M9 h9
              rw [show nI s.1 + 1 = nI (s.1 + 1) by rw [nI_1]]
              rw [if_pos hz] at he
              have r8 : ∀ k j, ri M8 k j = if k = 45 ∧ j = 0 then nI u - 1 else ri M7 k j := by intro k j; rw [h8', ri_wi]
              have r9 : ∀ k j, ri M9 k j = if k = 45 ∧ j = 1 then nI v - 1 else ri M8 k j := by intro k j; rw [h9, ri_wi]
              refine onw (s.1 + 1, 9 * u + v) M9 (by show s.1 + 1 ≤ _; omega) he (q7.trans (by rw [h9, h8']; exact (Q.wi rfl).trans (Q.wi rfl))) (by rw [r9, if_neg (by omega), r8, if_neg (by omega)]; exact m4) (by rw [r9, if_neg (by omega), r8, if_neg (by omega)]; exact m5) (fun i hi hmb => by rw [r9, if_neg (by omega), r8, if_neg (by omega), r9, if_neg (by omega), r8, if_neg (by omega)]; exact hT i hi hmb) (fun _ => ?_)
              show ri M9 45 0 = nI ((9 * u + v) / 9) - 1 ∧ ri M9 45 1 = nI ((9 * u + v) % 9) - 1
              rw [e9, e9', r9, if_neg (by omega), r8, if_pos ⟨rfl, rfl⟩, r9, if_pos ⟨rfl, rfl⟩]
              exact ⟨rfl, rfl⟩
            · rw [if_neg (by rw [show (0 : Int32) = nI 0 from rfl, nI_eq (by omega) (by omega)]; exact hz)]
              rw [if_neg hz] at he
              rw [show nI s.1 + 1 = nI (s.1 + 1) by rw [nI_1]]
              exact onw (s.1 + 1, s.2) M7 (by show s.1 + 1 ≤ _; omega) he q7 m4 m5 hT (fun _ => ht hz)
    -- the tables
    have table : ∀ (r u v : Nat) (M7 : Mem), r + (9 * u + v) = 81 → u < 9 → v < 9 → Q M1 M7 → ri M7 45 4 = nI (chF S a b (sn S)) → ri M7 45 5 = nI (chF S b a (sn S)) → TbX M7 S a b (9 * u + v) 46 47 → RI (d + 4) μX0_countRests 35 [(0, .ref 45), (1, .ref 27), (2, .ref 33), (3, .int (nI a)), (4, .int (nI b)), (5, .int (nI u)), (6, .int (nI v))] [] M7 (fun r5 M4 => (if r5 ≤ 0 then K r5 M4 else (∀ M6, M6 = wi M4 57 (nx 0) (ri M4 45 0) → (∀ M7, M7 = wi M6 57 (nx 1) (ri M6 45 1) → (∀ M8, M8 = wi M7 0 12 2 → K r5 M8))))) := by
      intro r
      induction r with
      | zero => intro u v M7 hr hu hv; omega
      | succ r ih =>
        intro u v M7 hr hu hv q7 m4 m5 hT
        have onw : ∀ (M8 : Mem), Q M1 M8 → ri M8 45 4 = nI (chF S a b (sn S)) → ri M8 45 5 = nI (chF S b a (sn S)) → TbX M8 S a b (9 * u + v + 1) 46 47 → RI (d + 4) μX0_countRests 35 [(0, .ref 45), (1, .ref 27), (2, .ref 33), (3, .int (nI a)), (4, .int (nI b)), (5, .int (nI u)), (6, .int (nI (v + 1)))] [] M8 (fun r5 M4 => (if r5 ≤ 0 then K r5 M4 else (∀ M6, M6 = wi M4 57 (nx 0) (ri M4 45 0) → (∀ M7, M7 = wi M6 57 (nx 1) (ri M6 45 1) → (∀ M8, M8 = wi M7 0 12 2 → K r5 M8))))) := by
          intro M8 q8 m4' m5' hT'
          by_cases hv9 : v + 1 < 9
          · exact ih u (v + 1) M8 (by omega) hu hv9 q8 m4' m5' hT'
          · refine sg_X0_countRests_35 (by decide +kernel) (by decide +kernel) ?_
            rw [if_pos (by rw [show (9 : Int32) = nI 9 from rfl, nI_leI (by omega) (by omega)]; omega), nI_1]
            refine sg_X0_countRests_25 (by decide +kernel) (by decide +kernel) ?_
            by_cases hu9 : u + 1 < 9
            · rw [if_neg (by rw [show (9 : Int32) = nI 9 from rfl, nI_leI (by omega) (by omega)]; omega)]
              exact ih (u + 1) 0 M8 (by omega) hu9 (by omega) q8 m4' m5' (by rw [show 9 * (u + 1) + 0 = 9 * u + v + 1 by omega]; exact hT')
            · rw [if_pos (by rw [show (9 : Int32) = nI 9 from rfl, nI_leI (by omega) (by omega)]; omega)]
              refine sg_X0_countRests_136 (by decide +kernel) (by decide +kernel) ?_
              rw [if_neg (by decide)]
              exact count 81 0 0 (0, 0) M8 rfl (by omega) (by omega) (by show 0 ≤ _; omega) rfl q8 m4' m5' (by rw [show 81 = 9 * u + v + 1 by omega]; exact hT') (fun h => absurd rfl h)
        refine sg_X0_countRests_35 (by decide +kernel) (by decide +kernel) ?_
        rw [if_neg (by rw [show (9 : Int32) = nI 9 from rfl, nI_leI (by omega) (by omega)]; omega), nI_1]
        have e9 : (9 * u + v) / 9 = u := by omega
        have e9' : (9 * u + v) % 9 = v := by omega
        refine x_mayBe h8 m4 m5 hu hv ?_
        cases hm : mBd S a b u v with
        | false =>
          rw [if_pos (by decide)]
          refine onw M7 q7 m4 m5 (fun i hi hmb => ?_)
          by_cases hik : i = 9 * u + v
          · subst hik; rw [e9, e9', hm] at hmb; cases hmb
          · exact hT i (by omega) hmb
        | true =>
          rw [if_neg (by decide)]
          have f7 := (f1.keepQ (by omega) q7)
          refine c_copyFrom (by decide +kernel) (by decide +kernel) (by decide) f7 (fun M8 s8 f8 => ?_)
          refine x_mg f8 (by omega) (by omega) (fun _ M9 s9 f9 => ?_)
          refine x_mg f9 (by omega) (by omega) (fun _ MA sA fA => ?_)
          have sm := (s8.trans s9).trans sA
          have qA := q7.trans sm.q
          rw [n_99, show nx (nI (9 * u + v)) = 9 * u + v from nI_clamp (by omega), ea, eb]
          refine ⟨n_in (by omega) (by decide), n_in (by omega) (by decide), fun MB hB => ?_⟩
          rw [show ri MA (33 + 4) a = nI (gA S a b u v) from fA.2.1.2 a (by omega)] at hB
          have rB : ∀ k j, ri MB k j = if k = 46 ∧ j = 9 * u + v then nI (gA S a b u v) else ri MA k j := by intro k j; rw [hB, ri_wi]
          refine ⟨n_in (by omega) (by decide), n_in (by omega) (by decide), fun MC hC => ?_⟩
          rw [show ri MB (33 + 4) b = nI (gB S a b u v) by rw [rB, if_neg (by omega)]; exact fA.2.1.2 b (by omega)] at hC
          have rC : ∀ k j, ri MC k j = if k = 47 ∧ j = 9 * u + v then nI (gB S a b u v) else ri MB k j := by intro k j; rw [hC, ri_wi]
          have old : ∀ k j, 45 ≤ k → k ≤ 47 → ri MA k j = ri M7 k j := fun k j h1 h2 => sm.1 k (by omega) j
          refine onw MC (qA.trans (by rw [hC, hB]; exact (Q.wi rfl).trans (Q.wi rfl))) (by rw [rC, if_neg (by omega), rB, if_neg (by omega), old 45 4 (by omega) (by omega)]; exact m4) (by rw [rC, if_neg (by omega), rB, if_neg (by omega), old 45 5 (by omega) (by omega)]; exact m5) (fun i hi hmb => ?_)
          by_cases hik : i = 9 * u + v
          · subst hik
            rw [e9, e9', rC, if_neg (by omega), rB, if_pos ⟨rfl, rfl⟩, rC, if_pos ⟨rfl, rfl⟩]
            exact ⟨rfl, rfl⟩
          · rw [rC, if_neg (by omega), rB, if_neg (by omega), rC, if_neg (by omega), rB, if_neg (by omega), old 46 i (by omega) (by omega), old 47 i (by omega) (by omega)]
            exact hT i (by omega) hmb
    refine sg_X0_countRests_25 (by decide +kernel) (by decide +kernel) ?_
    rw [if_neg (by decide)]
    exact table 81 0 0 M6 rfl (by omega) (by omega) q6 m4 m5 (fun i hi => absurd hi (Nat.not_lt_zero _))
