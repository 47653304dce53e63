/-! the class: flip, lord -/
theorem fe_lt {S : Sh} (hS : SOk S) {i j : Nat} (h : fe S i j ≠ 0) : fe S i j < 256 := by
  rw [(fe_pos h).2.2.2.2.2.1]; exact enm_lt (n := 8) (fun m hm => (hS.2.2.2.1 m hm).1)
section Inv
variable {T : Nat → Nat} {L : Nat}
theorem nxt_in {σ : Rdg} {b : Nat} (h : nxt T L σ = .inl b) : ∃ a, σ = .inl a := by
  cases σ with
  | inl a => exact ⟨a, rfl⟩
  | inr x => cases h
theorem tsS_in {c : Nat} {σ : Rdg} {b : Nat} (h : tsS T L c σ = .inl b) : ∃ a, σ = .inl a := by
  cases σ with
  | inl a => exact ⟨a, rfl⟩
  | inr x => cases h
theorem tnS_in {m : Nat} {σ : Rdg} {b : Nat} (h : tnS T L m σ = .inl b) : (∃ a, σ = .inl a) ∧ isK T L 2 σ = true ∧ sN T L σ ≤ m := by
  unfold tnS at h
  split at h
  · rename_i h2
    split at h
    · rename_i h3; exact ⟨nxt_in h, h2, h3⟩
    · cases h
  · cases h
theorem twS_in {w : Nat} {σ : Rdg} {b : Nat} (h : twS T L w σ = .inl b) : (∃ a, σ = .inl a) ∧ isO T L w σ = true := by
  unfold twS at h
  split at h
  · rename_i h2; exact ⟨nxt_in h, h2⟩
  · cases h
theorem nmS_in {NL : List (List Nat)} {σ : Rdg} {b : Nat} (h : nmS T L NL σ = .inl b) : isN T L σ = true ∧ fnd NL (sW T L σ) = none := by
  unfold nmS at h
  split at h
  · rename_i h2
    split at h
    · rename_i h3; exact ⟨h2, h3⟩
    · cases h
  · cases h
theorem lh_none {NL : List (List Nat)} {σ : Rdg} (h : lhV T L NL σ = none) : ∃ x, lhS T L NL σ = .inr x := by
  unfold lhV at h
  unfold lhS
  split at h
  · rename_i hn; rw [if_pos hn, if_pos h]; exact ⟨_, rfl⟩
  · rename_i hn; rw [if_neg hn]; exact ⟨_, rfl⟩
theorem crS_in {NL : List (List Nat)} {S : Sh} {σ : Rdg} {b : Nat} (h : crS T L NL S σ = .inl b) : crM T L NL σ ∈ sc S ∧ (∃ a, σ = .inl a) := by
  unfold crS at h
  split at h
  · rename_i h1
    split at h
    · rename_i h2
      refine ⟨h2, ?_⟩
      cases σ with
      | inl a => exact ⟨a, rfl⟩
      | inr x => cases h1
    · cases h
  · rename_i h1
    obtain ⟨e, hk, -⟩ := lh_in h
    exfalso
    apply h1
    show isK T L 1 (lhS T L NL (nxt T L (k2 T L NL σ))) = true
    have h : lhS T L NL (nxt T L (k2 T L NL σ)) = .inl b := h
    rw [h, ← e]; exact hk
theorem isN_wo {σ : Rdg} (h : isN T L σ = true) : isK T L 1 σ = true ∧ WO (sW T L σ) := by
  have h1 : isK T L 1 σ = true := by unfold isN at h; exact (Bool.and_eq_true _ _ ▸ h).1
  refine ⟨h1, ?_⟩
  cases σ with
  | inl a => exact tW_ok (of_decide_eq_true (show decide (tK T L a = 1) = true from h1))
  | inr x => cases h1
end Inv
theorem x_readFlip {d L t a : Nat} {T : Nat → Nat} {M : Mem} {K : Mem → Prop} {P : Pd} (ht : t = 2 ∨ t = 15) (h3 : nx (ri M 1 3) = t) (hT : TX M L T) (hO : TOk L T) (h : CS M L T (.inl a)) (hD : DX M t P) (hP : PO P) (hK : ∀ M', QR t M M' → CS M' L T (flS T L P (.inl a)) → ((∃ b, flS T L P (.inl a) = .inl b) → DX M' t (flP T L P (.inl a)) ∧ fe (pS P) ((fa T L P (.inl a)).getD 0) ((fb T L P (.inl a)).getD 0) ≠ 0 ∧ (fa T L P (.inl a)).getD 0 < sn (pS P) ∧ (fb T L P (.inl a)).getD 0 < sn (pS P)) → K M') : CV (d + 9) μX6_readFlip [.ref 1] M K := by
  have hk := (tell_kd ht).1
  have hL12 := hP.2.2.2.2.2.1
  refine sg_X6_readFlip_0 ⟨t, h3, hk, ?_⟩
  rw [hD.2.2.1]
  unfold flS at hK
  by_cases hl : pL P < 12
  · rw [if_pos hl] at hK
    rw [if_pos (by rw [show (12 : Int32) = nI 12 from rfl, nI_ltI (by omega) (by omega)]; exact hl)]
    refine ⟨t, h3, hk, fun M1 g1 => ?_⟩
    rw [hD.2.2.1, nI_1] at g1
    have q1 : QR t M M1 := by rw [g1]; exact qr_w (by omega) (by omega) (by omega)
    have e1 : ∀ k j, ri M1 k j = if k = t ∧ j = 4 then nI (pL P + 1) else ri M k j := by intro k j; rw [g1, ri_wi]
    have D1 : DX M1 t (pN P, pS P, pL P + 1, pT P, pD P, pG P) := by
      obtain ⟨d1, d2, d3, d4, d5, d6, d7, d8, d9, d10⟩ := hD
      refine ⟨fun k hk => by rw [g1, rl_wi]; exact d1 k hk, d2.keepK (fun k hk j => by rw [e1, if_neg (by omega)]), ?_, ?_, ?_, ?_, ?_, ?_, ?_, fun i hi => ?_⟩
      · rw [e1, if_pos ⟨rfl, rfl⟩]; rfl
      · rw [e1, if_neg (by omega)]; exact d4
      · rw [e1, if_neg (by omega)]; exact d5
      · rw [e1, if_neg (by omega)]; exact d6
      · rw [e1, if_neg (by omega)]; exact d7
      · rw [e1, if_neg (by omega)]; exact d8
      · rw [e1, if_neg (by omega)]; exact d9
      · rw [e1, if_neg (by omega)]; exact d10 i hi
    have N1' : NX M1 t (pN P) := by
      have := hD.nx hP
      exact ⟨by rw [e1, if_neg (by omega)]; exact this.1, this.2.1, fun k hk => by rw [g1, rl_wi]; exact this.2.2.1 k hk, this.2.2.2⟩
    have NQ : ∀ {Ma Mb : Mem}, NX Ma t (pN P) → QA Ma Mb → NX Mb t (pN P) := fun h q => ⟨by rw [q.1 _ _ (by omega)]; exact h.1, h.2.1, fun k hk => by rw [q.2 _ _ (by omega)]; exact h.2.2.1 k hk, h.2.2.2⟩
    refine x_adv (hT.qr ht q1) hO (show CS M1 L T (.inl a) by rw [g1]; exact h.wi (by omega)) (fun M2 q2 c2 => ?_)
    have i2 := q2.into (q1.into ht h3)
    refine RI.deeper (d := d + 8) (Nat.le_refl _) (x_lordHere (d := d + 7) hk i2 (NQ N1' q2) c2 (fun M3 q3 c3 => ?_))
    have t3 := ((hT.qr ht q1).qa q2).qa q3
    refine x_adv t3 hO c3 (fun M4 q4 c4 => ?_)
    have i4 := q4.into (q3.into i2)
    refine RI.deeper (d := d + 8) (Nat.le_refl _) (x_lordHere (d := d + 7) hk i4 (NQ (NQ (NQ N1' q2) q3) q4) c4 (fun M5 q5 c5 => ?_))
    have t5 := (t3.qa q4).qa q5
    have qq : QA M1 M5 := ((q2.trans q3).trans q4).trans q5
    have i5 := q5.into i4
    have D5 : DX M5 t (pN P, pS P, pL P + 1, pT P, pD P, pG P) := D1.qa ht qq
    have fin : ∀ (r6 r9 : Int32) (M6 : Mem) (σ' : Rdg), QR t M1 M6 → TX M6 L T → CS M6 L T σ' → tsS T L 59 (nxt T L σ') = tsS T L 59 (f3 T L P (.inl a)) → ((∃ b, tsS T L 59 (f3 T L P (.inl a)) = .inl b) → DX M6 t (flP T L P (.inl a)) ∧ fe (pS P) ((fa T L P (.inl a)).getD 0) ((fb T L P (.inl a)).getD 0) ≠ 0 ∧ (fa T L P (.inl a)).getD 0 < sn (pS P) ∧ (fb T L P (.inl a)).getD 0 < sn (pS P)) → RV (d + 9) μX6_readFlip 76 [(0, .ref 1), (1, .int r6), (2, .int r9)] [] M6 K := by
      intro r6 r9 M6 σ' q6 t6 c6 hs hd
      refine sg_X6_readFlip_76 ?_
      refine x_adv t6 hO c6 (fun M7 q7 c7 => ?_)
      refine x_takeSign (c := 59) (by omega) (t6.qa q7) hO c7 (fun M8 q8 c8 => ?_)
      rw [hs] at c8
      refine hK M8 ((q1.trans q6).trans (q7.trans q8).r) c8 (fun z => ?_)
      obtain ⟨z1, z2⟩ := hd z
      exact ⟨z1.qa ht (q7.trans q8), z2⟩
    have c5' : CS M5 L T (f2 T L P (.inl a)) := c5
    have hf2 : ∀ σ', f2 T L P (.inl a) = σ' → lhS T L (pN P) (nxt T L (f1 T L P (.inl a))) = σ' := fun σ' h => h
    cases hc : f2 T L P (.inl a) with
    | inr x =>
      rw [hc] at c5'
      rw [if_neg (CS.f1 c5')]
      have ef : f3 T L P (.inl a) = .inr x := by unfold f3; rw [hc, if_neg (by intro z; cases z)]
      exact fin _ _ M5 (.inr x) qq.r t5 c5' (by rw [ef]; rfl) (fun ⟨b, z⟩ => by rw [ef] at z; cases z)
    | inl b =>
      rw [hc] at c5'
      rw [if_pos (CS.f0 c5')]
      obtain ⟨e2, hk2, kb', hvb, hkb⟩ := lh_in (hf2 _ hc)
      obtain ⟨b1, hb1⟩ := nxt_in e2
      obtain ⟨e3, hk3, ka', hva, hka⟩ := lh_in (show lhS T L (pN P) (nxt T L (.inl a)) = .inl b1 from hb1)
      have va : fa T L P (.inl a) = some ka' := hva
      have vb : fb T L P (.inl a) = some kb' := hvb
      have k1' : isK T L 1 (f2 T L P (.inl a)) = true := by rw [hc, ← e2]; exact hk2
      have hsn := hP.2.2.1
      have ef : f3 T L P (.inl a) = if fe (pS P) ka' kb' = 0 then blm T L 3 (f2 T L P (.inl a)) else nxt T L (f2 T L P (.inl a)) := by unfold f3; rw [if_pos k1', va, vb]; rfl
      rw [show lhV T L (pN P) (nxt T L (.inl a)) = some ka' from hva, show lhV T L (pN P) (nxt T L (lhS T L (pN P) (nxt T L (.inl a)))) = some kb' from hvb]
      refine ⟨t, i5, hk, ?_⟩
      have hS := hP.1.1
      have h8 := hS.1
      refine RI.deeper (d := d + 8) (Nat.le_refl _) (c_turnWall (d := d + 6) (S := pS P) (a := nI ka') (b := nI kb') (tell_kd ht).2.2 D5.2.1 (fun hz => ?_) (fun i j M6 ei ej hi hj hne s6 F6 => ?_))
      · rw [if_pos rfl]
        rw [feI_nat hS (show ka' < sn (pS P) by omega) (show kb' < sn (pS P) by omega)] at hz
        rw [if_pos hz] at ef
        refine x_blm (f := 3) (by omega) c5' (fun M6 q6 c6 => ?_)
        rw [hc] at ef
        exact fin _ _ M6 _ (qq.r.trans q6.r) (t5.qa q6) c6 (by rw [ef]; rfl) (fun ⟨b, z⟩ => by rw [ef] at z; cases z)
      · have ei : ka' = i := nI_inj (by omega) (by omega) ei
        have ej : kb' = j := nI_inj (by omega) (by omega) ej
        subst ei ej
        have hlt := fe_lt hS hne
        rw [if_neg (show ¬ nI (fe (pS P) ka' kb') = 0 from fun z => hne (nI_inj (b := 0) (by omega) (by omega) z))]
        rw [if_neg hne, hc] at ef
        have q6 : QR t M5 M6 := s6.r ht
        have c6 : CS M6 L T (.inl b) := c5'.keep (fun j => s6.1 1 (by omega) j) (fun j => s6.2 1 j)
        refine fin _ _ M6 (.inl b) (qq.r.trans q6) (t5.qr ht q6) c6 (by rw [ef]) (fun _ => ⟨?_, by rw [va, vb]; exact hne, by rw [va]; exact hi, by rw [vb]; exact hj⟩)
        obtain ⟨d1, d2, d3, d4, d5, d6, d7, d8, d9, d10⟩ := D5
        have es : ∀ k j, k < t + 1 ∨ t + 6 < k → ri M6 k j = ri M5 k j := fun k j hk => s6.1 k (by omega) j
        refine ⟨fun k hk => by rw [s6.2]; exact d1 k hk, ?_, ?_, ?_, ?_, ?_, ?_, ?_, ?_, fun i hi => ?_⟩
        · show Fr M6 (t + 1) (flipS (pS P) ((fa T L P (.inl a)).getD 0) ((fb T L P (.inl a)).getD 0))
          rw [va, vb]; exact F6
        · rw [es _ _ (by omega)]; exact d3
        · rw [es _ _ (by omega)]; exact d4
        · rw [es _ _ (by omega)]; exact d5
        · rw [es _ _ (by omega)]; exact d6
        · rw [es _ _ (by omega)]; exact d7
        · rw [es _ _ (by omega)]; exact d8
        · rw [es _ _ (by omega)]; exact d9
        · rw [es _ _ (by omega)]; exact d10 i hi
  · rw [if_neg hl] at hK
    rw [if_neg (by rw [show (12 : Int32) = nI 12 from rfl, nI_ltI (by omega) (by omega)]; exact hl)]
    exact x_blm (f := 2) (by omega) h (fun M' q c => hK M' q.r c (fun ⟨b, z⟩ => by cases z))
theorem x_readCorner {d L t : Nat} {T : Nat → Nat} {M : Mem} {K : Int32 → Mem → Prop} {P : Pd} {σ : Rdg} (ht : t = 2 ∨ t = 15) (h3 : nx (ri M 1 3) = t) (hT : TX M L T) (hO : TOk L T) (h : CS M L T σ) (hN : NX M t (pN P)) (hF : Fr M (t + 1) (pS P)) (hK : ∀ r M', QA M M' → CS M' L T (crS T L (pN P) (pS P) σ) → ((∃ b, crS T L (pN P) (pS P) σ = .inl b) → r = nI (crM T L (pN P) σ) ∧ crM T L (pN P) σ < 256) → K r M') : CI (d + 9) μX6_readCorner [.ref 1] M K := by
  have hk := (tell_kd ht).1
  have h8 := hN.2.1
  have NQ : ∀ {Ma Mb : Mem}, NX Ma t (pN P) → QA Ma Mb → NX Mb t (pN P) := fun h q => ⟨by rw [q.1 _ _ (by omega)]; exact h.1, h.2.1, fun k hk => by rw [q.2 _ _ (by omega)]; exact h.2.2.1 k hk, h.2.2.2⟩
  refine sg_X6_readCorner_0 ?_
  refine x_takeWord (w := 6) (by omega) hT hO h (fun M1 q1 c1 => ?_)
  have stop : ∀ (x : Nat × Nat) (Mx : Mem), QA M Mx → k3 T L (pN P) σ = .inr x → CS Mx L T (.inr x) → K 0 Mx := by
    intro x Mx qx hx cx
    have e : crS T L (pN P) (pS P) σ = .inr x := by unfold crS; rw [hx, if_neg (by intro z; cases z)]
    exact hK 0 Mx qx (by rw [e]; exact cx) (fun ⟨b, z⟩ => by rw [e] at z; cases z)
  refine sg_X6_readCorner_10 ?_
  rw [if_neg (by decide)]
  refine RI.deeper (d := d + 8) (Nat.le_refl _) (x_lordHere (d := d + 7) (σ := k0 T L σ) hk (q1.into h3) (NQ hN q1) c1 (fun M2 q2 c2 => ?_))
  have qa2 := q1.trans q2
  cases ha : lhV T L (pN P) (k0 T L σ) with
  | none =>
    rw [if_pos (show oI none = -1 from rfl)]
    obtain ⟨x, hx⟩ := lh_none ha
    have e1 : k1 T L (pN P) σ = .inr x := hx
    have c2 : CS M2 L T (k1 T L (pN P) σ) := c2
    rw [e1] at c2
    exact stop x M2 qa2 (by unfold k3 k2; rw [e1]; rfl) c2
  | some ka' =>
    have hka := lh_in2 ha
    obtain ⟨a1, ha1⟩ := hka.2
    have hkl : ka' < (pN P).length := by
      obtain ⟨-, -, k, e, hk⟩ := lh_in (by rw [hka.1]; exact ha1)
      rw [ha] at e; cases e; exact hk
    rw [if_neg (oI_ne (by omega)), if_neg (by decide)]
    refine x_adv (hT.qa qa2) hO c2 (fun M3 q3 c3 => ?_)
    have qa3 := qa2.trans q3
    rw [show (1 : Int32) <<< (oI (some ka') &&& 31) = nI (2 ^ ka') from n_shl (by omega), show (0 : Int32) = nI 0 from rfl, n_or, Nat.zero_or]
    refine sg_X6_readCorner_10 ?_
    rw [if_neg (by decide)]
    refine RI.deeper (d := d + 8) (Nat.le_refl _) (x_lordHere (d := d + 7) (σ := nxt T L (k1 T L (pN P) σ)) hk (qa3.into h3) (NQ hN qa3) c3 (fun M4 q4 c4 => ?_))
    have qa4 := qa3.trans q4
    cases hb : lhV T L (pN P) (nxt T L (k1 T L (pN P) σ)) with
    | none =>
      rw [if_pos (show oI none = -1 from rfl)]
      obtain ⟨x, hx⟩ := lh_none hb
      have e1 : k2 T L (pN P) σ = .inr x := hx
      have c4 : CS M4 L T (k2 T L (pN P) σ) := c4
      rw [e1] at c4
      exact stop x M4 qa4 (by unfold k3; rw [e1]; rfl) c4
    | some kb' =>
      have hkb := lh_in2 hb
      obtain ⟨b1, hb1⟩ := hkb.2
      have hkbl : kb' < (pN P).length := by
        obtain ⟨-, -, k, e, hk⟩ := lh_in (by rw [hkb.1]; exact hb1)
        rw [hb] at e; cases e; exact hk
      rw [if_neg (oI_ne (by omega)), if_neg (by decide)]
      refine x_adv (hT.qa qa4) hO c4 (fun M5 q5 c5 => ?_)
      have qa5 := qa4.trans q5
      rw [show (1 : Int32) <<< (oI (some kb') &&& 31) = nI (2 ^ kb') from n_shl (by omega), n_or]
      refine sg_X6_readCorner_10 ?_
      rw [if_neg (by decide)]
      refine RI.deeper (d := d + 8) (Nat.le_refl _) (x_lordHere (d := d + 7) (σ := nxt T L (k2 T L (pN P) σ)) hk (qa5.into h3) (NQ hN qa5) c5 (fun M6 q6 c6 => ?_))
      have qa6 := qa5.trans q6
      have c6 : CS M6 L T (k3 T L (pN P) σ) := c6
      cases hc : lhV T L (pN P) (nxt T L (k2 T L (pN P) σ)) with
      | none =>
        rw [if_pos (show oI none = -1 from rfl)]
        obtain ⟨x, hx⟩ := lh_none hc
        have e1 : k3 T L (pN P) σ = .inr x := hx
        rw [e1] at c6
        exact stop x M6 qa6 e1 c6
      | some kc' =>
        have hkc := lh_in2 hc
        obtain ⟨c1', hc1⟩ := hkc.2
        have hin := lh_in (show lhS T L (pN P) (nxt T L (k2 T L (pN P) σ)) = .inl c1' by rw [hkc.1]; exact hc1)
        have hkcl : kc' < (pN P).length := by
          obtain ⟨-, -, k, e, hk⟩ := hin
          rw [hc] at e; cases e; exact hk
        have e3 : k3 T L (pN P) σ = .inl c1' := by show lhS T L (pN P) (nxt T L (k2 T L (pN P) σ)) = _; rw [hkc.1]; exact hc1
        have hik : isK T L 1 (k3 T L (pN P) σ) = true := by rw [e3, ← hin.1]; exact hin.2.1
        have hcm : crM T L (pN P) σ = 2 ^ ka' ||| 2 ^ kb' ||| 2 ^ kc' := by unfold crM ka kb kc; rw [ha, hb, hc]; rfl
        have hc256 : crM T L (pN P) σ < 256 := by
          rw [hcm]
          exact Nat.or_lt_two_pow (n := 8) (Nat.or_lt_two_pow (Nat.pow_lt_pow_right (by decide) (by omega)) (Nat.pow_lt_pow_right (by decide) (by omega))) (Nat.pow_lt_pow_right (by decide) (by omega))
        rw [if_neg (oI_ne (by omega)), if_pos (by decide), show (1 : Int32) <<< (oI (some kc') &&& 31) = nI (2 ^ kc') from n_shl (by omega), n_or, ← hcm]
        refine ⟨t, qa6.into h3, hk, ?_⟩
        have F6 : Fr M6 (t + 1) (pS P) := hF.keepK (fun k hk j => qa6.1 _ _ (by omega))
        refine c_hasCorner (tell_kd ht).2.2 hc256 F6.1 F6.2.2 ?_
        by_cases hm : crM T L (pN P) σ ∈ sc (pS P)
        · rw [if_neg (bI_ne (decide_eq_true hm))]
          have e : crS T L (pN P) (pS P) σ = nxt T L (k3 T L (pN P) σ) := by unfold crS; rw [if_pos hik, if_pos hm]
          refine x_adv (hT.qa qa6) hO c6 (fun M7 q7 c7 => ?_)
          refine sg_X6_readCorner_10 ?_
          rw [if_pos (by decide)]
          exact hK _ M7 (qa6.trans q7) (by rw [e]; exact c7) (fun _ => ⟨rfl, hc256⟩)
        · rw [if_pos (bI_eq (decide_eq_false hm))]
          have e : crS T L (pN P) (pS P) σ = blm T L 3 (k3 T L (pN P) σ) := by unfold crS; rw [if_pos hik, if_neg hm]
          refine x_blm (f := 3) (by omega) c6 (fun M7 q7 c7 => ?_)
          refine x_adv (hT.qa (qa6.trans q7)) hO c7 (fun M8 q8 c8 => ?_)
          refine sg_X6_readCorner_10 ?_
          rw [if_pos (by decide)]
          exact hK _ M8 ((qa6.trans q7).trans q8) (by rw [e]; exact c8) (fun ⟨b, z⟩ => by rw [e] at z; cases z)
