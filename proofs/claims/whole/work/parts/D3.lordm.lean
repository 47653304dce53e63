/-! the model's lord line -/
def QN (n : Nat) (M M' : Mem) : Prop := (∀ k j, ¬ (k = 58 ∧ (j = 2 ∨ j = 3 ∨ j = 4 ∨ j = 6 ∨ j = 7 ∨ j = 8)) → ri M' k j = ri M k j) ∧ ∀ k j, ¬ (k = 58 ∧ j = 9) → ¬ (k = 60 ∧ j = n) → rl M' k j = rl M k j
theorem QTm.n {n : Nat} {M M' : Mem} (h : QTm M M') : QN n M M' := ⟨h.1, fun k j a _ => h.2 k j a⟩
theorem QN.trans {n : Nat} {M M' M'' : Mem} (h : QN n M M') (h2 : QN n M' M'') : QN n M M'' := ⟨fun k j a => (h2.1 k j a).trans (h.1 k j a), fun k j a b => (h2.2 k j a b).trans (h.2 k j a b)⟩
theorem QN.m {n : Nat} {M M' : Mem} (h : QN n M M') : QM M M' := ⟨fun k j _ _ _ _ f => h.1 k j (fun q => f ⟨q.1, by rcases q.2 with rfl | rfl | rfl | rfl | rfl | rfl <;> rfl⟩), fun k j a b => h.2 k j a (fun q => b q.1)⟩
theorem NM.qn {M M' : Mem} {NL : List (List Nat)} (h : NM M NL) (q : QN NL.length M M') : NM M' NL := ⟨by rw [q.1 58 31 (by omega)]; exact h.1, h.2.1, fun k hk => by rw [q.2 60 k (by omega) (by omega)]; exact h.2.2.1 k hk, h.2.2.2⟩
theorem DM.qn {M M' : Mem} {P : Pd} (h : DM M P) (q : QN (pN P).length M M') : DM M' P := by
  obtain ⟨h1, h2, h3, h4, h5, h6, h7, h8, h9, h10⟩ := h
  exact ⟨h1.qn q, h2.keepA (fun j => q.1 _ _ (by omega)), by rw [q.1 _ _ (by omega)]; exact h3, by rw [q.1 _ _ (by omega)]; exact h4, by rw [q.1 _ _ (by omega)]; exact h5, by rw [q.1 _ _ (by omega)]; exact h6, by rw [q.1 _ _ (by omega)]; exact h7, by rw [q.1 _ _ (by omega)]; exact h8, by rw [q.1 _ _ (by omega)]; exact h9, fun z => ⟨by rw [q.1 _ _ (by omega)]; exact (h10 z).1, fun i hi => by rw [q.1 _ _ (by omega), q.1 _ _ (by omega)]; exact (h10 z).2 i hi⟩⟩
theorem r_newName {d L a : Nat} {T : Nat → Nat} {M : Mem} {K : Mem → Prop} {NL : List (List Nat)} (hT : TZ M L T) (hO : TOk L T) (hN : NM M NL) (hd : NLd NL) (hl : NL.length < 8) (h : RN M L T (.inl a)) (hK : ∀ M', QN NL.length M M' → RO M' L T (nmS T L NL (nxt T L (.inl a))) (rl M' 60 NL.length = lN (v256 (sW T L (nxt T L (.inl a))))) → K M') : CV (d + 3) μX9_newName [.ref 58] M K := by
  refine sg_X9_newName_0 ?_
  refine r_tok hT hO h (fun M1 q1 c1 => ?_)
  refine r_isName c1 ?_
  unfold nmS at hK
  have bad : ∀ f, (0 < f ∧ f < 10) → (if isN T L (nxt T L (.inl a)) = true then (if fnd NL (sW T L (nxt T L (.inl a))) = none then nxt T L (nxt T L (.inl a)) else blm T L 3 (nxt T L (.inl a))) else blm T L 2 (nxt T L (.inl a))) = blm T L f (nxt T L (.inl a)) → CV (d + 2) μX9_wrong [.ref 58, .int (nI f)] M1 (fun M4 => RV (d + 3) μX9_newName 31 [(0, .ref 58)] [] M4 K) := by
    intro f hf he
    refine r_wrong hf c1 (fun M2 q2 c2 => ?_)
    refine sg_X9_newName_31 ?_
    rw [if_neg c2.gt]
    exact hK M2 (q1.trans q2).n (by rw [he]; exact Or.inr ⟨_, rfl, c2⟩)
  cases hn : isN T L (nxt T L (.inl a)) with
  | false =>
    rw [if_pos (by decide)]
    exact bad 2 (by omega) (by rw [hn, if_neg (by decide)])
  | true =>
    rw [if_neg (by decide)]
    obtain ⟨h1, hwo⟩ := isN_wo hn
    obtain ⟨e9, -⟩ := c1.w h1
    refine r_find (hN.qt q1) hd hwo e9 ?_
    have hm := oI_lt (o := fnd NL (sW T L (nxt T L (.inl a)))) (fun i hi => by have := (fnd_some hi).1; have := hN.2.1; omega)
    by_cases hf : fnd NL (sW T L (nxt T L (.inl a))) = none
    · rw [if_pos (hm.mpr hf)]
      rw [hn, if_pos rfl, if_pos hf] at hK
      refine sg_X9_newName_31 ?_
      rw [if_pos c1.le, (hN.qt q1).1, show nx (nI NL.length) = NL.length from nI_clamp (by omega), e9]
      refine ⟨n_in hl (by decide), fun M2 g2 => ?_⟩
      have q2 : QN NL.length M1 M2 := ⟨fun k j _ => by rw [g2, ri_wl], fun k j _ b => by rw [g2, rl_wl, if_neg b]⟩
      have c2 : RN M2 L T (nxt T L (.inl a)) := c1.keep (fun j _ => by rw [g2, ri_wl]) (by rw [g2, rl_wl, if_neg (by omega)])
      have t2 : TZ M2 L T := (hT.qt q1).qm q2.m
      cases hs : nxt T L (.inl a) with
      | inr x => rw [hs] at hn; cases hn
      | inl b =>
        rw [hs] at c2 hK
        refine r_tok t2 hO c2 (fun M3 q3 c3 => hK M3 ((q1.n.trans q2).trans q3.n) (Or.inl ⟨c3, ?_⟩))
        rw [q3.2 60 _ (by omega), g2, rl_wl, if_pos ⟨rfl, rfl⟩, hs]
    · rw [if_neg (fun q => hf (hm.mp q))]
      exact bad 3 (by omega) (by rw [hn, if_pos rfl, if_neg hf])
theorem tri_d : ((List.range 8).all fun a => (List.range 8).all fun b => (List.range 8).all fun c => (pc8 (tri a b c) != 3) || (a != b && a != c && b != c)) = true := by decide +kernel
theorem tri_dist {a b c : Nat} (ha : a < 8) (hb : b < 8) (hc : c < 8) (h : pc8 (tri a b c) = 3) : a ≠ b ∧ a ≠ c ∧ b ≠ c := by
  have t := List.all_eq_true.mp (List.all_eq_true.mp (List.all_eq_true.mp tri_d a (List.mem_range.mpr ha)) b (List.mem_range.mpr hb)) c (List.mem_range.mpr hc)
  rw [h] at t
  simp only [bne_self_eq_false, Bool.false_or, Bool.and_eq_true, bne_iff_ne] at t
  exact ⟨t.1.1, t.1.2, t.2⟩
theorem born_ref {S : Sh} {a b c : Nat} (hS : SOk S) (hs : srt (sc S)) (h4 : N4 S) (hn : sn S < 8) (h3 : 3 ≤ sn S) (hm : tri a b c ∈ sc S) (ha : a < sn S) (hb : b < sn S) (hc : c < sn S) (ab : a ≠ b) (ac : a ≠ c) (bc : b ≠ c) : bornC S (tri a b c) = ins (tri b c (sn S)) (ins (tri a c (sn S)) (ins (tri a b (sn S)) (tk (tri a b c) (sc S)))) := by
  have hT := born_T3 hS h4 hn (fun _ => hm)
  unfold bornC at hT ⊢
  rw [if_neg (by omega), if_neg (by omega)] at hT ⊢
  have hp : (tk (tri a b c) (sc S) ++ adC (tri a b c) (sn S)).Perm (tk (tri a b c) (sc S) ++ [tri a b (sn S)] ++ [tri a c (sn S)] ++ [tri b c (sn S)]) := by
    rw [List.append_assoc, List.append_assoc]
    exact (ad_perm hn ha hb hc ab ac bc).append_left _
  rw [sortC_perm hp (fun x hx => hT x ((sortC_mem _).mpr hx)), sortC_snoc, sortC_snoc, sortC_snoc, sortC_id (tk_srt hm hs)]
/-- readBirth -/
theorem r_readBirth {d L : Nat} {T : Nat → Nat} {M : Mem} {K : Mem → Prop} {P : Pd} {σ : Rdg} (hT : TZ M L T) (hO : TOk L T) (h : RS M L T σ) (hN : NM M (pN P)) (hA : Ar M 69 (setD (pS P) 0)) (hP : PO P) (h3 : 3 ≤ (pN P).length) (hl : (pN P).length < 8)
    (hF : ∀ M' x, QTm M M' → RF M' x → crS T L (pN P) (pS P) σ = .inr x → K M') (hK : ∀ M', (∀ k j, k ≠ 69 → ¬ (k = 58 ∧ (j = 2 ∨ j = 3 ∨ j = 4 ∨ j = 6 ∨ j = 7 ∨ j = 8)) → ri M' k j = ri M k j) → (∀ k j, ¬ (k = 58 ∧ j = 9) → rl M' k j = rl M k j) → RN M' L T (crS T L (pN P) (pS P) σ) → crM T L (pN P) σ ∈ sc (pS P) → Ar M' 69 (setC (setD (pS P) 0) (bornC (pS P) (crM T L (pN P) σ))) → K M') : CV (d + 4) μX9_readBirth [.ref 58] M K := by
  have hd := hP.2.2.2.1
  have hsn := hP.2.2.1
  obtain ⟨hS, hs, h1, h4, hDc, hln, hz⟩ := hP.1
  have h12 := hS.2.2.1
  have hlen := GS.len hP.1 hP.2.1 (by omega)
  have stop3 : ∀ x, k3 T L (pN P) σ = .inr x → crS T L (pN P) (pS P) σ = .inr x := fun x hx => by unfold crS; rw [hx, if_neg (by intro z; cases z)]
  have end84 : ∀ (x1 x2 x3 : Int32) (Mx : Mem) (x : Nat × Nat), QTm M Mx → RF Mx x → crS T L (pN P) (pS P) σ = .inr x → RV (d + 4) μX9_readBirth 84 [(0, .ref 58), (1, .int x1), (2, .int x2), (3, .int x3)] [] Mx K := by
    intro x1 x2 x3 Mx x qx cx hx
    refine sg_X9_readBirth_84 ?_
    rw [if_neg cx.gt]; exact hF Mx x qx cx hx
  have end39 : ∀ (x1 x2 : Int32) (Mx : Mem) (x : Nat × Nat), QTm M Mx → RF Mx x → crS T L (pN P) (pS P) σ = .inr x → RV (d + 4) μX9_readBirth 39 [(0, .ref 58), (1, .int x1), (2, .int x2)] [] Mx K := by
    intro x1 x2 Mx x qx cx hx
    refine sg_X9_readBirth_39 ?_
    refine r_oldLord (T := T) (L := L) (σ := .inr x) (hN.qt qx) hd (Or.inr ⟨x, rfl, cx⟩) (fun r2 M4 q4 c4 => ?_)
    rcases c4 with ⟨c4, k, hk, _⟩ | ⟨y, hy, c4⟩
    · cases hk
    · cases hy
      rw [if_neg c4.ne]; exact end84 _ _ _ M4 x (qx.trans q4) c4 hx
  have end23 : ∀ (x1 : Int32) (Mx : Mem) (x : Nat × Nat), QTm M Mx → RF Mx x → crS T L (pN P) (pS P) σ = .inr x → RV (d + 4) μX9_readBirth 23 [(0, .ref 58), (1, .int x1)] [] Mx K := by
    intro x1 Mx x qx cx hx
    refine sg_X9_readBirth_23 ?_
    refine r_oldLord (T := T) (L := L) (σ := .inr x) (hN.qt qx) hd (Or.inr ⟨x, rfl, cx⟩) (fun r2 M4 q4 c4 => ?_)
    rcases c4 with ⟨c4, k, hk, _⟩ | ⟨y, hy, c4⟩
    · cases hk
    · cases hy
      rw [if_neg c4.ne]; exact end39 _ _ M4 x (qx.trans q4) c4 hx
  refine sg_X9_readBirth_0 ?_
  refine r_want (w := 6) (by omega) ow_at hT hO h (fun M1 q1 c1 => ?_)
  refine r_oldLord (σ := k0 T L σ) (hN.qt q1) hd c1.rs (fun ra M2 q2 c2 => ?_)
  have qt2 := q1.trans q2
  rcases c2 with ⟨c2, ka', hva, hra⟩ | ⟨x, hx, c2⟩
  · rw [c2.1, if_pos rfl]
    have hka := lh_in2 hva
    obtain ⟨a1, ha1⟩ := hka.2
    have hkal : ka' < (pN P).length := by
      obtain ⟨-, -, k, e, hk⟩ := lh_in (by rw [hka.1]; exact ha1)
      rw [hva] at e; cases e; exact hk
    have e1 : k1 T L (pN P) σ = .inl a1 := by show lhS T L (pN P) (k0 T L σ) = _; rw [hka.1]; exact ha1
    have c2 : RN M2 L T (.inl a1) := by rw [← e1]; exact c2
    refine r_tok (hT.qt qt2) hO c2 (fun M3 q3 c3 => ?_)
    have qt3 := qt2.trans q3
    refine sg_X9_readBirth_23 ?_
    refine r_oldLord (hN.qt qt3) hd (Or.inl c3) (fun rb M4 q4 c4 => ?_)
    have qt4 := qt3.trans q4
    have e2 : lhS T L (pN P) (nxt T L (.inl a1)) = k2 T L (pN P) σ := by unfold k2; rw [e1]
    rw [e2] at c4
    rcases c4 with ⟨c4, kb', hvb, hrb⟩ | ⟨x, hx, c4⟩
    · rw [c4.1, if_pos rfl]
      have hkb := lh_in2 hvb
      obtain ⟨b1, hb1⟩ := hkb.2
      have hkbl : kb' < (pN P).length := by
        obtain ⟨-, -, k, e, hk⟩ := lh_in (show lhS T L (pN P) (nxt T L (.inl a1)) = .inl b1 by rw [hkb.1]; exact hb1)
        rw [hvb] at e; cases e; exact hk
      have e3 : k2 T L (pN P) σ = .inl b1 := by rw [← e2, hkb.1]; exact hb1
      have c4 : RN M4 L T (.inl b1) := by rw [← e3]; exact c4
      refine r_tok (hT.qt qt4) hO c4 (fun M5 q5 c5 => ?_)
      have qt5 := qt4.trans q5
      refine sg_X9_readBirth_39 ?_
      refine r_oldLord (hN.qt qt5) hd (Or.inl c5) (fun rc M6 q6 c6 => ?_)
      have qt6 := qt5.trans q6
      have e4 : lhS T L (pN P) (nxt T L (.inl b1)) = k3 T L (pN P) σ := by unfold k3; rw [e3]
      rw [e4] at c6
      rcases c6 with ⟨c6, kc', hvc, hrc⟩ | ⟨x, hx, c6⟩
      · rw [c6.1, if_pos rfl, hra, hrb, hrc]
        have hkc := lh_in2 hvc
        obtain ⟨c1', hc1⟩ := hkc.2
        have hin := lh_in (show lhS T L (pN P) (nxt T L (.inl b1)) = .inl c1' by rw [hkc.1]; exact hc1)
        have hkcl : kc' < (pN P).length := by
          obtain ⟨-, -, k, e, hk⟩ := hin
          rw [hvc] at e; cases e; exact hk
        have e5 : k3 T L (pN P) σ = .inl c1' := by rw [← e4, hkc.1]; exact hc1
        have hik : isK T L 1 (k3 T L (pN P) σ) = true := by rw [e5, ← hin.1]; exact hin.2.1
        have hcm : crM T L (pN P) σ = tri ka' kb' kc' := by
          unfold crM ka kb kc
          rw [hva, show lhV T L (pN P) (nxt T L (k1 T L (pN P) σ)) = some kb' by rw [e1]; exact hvb, show lhV T L (pN P) (nxt T L (k2 T L (pN P) σ)) = some kc' by rw [e3]; exact hvc]
          rfl
        have bad : ¬ crM T L (pN P) σ ∈ sc (pS P) → CV (d + 3) μX9_wrong [.ref 58, .int 3] M6 (fun M3 => RV (d + 4) μX9_readBirth 84 [(0, .ref 58), (1, .int (nI ka')), (2, .int (nI kb')), (3, .int (nI kc'))] [] M3 K) := by
          intro hnm
          refine r_wrong (f := 3) (by omega) c6 (fun M7 q7 c7 => ?_)
          exact end84 _ _ _ M7 _ (qt6.trans q7) c7 (by unfold crS; rw [if_pos hik, if_neg hnm]; rfl)
        have dist : crM T L (pN P) σ ∈ sc (pS P) → ka' ≠ kb' ∧ ka' ≠ kc' ∧ kb' ≠ kc' := fun hm => by
          have := hS.2.2.2.1 _ hm
          rw [hcm] at this
          exact tri_dist (by omega) (by omega) (by omega) this.2
        by_cases hab : ka' = kb'
        · rw [if_pos (by rw [hab])]; exact bad (fun hm => (dist hm).1 hab)
        rw [if_neg (fun q => hab (nI_inj (by omega) (by omega) q))]
        by_cases hac : ka' = kc'
        · rw [if_pos (by rw [hac])]; exact bad (fun hm => (dist hm).2.1 hac)
        rw [if_neg (fun q => hac (nI_inj (by omega) (by omega) q))]
        by_cases hbc : kb' = kc'
        · rw [if_pos (by rw [hbc])]; exact bad (fun hm => (dist hm).2.2 hbc)
        rw [if_neg (fun q => hbc (nI_inj (by omega) (by omega) q))]
        refine r_cornerOf (d := d + 2) (by omega) (by omega) (by omega) hab hac hbc ?_
        have hT3 : T3 (tri ka' kb' kc') := (tri_ok (a := ka') (b := kb') (c := kc') (by omega) (by omega) (by omega) hab hac hbc).2
        have A6 : Ar M6 69 (setD (pS P) 0) := hA.keepA (fun j => qt6.1 _ _ (by omega))
        have hS0 : SOk (setD (pS P) 0) := ⟨hS.1, hS.2.1, hS.2.2.1, hS.2.2.2.1, by show 0 < 1000; omega, hS.2.2.2.2.2⟩
        refine r_isCorner hT3 hS0 A6 ?_
        by_cases hm : tri ka' kb' kc' ∈ sc (setD (pS P) 0)
        · rw [if_neg (bI_ne (decide_eq_true hm))]
          have hm' : tri ka' kb' kc' ∈ sc (pS P) := hm
          have ecr : crS T L (pN P) (pS P) σ = nxt T L (k3 T L (pN P) σ) := by unfold crS; rw [if_pos hik, hcm, if_pos hm']
          refine sg_X9_readBirth_84 ?_
          rw [if_pos c6.le]
          have c6 : RN M6 L T (.inl c1') := by rw [← e5]; exact c6
          refine r_tok (hT.qt qt6) hO c6 (fun M7 q7 c7 => ?_)
          have qt7 := qt6.trans q7
          have A7 : Ar M7 69 (setD (pS P) 0) := hA.keepA (fun j => qt7.1 _ _ (by omega))
          have len1 := tk_len hm'
          refine r_cornerOf (d := d + 2) (by omega) (by omega) (by omega) hab hac hbc ?_
          refine r_takeCorner hS0 hm A7 (fun M8 s8 A8 => ?_)
          have e31 : ∀ Mx, Sa M7 Mx → ri Mx 58 31 = nI (sn (pS P)) := fun Mx sx => by rw [sx.1 58 (by omega), qt7.1 58 31 (by omega), hN.1, hsn]
          have ok8 : SOk (setC (setD (pS P) 0) (tk (tri ka' kb' kc') (sc (pS P)))) := hS0.set (by omega) (tk_T3 hS.2.2.2.1)
          have srt8 : srt (tk (tri ka' kb' kc') (sc (pS P))) := tk_srt hm' hs
          rw [e31 M8 s8]
          have Tn : ∀ x y, x < (pN P).length → y < (pN P).length → x ≠ y → T3 (tri x y (sn (pS P))) := fun x y hx hy hxy => (tri_ok (a := x) (b := y) (c := sn (pS P)) (by omega) (by omega) (by omega) hxy (by omega) (by omega)).2
          refine r_addCorner (d := d + 1) (a := ka') (b := kb') (c := sn (pS P)) (by omega) (by omega) (by omega) hab (by omega) (by omega) (S := setC (setD (pS P) 0) (tk (tri ka' kb' kc') (sc (pS P)))) ok8 srt8 (by rw [sc_setC]; omega) A8 (fun M9 s9 A9 => ?_)
          rw [e31 M9 (s8.trans s9)]
          have ok9 : SOk (setC (setD (pS P) 0) (ins (tri ka' kb' (sn (pS P))) (tk (tri ka' kb' kc') (sc (pS P))))) := hS0.set (by rw [ins_len]; omega) (fun x hx => by
            rcases ins_mem.mp hx with q | q
            · rw [q]; exact Tn ka' kb' hkal hkbl hab
            · exact tk_T3 hS.2.2.2.1 x q)
          refine r_addCorner (d := d + 1) (a := ka') (b := kc') (c := sn (pS P)) (by omega) (by omega) (by omega) hac (by omega) (by omega) (S := setC (setD (pS P) 0) (ins (tri ka' kb' (sn (pS P))) (tk (tri ka' kb' kc') (sc (pS P))))) ok9 (ins_srt srt8) (by rw [sc_setC, ins_len]; omega) A9 (fun M10 s10 A10 => ?_)
          rw [e31 M10 ((s8.trans s9).trans s10)]
          have ok10 : SOk (setC (setD (pS P) 0) (ins (tri ka' kc' (sn (pS P))) (ins (tri ka' kb' (sn (pS P))) (tk (tri ka' kb' kc') (sc (pS P)))))) := hS0.set (by rw [ins_len, ins_len]; omega) (fun x hx => by
            rcases ins_mem.mp hx with q | q
            · rw [q]; exact Tn ka' kc' hkal hkcl hac
            · exact ok9.2.2.2.1 x q)
          refine r_addCorner (d := d + 1) (a := kb') (b := kc') (c := sn (pS P)) (by omega) (by omega) (by omega) hbc (by omega) (by omega) (S := setC (setD (pS P) 0) (ins (tri ka' kc' (sn (pS P))) (ins (tri ka' kb' (sn (pS P))) (tk (tri ka' kb' kc') (sc (pS P)))))) ok10 (ins_srt (ins_srt srt8)) (by rw [sc_setC, ins_len, ins_len]; omega) A10 (fun M11 s11 A11 => ?_)
          have sa : Sa M7 M11 := ((s8.trans s9).trans s10).trans s11
          refine hK M11 (fun k j hk hj => by rw [sa.1 k hk, qt7.1 k j hj]) (fun k j hj => by rw [sa.2, qt7.2 k j hj]) ?_ (by rw [hcm]; exact hm') ?_
          · rw [ecr, e5]; exact c7.keep (fun j _ => sa.1 58 (by omega) j) (sa.2 58 9)
          · rw [hcm, born_ref hS hs h4 (by omega) (by omega) hm' (by omega) (by omega) (by omega) hab hac hbc]; exact A11
        · rw [if_pos (bI_eq (decide_eq_false hm))]
          exact bad (by rw [hcm]; exact hm)
      · rw [if_neg c6.ne]
        exact end84 _ _ _ M6 x qt6 c6 (stop3 x hx)
    · rw [if_neg c4.ne]
      exact end39 _ _ M4 x qt4 c4 (stop3 x (by unfold k3; rw [hx]; rfl))
  · rw [if_neg c2.ne]
    have hx : k1 T L (pN P) σ = .inr x := hx
    exact end23 _ M2 x qt2 c2 (stop3 x (by unfold k3 k2; rw [hx]; rfl))
