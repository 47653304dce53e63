/-! the class's descent through a formula -/
/-- the reading goes on, never back -/
def Mo (σ σ' : Rdg) : Prop := ∀ b', σ' = .inl b' → ∃ b, σ = .inl b ∧ b ≤ b'
theorem Mo.rf {σ : Rdg} : Mo σ σ := fun b h => ⟨b, h, Nat.le_refl _⟩
theorem Mo.trans {σ σ' σ'' : Rdg} (h : Mo σ σ') (h2 : Mo σ' σ'') : Mo σ σ'' := fun b hb => by
  obtain ⟨c, hc, l⟩ := h2 b hb
  obtain ⟨e, he, l2⟩ := h c hc
  exact ⟨e, he, Nat.le_trans l2 l⟩
theorem tE_ge (T : Nat → Nat) (L a : Nat) : a ≤ tE T L a := by
  have h := tS_ge (T := T) (L := L) (a := a)
  unfold tE
  split
  · exact h
  · split
    · exact Nat.le_trans h en_ge
    · split
      · exact Nat.le_trans h en_ge
      · omega
theorem Mo_nxt (T : Nat → Nat) (L : Nat) (σ : Rdg) : Mo σ (nxt T L σ) := by
  intro b hb
  cases σ with
  | inr x => cases hb
  | inl a =>
    have hb : tA T L (tE T L a) = .inl b := hb
    unfold tA at hb
    split at hb
    · cases hb
    · cases hb; exact ⟨a, rfl, tE_ge T L a⟩
def Gd (T : Nat → Nat) (L t lev dep u : Nat) (c : List Int32) (M' : Mem) (σ σ' : Rdg) (u' : Nat) (c' : List Int32) : Prop := Mo σ σ' ∧ GC M' t u' c' ∧ u < u' ∧ u' ≤ 30 ∧ c'.length + 1 + dep + 9 * u ≤ c.length + 9 * u' ∧ Rt T L lev σ' ∧ ∃ e, c' = c ++ e ∧ Ex e (u' - u) ∧ ∀ x ∈ e, -16 ≤ x.toInt
def Fs (t : Nat) (M : Mem) : Prop := ∃ m, m ≤ 270 ∧ ri M (t + 7) 3 = nI m
theorem GC.fs {M : Mem} {t u : Nat} {c : List Int32} (h : GC M t u c) (hc : c.length ≤ 270) : Fs t M := ⟨_, hc, h.1⟩
theorem Fs.qa {M M' : Mem} {t : Nat} (ht : t = 2 ∨ t = 15) (h : Fs t M) (q : QA M M') : Fs t M' := by
  obtain ⟨m, h1, h2⟩ := h
  exact ⟨m, h1, by rw [q.1 _ _ (by omega)]; exact h2⟩
theorem x_mayNest {d L dep : Nat} {T : Nat → Nat} {M : Mem} {K : Int32 → Mem → Prop} {σ : Rdg} (hd : dep ≤ 7) (h : CS M L T σ) (h1 : dep < 7 → K 1 M) (h2 : dep = 7 → ∀ M', QA M M' → CS M' L T (blm T L 2 σ) → K 0 M') : CI (d + 1) μX6_mayNest [.ref 1, .int (nI dep)] M K := by
  refine sg_X6_mayNest_0 ?_
  by_cases hc : dep < 7
  · rw [if_pos (by rw [show (7 : Int32) = nI 7 from rfl, nI_ltI (by omega) (by omega)]; exact hc)]; exact h1 hc
  · rw [if_neg (by rw [show (7 : Int32) = nI 7 from rfl, nI_ltI (by omega) (by omega)]; exact hc)]
    exact x_blm (f := 2) (by omega) h (fun M' q c => h2 (by omega) M' q c)
theorem Rt_up {T : Nat → Nat} {L lev : Nat} {σ : Rdg} (hl : lev < 5) (h : Rt T L (lev + 1) σ) (h2 : sgn T L σ ≠ 0 → tg (sgn T L σ) ≠ tl lev ∨ lev = 2) : Rt T L lev σ := by
  intro h0
  have ht := sgn_tg h0
  have := h h0
  have h2 := h2 h0
  have hlv : lev = 0 ∨ lev = 1 ∨ lev = 2 ∨ lev = 3 ∨ lev = 4 := by omega
  rcases hlv with rfl | rfl | rfl | rfl | rfl
  · have a : tl (0 + 1) = 2 := rfl
    have b : tl 0 = 1 := rfl
    omega
  · have a : tl (1 + 1) = 4 := rfl
    have b : tl 1 = 2 := rfl
    omega
  · have a : tl (2 + 1) = 5 := rfl
    have b : tl 2 = 4 := rfl
    omega
  · have a : tl (3 + 1) = 6 := rfl
    have b : tl 3 = 5 := rfl
    omega
  · have b : tl 4 = 6 := rfl
    omega
theorem x_part {d L t : Nat} {T : Nat → Nat} (ht : t = 2 ∨ t = 15) (hO : TOk L T) : ∀ (n lev dep : Nat), n = 6 * (7 - dep) + (5 - lev) → lev ≤ 5 → dep ≤ 7 → ∀ (σ : Rdg) (u : Nat) (c : List Int32) (M : Mem) (K : Mem → Prop), nx (ri M 1 3) = t → TX M L T → CS M L T σ → GC M t u c → u ≤ 30 → c.length ≤ 9 * u → (∀ σ' u' c' M', QG t M M' → CS M' L T σ' → Sim T L lev dep σ u c σ' u' c' → ((∃ b, σ' = .inl b) → Gd T L t lev dep u c M' σ σ' u' c') → Fs t M' → K M') → CV (d + 2 * n + 12) μX6_readPart [.ref 1, .int (nI lev), .int (nI dep)] M K := by
  have hk := (tell_kd ht).1
  intro n
  induction n using Nat.strongRecOn with
  | ind n ih =>
    intro lev dep hn hlev hdep σ u c M K h3 hT h hG hu hc hK
    refine sg_X6_readPart_0 ?_
    cases σ with
    | inr x =>
      rw [if_neg (CS.f1 h)]
      exact hK (.inr x) u c M QG.rf h (sim_fault hlev hdep hu) (fun ⟨b, z⟩ => by cases z) (hG.fs (by omega))
    | inl a =>
      rw [if_pos (CS.f0 h), if_pos (by rw [show (7 : Int32) = nI 7 from rfl, nI_leI (by omega) (by omega)]; exact hdep)]
      by_cases h5 : lev = 5
      · -- a unit
        subst h5
        rw [if_pos (by rfl)]
        refine sg_X6_readUnit_0 ⟨t, h3, hk, ?_⟩
        rw [hG.2.1]
        by_cases hu30 : u < 30
        · rw [if_pos (by rw [show (30 : Int32) = nI 30 from rfl, nI_ltI (by omega) (by omega)]; exact hu30)]
          refine ⟨t, h3, hk, fun M1 g1 => ?_⟩
          rw [hG.2.1, nI_1] at g1
          have r1 : ∀ k j, ri M1 k j = if k = t + 7 ∧ j = 4 then nI (u + 1) else ri M k j := by intro k j; rw [g1, ri_wi]
          have q1 : QG t M M1 := ⟨fun k j _ b _ => by rw [r1, if_neg (by omega)], fun k j _ => by rw [g1, rl_wi]⟩
          have G1 : GC M1 t (u + 1) c := ⟨by rw [r1, if_neg (by omega)]; exact hG.1, by rw [r1, if_pos ⟨rfl, rfl⟩], fun i hi => by rw [r1, if_neg (by omega)]; exact hG.2.2 i hi⟩
          have c1 : CS M1 L T (.inl a) := by rw [g1]; exact h.wi (by omega)
          have t1 := hT.qg ht q1
          have i1 := q1.into ht h3
          refine x_isSign (c := 40) (by omega) c1 ?_
          cases h40 : isK T L 40 (.inl a) with
          | true =>
            rw [if_neg (by decide)]
            refine x_mayNest hdep c1 (fun hd7 => ?_) (fun hd7 M2 q2 c2 => ?_)
            · rw [if_neg (by decide)]
              refine x_adv t1 hO c1 (fun M2 q2 c2 => ?_)
              have t2 := t1.qa q2
              rw [nI_1]
              refine RV.deeper (d := d + 2 * (n - 1) + 12) (by omega) (ih (n - 1) (by omega) 0 (dep + 1) (by omega) (by omega) (by omega) (nxt T L (.inl a)) (u + 1) c M2 _ (q2.into i1) t2 c2 (G1.qa ht q2) (by omega) (by omega) (fun σ1 u1 c1' M3 q3 c3 S3 g3 f3 => ?_))
              have q03 : QG t M M3 := (q1.trans q2.g).trans q3
              have t3 := hT.qg ht q03
              refine x_isSign (c := 41) (by omega) c3 ?_
              cases h41 : isK T L 41 σ1 with
              | true =>
                rw [if_neg (by decide)]
                obtain ⟨b1, hb1⟩ : ∃ b, σ1 = .inl b := by
                  cases σ1 with
                  | inl b => exact ⟨b, rfl⟩
                  | inr x => cases h41
                obtain ⟨mo3, g31, g32, g33, g34, g35, e, g36, g37, g38⟩ := g3 ⟨b1, hb1⟩
                refine x_adv t3 hO c3 (fun M4 q4 c4 => ?_)
                refine hK (nxt T L σ1) u1 c1' M4 (q03.trans q4.g) c4 ?_ (fun _ => ⟨((Mo_nxt T L _).trans mo3).trans (Mo_nxt T L _), g31.qa ht q4, by omega, g33, by omega, fun _ => Or.inr (Or.inr rfl), e, g36, Ex_mono g37 (by omega), g38⟩) (f3.qa ht q4)
                intro U O F E hC s hs hn9
                have hsl := cmp_len hs (by omega) hdep
                have use : O s (nxt T L σ1) u1 c1' → U s (.inl a) u c := by
                  intro hOs
                  refine hC.2.1 s (.inl a) u c h40 hu30 (by rw [hs.2.1]; omega) (by omega) ?_
                  refine (S3 U O F E hC (20 :: s) (cmp_br hs) (fun z => by omega)).2 ⟨b1, hb1⟩ (fun l c0 hN _ => ?_)
                  obtain ⟨p, p1, p2, p3, p4⟩ := hN
                  have e0 : cls 0 l c0 = (20 :: s, c1') := by rw [p1, cls_pend (Or.inr (Or.inr ⟨s, rfl⟩)) p c0 (fun x hx => ⟨(p2 x hx).1, Nat.zero_le _⟩), p3]
                  refine hC.2.2.2.2.1 l σ1 u1 c0 h41 (by rw [p1]; simp) p4 (by rw [e0]; show c1'.length ≤ 320; omega) (by rw [e0]; exact hOs)
                refine ⟨fun x hx hF => use ?_, fun ⟨b, hb⟩ hOS => use (hOS s c1' ⟨[], rfl, fun x hx => (by cases hx), by simp, by omega⟩ (fun z => by omega))⟩
                rw [hx]
                by_cases h20 : 20 ∈ s
                · exact hC.2.2.2.2.2.2.1 s (.inr x) u1 c1' (Or.inl rfl) (Or.inl rfl) h20 (by omega) hF
                · refine hC.2.2.2.2.2.2.2.1 s (.inr x) u1 c1' (Or.inl rfl) (Or.inl rfl) h20 (by omega) ?_ (hC.2.2.2.2.2.2.2.2 x _ _ hF)
                  have : ∀ (s : List Nat) (c : List Int32), (cls 0 s c).2.length ≤ c.length + s.length := by
                    intro s
                    induction s with
                    | nil => intro c; exact Nat.le_refl _
                    | cons y s ihs =>
                      intro c
                      show (if y = 20 ∨ tg y < 0 then (y :: s, c) else cls 0 s (c ++ [opc y])).2.length ≤ _
                      split
                      · simp
                      · have := ihs (c ++ [opc y]); rw [List.length_append] at this; simp at this ⊢; omega
                  have := this s c1'
                  omega
              | false =>
                rw [if_pos (by decide)]
                refine x_blm (f := 2) (by omega) c3 (fun M4 q4 c4 => ?_)
                refine x_adv (t3.qa q4) hO c4 (fun M5 q5 c5 => ?_)
                refine hK (blm T L 2 σ1) u1 c1' M5 ((q03.trans q4.g).trans q5.g) c5 ?_ (fun ⟨b, z⟩ => by cases z) ((f3.qa ht q4).qa ht q5)
                intro U O F E hC s hs hn9
                have hsl := cmp_len hs (by omega) hdep
                refine ⟨fun x hx hF => ?_, fun ⟨b, z⟩ => by cases z⟩
                refine hC.2.1 s (.inl a) u c h40 hu30 (by rw [hs.2.1]; omega) (by omega) ?_
                have S3 := S3 U O F E hC (20 :: s) (cmp_br hs) (fun z => by omega)
                cases σ1 with
                | inr y => exact S3.1 x hx hF
                | inl b =>
                  obtain ⟨mo3, g31, g32, g33, g34, g35, e, g36, g37, g38⟩ := g3 ⟨b, rfl⟩
                  refine S3.2 ⟨b, rfl⟩ (fun l c0 hN hr => ?_)
                  obtain ⟨p, p1, p2, p3, p4⟩ := hN
                  have hx : blP T L 2 (.inl b) = x := by have := hx; unfold blm at this; exact Sum.inr.inj this
                  refine hC.2.2.2.2.2.2.1 l (.inl b) u1 c0 (Or.inl h41) ?_ (by rw [p1]; simp) p4 (by rw [hx]; exact hF)
                  by_cases h0 : sgn T L (.inl b) = 0
                  · exact Or.inl h0
                  · right
                    have hrt := g35 h0
                    have hge := tg_ge (sgn T L (.inl b))
                    have e1 : tl 0 = 1 := rfl
                    have h4 : tg (sgn T L (.inl b)) = 4 := by omega
                    exact ⟨h4, hr (by omega) h0 h4⟩
            · rw [if_pos rfl]
              refine hK (blm T L 2 (.inl a)) u c M2 (q1.trans q2.g) c2 ?_ (fun ⟨b, z⟩ => by cases z) ((G1.qa ht q2).fs (by omega))
              intro U O F E hC s hs hn9
              have hsl := cmp_len hs (by omega) hdep
              refine ⟨fun x hx hF => ?_, fun ⟨b, z⟩ => by cases z⟩
              refine hC.2.2.2.1 s (.inl a) u c (Or.inr (Or.inl ⟨h40, Or.inr (by rw [hs.2.1]; omega)⟩)) hu (by omega) ?_
              rw [show blP T L 2 (.inl a) = x from Sum.inr.inj hx]; exact hF
          | false =>
            rw [if_pos (by decide)]
            -- a number, or something given
            have leaf : ∀ (op : Int32) (M2 : Mem) (σ2 : Rdg), QA M1 M2 → CS M2 L T σ2 → (∀ x, lf T L (.inl a) = some x → op = x ∧ σ2 = .inl a) → (lf T L (.inl a) = none → σ2 = blm T L 2 (.inl a)) → RV (d + 2 * n + 11) μX6_readUnit 115 [(0, .ref 1), (1, .int (nI dep)), (2, .int op)] [] M2 K := by
              intro op M2 σ2 q2 c2 hs1 hs2
              refine sg_X6_readUnit_115 ⟨t, q2.into i1, hk, ?_⟩
              have G2 := G1.qa ht q2
              cases hl : lf T L (.inl a) with
              | some x =>
                obtain ⟨e1, e2⟩ := hs1 x hl
                subst e1 e2
                have ok := lf_ok hl
                refine x_put ht G2 (by omega) (fun M3 q3 e3 el3 G3 => ?_)
                refine x_adv (((hT.qg ht q1).qa q2).qg ht q3) hO (c2.keep e3 el3) (fun M4 q4 c4 => ?_)
                refine hK (nxt T L (.inl a)) (u + 1) (c ++ [op]) M4 (((q1.trans q2.g).trans q3).trans q4.g) c4 ?_ (fun _ => ⟨Mo_nxt T L _, G3.qa ht q4, by omega, by omega, by rw [List.length_append]; show c.length + 1 + 1 + dep + 9 * u ≤ _; omega, fun _ => Or.inr (Or.inr rfl), [op], rfl, Ex_mono (Ex_leaf ok.1) (by omega), fun x hx => by rw [show x = op by simpa using hx]; exact ok.2.1⟩) ((G3.qa ht q4).fs (by rw [List.length_append]; show c.length + 1 ≤ 270; omega))
                intro U O F E hC s hs hn9
                have hsl := cmp_len hs (by omega) hdep
                have use : O s (nxt T L (.inl a)) (u + 1) (c ++ [op]) → U s (.inl a) u c := fun hOs => hC.1 s (.inl a) u c op hl hu30 (by omega) (by omega) hOs
                refine ⟨fun x hx hF => use ?_, fun ⟨b, hb⟩ hOS => use (hOS s (c ++ [op]) ⟨[], rfl, fun x hx => (by cases hx), by simp, by omega⟩ (fun z => by omega))⟩
                rw [hx]
                by_cases h20 : 20 ∈ s
                · exact hC.2.2.2.2.2.2.1 s (.inr x) (u + 1) _ (Or.inl rfl) (Or.inl rfl) h20 (by omega) hF
                · refine hC.2.2.2.2.2.2.2.1 s (.inr x) (u + 1) _ (Or.inl rfl) (Or.inl rfl) h20 (by omega) ?_ (hC.2.2.2.2.2.2.2.2 x _ _ hF)
                  have : ∀ (s : List Nat) (c : List Int32), (cls 0 s c).2.length ≤ c.length + s.length := by
                    intro s
                    induction s with
                    | nil => intro c; exact Nat.le_refl _
                    | cons y s ihs =>
                      intro c
                      show (if y = 20 ∨ tg y < 0 then (y :: s, c) else cls 0 s (c ++ [opc y])).2.length ≤ _
                      split
                      · simp
                      · have := ihs (c ++ [opc y]); rw [List.length_append] at this; simp at this ⊢; omega
                  have := this s (c ++ [op])
                  rw [List.length_append] at this
                  have e1 : [op].length = 1 := rfl
                  omega
              | none =>
                have e2 := hs2 hl
                subst e2
                refine x_putF ht (by omega : c.length ≤ 270) G2.1 (fun M3 q3 e3 el3 f3 => ?_)
                refine x_adv (((hT.qg ht q1).qa q2).qg ht q3) hO (c2.keep e3 el3) (fun M4 q4 c4 => ?_)
                refine hK (blm T L 2 (.inl a)) u c M4 (((q1.trans q2.g).trans q3).trans q4.g) c4 ?_ (fun ⟨b, z⟩ => by cases z) (Fs.qa ht f3 q4)
                intro U O F E hC s hs hn9
                have hsl := cmp_len hs (by omega) hdep
                refine ⟨fun x hx hF => ?_, fun ⟨b, z⟩ => by cases z⟩
                refine hC.2.2.2.1 s (.inl a) u c (Or.inr (Or.inr ⟨fun q => ?_, h40, Or.inl hl⟩)) hu (by omega) ?_
                · have := hn9 (by omega) q.1; omega
                · rw [show blP T L 2 (.inl a) = x from Sum.inr.inj hx]; exact hF
            have hk1 := c1.k1
            by_cases h2 : isK T L 2 (.inl a) = true
            · have hl : lf T L (.inl a) = some (nI (sN T L (.inl a))) := by unfold lf; rw [if_pos h2]
              have ok := lf_ok hl
              rw [if_pos (hk1.2.1.mpr h2), hk1.2.2.2 h2, if_neg ok.2.2.1]
              exact leaf _ M1 _ QA.rf c1 (fun x hx => by rw [hl] at hx; cases hx; exact ⟨rfl, rfl⟩) (fun z => by rw [hl] at z; cases z)
            · rw [if_neg (fun q => h2 (hk1.2.1.mp q))]
              refine x_given c1 (Bool.eq_false_iff.mpr h2) ?_
              cases hl : lf T L (.inl a) with
              | some x =>
                have ok := lf_ok hl
                rw [if_neg (show ¬ (some x).getD (-6) = -6 from ok.2.2.1)]
                exact leaf x M1 _ QA.rf c1 (fun y hy => by rw [hl] at hy; cases hy; exact ⟨rfl, rfl⟩) (fun z => by rw [hl] at z; cases z)
              | none =>
                rw [if_pos (show (none : Option Int32).getD (-6) = -6 from rfl)]
                exact x_blm (f := 2) (by omega) c1 (fun M2 q2 c2 => leaf _ M2 _ q2 c2 (fun y hy => by rw [hl] at hy; cases hy) (fun _ => rfl))
        · rw [if_neg (by rw [show (30 : Int32) = nI 30 from rfl, nI_ltI (by omega) (by omega)]; exact hu30)]
          refine x_blm (f := 2) (by omega) h (fun M2 q2 c2 => ?_)
          refine hK (blm T L 2 (.inl a)) u c M2 q2.g c2 ?_ (fun ⟨b, z⟩ => by cases z) ((hG.qa ht q2).fs (by omega))
          intro U O F E hC s hs hn9
          have hsl := cmp_len hs (by omega) hdep
          refine ⟨fun x hx hF => ?_, fun ⟨b, z⟩ => by cases z⟩
          refine hC.2.2.2.1 s (.inl a) u c ?_ hu (by omega) (by rw [show blP T L 2 (.inl a) = x from Sum.inr.inj hx]; exact hF)
          cases h40 : isK T L 40 (.inl a) with
          | true => exact Or.inr (Or.inl ⟨rfl, Or.inl (by omega)⟩)
          | false => exact Or.inr (Or.inr ⟨fun q => by have := hn9 (by omega) q.1; omega, rfl, Or.inr (by omega)⟩)
      · rw [if_neg (show ¬ nI lev = 5 from fun q => h5 (nI_inj (b := 5) (by omega) (by omega) q))]
        -- the parts of the next level, with signs between them
        have at72 : (3 ≤ lev ∨ isO T L 9 (.inl a) = false ∨ lev < 2) → RV (d + 2 * n + 12) μX6_readPart 72 [(0, .ref 1), (1, .int (nI lev)), (2, .int (nI dep))] [] M K := by
          intro hnot
          refine sg_X6_readPart_72 ?_
          rw [nI_1]
          refine RV.deeper (d := d + 2 * (n - 1) + 12) (by omega) (ih (n - 1) (by omega) (lev + 1) dep (by omega) (by omega) hdep (.inl a) u c M _ h3 hT h hG hu hc (fun σ0 u0 c0 M0 q0 cs0 S0 g0 f0 => ?_))
          have loop : ∀ (f i most kk : Nat) (σk : Rdg) (uk : Nat) (ck : List Int32) (Mk : Mem), f + i = most → (lev = 2 ∧ most = 1 ∨ lev ≠ 2 ∧ most = 30) → (kk = lev + 1 ∧ (lev = 2 → f = 1) ∨ kk = lev ∧ (lev = 2 → f = 0)) → (lev = 2 → f = 1 → kk = 3) → QG t M Mk → CS Mk L T σk → Fs t Mk → ((∃ b, σk = .inl b) → Mo (.inl a) σk ∧ GC Mk t uk ck ∧ u + i + 1 ≤ uk ∧ uk ≤ 30 ∧ ck.length + 1 + dep + 9 * u ≤ c.length + 9 * uk ∧ Rt T L (lev + 1) σk ∧ ∃ e, ck = c ++ e ∧ Ex e (uk - u) ∧ ∀ x ∈ e, -16 ≤ x.toInt) → (∀ (U O : List Nat → Rdg → Nat → List Int32 → Prop) (F : Nat × Nat → Prop) (E : Rdg → Nat → List Int32 → Prop), Cl T L U O F E → ∀ s, cmp lev dep s → (3 ≤ lev → isO T L 9 (.inl a) = true → 4 ≤ topt s) → (∀ x, σk = .inr x → F x → U s (.inl a) u c) ∧ ((∃ b, σk = .inl b) → OSm T L O kk s σk uk ck → U s (.inl a) u c)) → RV (d + 2 * n + 12) μX6_readPart 95 [(0, .ref 1), (1, .int (nI lev)), (2, .int (nI dep)), (3, .int (nI most)), (4, .int (nI i))] [] Mk K := by
            intro f
            induction f with
            | zero =>
              intro i most kk σk uk ck Mk hf hmost hkk hk3 qk csk fk gk Sk
              refine sg_X6_readPart_95 ?_
              rw [if_pos (by rw [nI_leI (by omega) (by omega)]; omega)]
              refine hK σk uk ck Mk qk csk ?_ (fun hb => ?_) fk
              · intro U O F E hC s hs hn9
                have S := Sk U O F E hC s hs hn9
                refine ⟨S.1, fun hb hOS => ?_⟩
                obtain ⟨mok, g1, g2, g3, -⟩ := gk hb
                rcases hmost with ⟨h2, hm⟩ | ⟨h2, hm⟩
                · rcases hkk with ⟨hkk, hz⟩ | ⟨hkk, _⟩
                  · have := hz h2; omega
                  · rw [hkk] at S; exact S.2 hb hOS
                · omega
              · obtain ⟨mok, g1, g2, g3, g4, g5, g6⟩ := gk hb
                rcases hmost with ⟨h2, hm⟩ | ⟨h2, hm⟩
                · exact ⟨mok, g1, by omega, g3, g4, Rt_up (by omega) g5 (fun _ => Or.inr h2), g6⟩
                · omega
            | succ f ihf =>
              intro i most kk σk uk ck Mk hf hmost hkk hk3 qk csk fk gk Sk
              refine sg_X6_readPart_95 ?_
              rw [if_neg (by rw [nI_leI (by omega) (by omega)]; omega)]
              have tk := hT.qg ht qk
              have ik := qk.into ht h3
              refine x_opHere (by omega) csk ?_
              unfold ovK
              by_cases hop : sgn T L σk ≠ 0 ∧ tg (sgn T L σk) = tl lev
              · rw [if_pos hop]
                obtain ⟨b, hb⟩ : ∃ b, σk = .inl b := by
                  cases σk with
                  | inl b => exact ⟨b, rfl⟩
                  | inr x => exact absurd rfl hop.1
                obtain ⟨hok, h21⟩ := sgn_ok hop.1
                have hoc := opc_op hok h21
                obtain ⟨mok, g1, g2, g3, g4, g5, e, g6, g7, g8⟩ := gk ⟨b, hb⟩
                rw [if_neg hoc.2.2, nI_1, nI_1]
                refine x_adv tk hO csk (fun M2 q2 c2 => ?_)
                refine RV.deeper (d := d + 2 * (n - 1) + 12) (by omega) (ih (n - 1) (by omega) (lev + 1) dep (by omega) (by omega) hdep (nxt T L σk) uk ck M2 _ (q2.into ik) (tk.qa q2) c2 (g1.qa ht q2) g3 (by omega) (fun σ2 u2 c2' M3 q3 c3 S3 g3' f3 => ?_))
                have q03 : QG t M M3 := (qk.trans q2.g).trans q3
                refine ⟨t, q03.into ht h3, hk, ?_⟩
                have simNext : ∀ (c3' : List Int32), ((∃ b, σ2 = .inl b) → c3' = c2' ++ [opc (sgn T L σk)]) → (∀ (U O : List Nat → Rdg → Nat → List Int32 → Prop) (F : Nat × Nat → Prop) (E : Rdg → Nat → List Int32 → Prop), Cl T L U O F E → ∀ s, cmp lev dep s → (3 ≤ lev → isO T L 9 (.inl a) = true → 4 ≤ topt s) → (∀ x, σ2 = .inr x → F x → U s (.inl a) u c) ∧ ((∃ b, σ2 = .inl b) → OSm T L O lev s σ2 u2 c3' → U s (.inl a) u c)) := by
                  intro c3' hc3 U O F E hC s hs hn9
                  have S := Sk U O F E hC s hs hn9
                  have hst : cmp (lev + 1) dep (sgn T L σk :: s) := cmp_op (by omega) hs hok h21 hop.2
                  have S2 := S3 U O F E hC (sgn T L σk :: s) hst (fun h3l _ => by
                    show 4 ≤ (if sgn T L σk = 20 then 0 else tg (sgn T L σk))
                    rw [if_neg (by unfold okO at hok; omega), hop.2]
                    have hlv : lev = 2 ∨ lev = 3 ∨ lev = 4 := by omega
                    rcases hlv with rfl | rfl | rfl <;> decide)
                  have step : U (sgn T L σk :: s) (nxt T L σk) uk ck → U s (.inl a) u c := by
                    intro hU
                    refine S.2 ⟨b, hb⟩ (fun l c0 hN _ => ?_)
                    refine op_step hC (by omega) hs hop.1 hop.2 ?_ ?_ (by omega) hN hU
                    · rcases hkk with ⟨q, _⟩ | ⟨q, q2⟩
                      · rw [q]; exact (bl_le (by omega)).2.2.2.2
                      · rw [q]; exact Nat.le_of_eq ((bl_le (by omega)).2.2.2.1 (fun z => by have := q2 z; omega)).symm
                    · intro h2
                      have : kk = 3 := by
                        rcases hmost with ⟨_, hm⟩ | ⟨z, _⟩
                        · exact hk3 h2 (by omega)
                        · exact absurd h2 z
                      rw [this]; decide
                  refine ⟨fun x hx hF => step (S2.1 x hx hF), fun hb2 hOS => step (S2.2 hb2 (fun l c0 hN hr => ?_))⟩
                  rw [hc3 hb2] at hOS
                  have hb1 := bl_le (lev := lev) (by omega)
                  refine hOS l c0 (NT.op hb1.1 hok (by rw [hop.2]; exact hb1.2.1) hN) (fun hl2 h0 h4 => ?_)
                  by_cases hl1 : lev + 1 ≤ 2
                  · exact hr hl1 h0 h4
                  · have hlev2 : lev = 2 := by omega
                    obtain ⟨p, p1, p2, p3, p4⟩ := hN
                    subst hlev2
                    rw [p1, hrel_app p (fun x hx => ⟨(p2 x hx).1, (p2 x hx).2.1⟩)]
                    exact hrel_rel (by unfold okO at hok; omega) hop.2
                cases hs2 : σ2 with
                | inr x =>
                  obtain ⟨m, hm1, hm2⟩ := f3
                  refine x_putF ht hm1 hm2 (fun M4 q4 e4 el4 f4 => ?_)
                  refine ihf (i + 1) most lev (.inr x) u2 c2' M4 (by omega) hmost (Or.inr ⟨rfl, fun z => ?_⟩) (fun z1 z2 => ?_) (q03.trans q4) (by rw [hs2] at c3; exact c3.keep e4 el4) f4 (fun ⟨b, z⟩ => by cases z) (by rw [← hs2]; exact simNext c2' (fun ⟨b, z⟩ => by rw [hs2] at z; cases z))
                  · rcases hmost with ⟨_, hm⟩ | ⟨zz, _⟩
                    · omega
                    · exact absurd z zz
                  · rcases hmost with ⟨_, hm⟩ | ⟨zz, _⟩
                    · omega
                    · exact absurd z1 zz
                | inl b2 =>
                  obtain ⟨mo2, k1, k2, k3, k4, k5, e2, k6, k7, k8⟩ := g3' ⟨b2, hs2⟩
                  refine x_put ht k1 (by omega) (fun M4 q4 e4 el4 G4 => ?_)
                  have l4 : (c2' ++ [opc (sgn T L σk)]).length = c2'.length + 1 := by rw [List.length_append]; rfl
                  refine ihf (i + 1) most lev (.inl b2) u2 (c2' ++ [opc (sgn T L σk)]) M4 (by omega) hmost (Or.inr ⟨rfl, fun z => ?_⟩) (fun z1 z2 => ?_) (q03.trans q4) (by rw [hs2] at c3; exact c3.keep e4 el4) (G4.fs (by omega)) (fun _ => ⟨by rw [hs2] at mo2; exact (mok.trans (Mo_nxt T L _)).trans mo2, G4, by omega, k3, by omega, by rw [← hs2]; exact k5, e ++ e2 ++ [opc (sgn T L σk)], by rw [k6, g6]; simp, ?_, ?_⟩) (by rw [← hs2]; exact simNext _ (fun _ => rfl))
                  · rcases hmost with ⟨_, hm⟩ | ⟨zz, _⟩
                    · omega
                    · exact absurd z zz
                  · rcases hmost with ⟨_, hm⟩ | ⟨zz, _⟩
                    · omega
                    · exact absurd z1 zz
                  · exact Ex_mono (Ex_op g7 k7 (by omega) hoc.1) (by omega)
                  · intro x hx
                    rcases List.mem_append.mp hx with q | q
                    · rcases List.mem_append.mp q with q | q
                      · exact g8 x q
                      · exact k8 x q
                    · rw [show x = opc (sgn T L σk) by simpa using q]; exact hoc.2.1
              · rw [if_neg hop, if_pos rfl]
                refine hK σk uk ck Mk qk csk ?_ (fun hb => ?_) fk
                · intro U O F E hC s hs hn9
                  have S := Sk U O F E hC s hs hn9
                  refine ⟨S.1, fun hb hOS => S.2 hb ?_⟩
                  rcases hkk with ⟨q, _⟩ | ⟨q, _⟩
                  · intro l c0 hN hr
                    rw [q] at hN hr
                    refine hOS l c0 (NT.up (by omega) hN) (fun hl2 h0 h4 => ?_)
                    by_cases hl1 : lev + 1 ≤ 2
                    · exact hr hl1 h0 h4
                    · have : lev = 2 := by omega
                      subst this
                      exact absurd ⟨h0, h4⟩ hop
                  · rw [q]; exact hOS
                · obtain ⟨mok, g1, g2, g3, g4, g5, g6⟩ := gk hb
                  exact ⟨mok, g1, by omega, g3, g4, Rt_up (by omega) g5 (fun h0 => Or.inl (fun z => hop ⟨h0, z⟩)), g6⟩
          have start : ∀ most, (lev = 2 ∧ most = 1 ∨ lev ≠ 2 ∧ most = 30) → RV (d + 2 * n + 12) μX6_readPart 95 [(0, .ref 1), (1, .int (nI lev)), (2, .int (nI dep)), (3, .int (nI most)), (4, .int (nI 0))] [] M0 K := by
            intro most hm
            refine loop most 0 most (lev + 1) σ0 u0 c0 M0 (by omega) hm (Or.inl ⟨rfl, fun z => by omega⟩) (fun z _ => by omega) q0 cs0 f0 (fun hb => ?_) ?_
            · obtain ⟨mo0, g1, g2, g3, g4, g5, g6⟩ := g0 hb
              exact ⟨mo0, g1, by omega, g3, g4, g5, g6⟩
            · intro U O F E hC s hs hn9
              exact S0 U O F E hC s (cmp_up (by omega) hs) (fun h3l h9 => by
                by_cases hl3 : 3 ≤ lev
                · exact hn9 hl3 h9
                · rcases hnot with q | q | q
                  · exact absurd q hl3
                  · rw [q] at h9; cases h9
                  · omega)
          by_cases h2 : lev = 2
          · rw [if_pos (by rw [h2]; rfl)]
            exact start 1 (Or.inl ⟨h2, rfl⟩)
          · rw [if_neg (show ¬ nI lev = 2 from fun q => h2 (nI_inj (b := 2) (by omega) (by omega) q))]
            exact start 30 (Or.inr ⟨h2, rfl⟩)
        by_cases h2 : lev = 2
        · subst h2
          rw [if_pos (by rfl)]
          refine x_isWord (w := 9) (by omega) h ?_
          cases h9 : isO T L 9 (.inl a) with
          | false => rw [if_pos (by decide)]; exact at72 (Or.inr (Or.inl h9))
          | true =>
            rw [if_neg (by decide)]
            refine x_mayNest hdep h (fun hd7 => ?_) (fun hd7 M2 q2 c2 => ?_)
            · rw [if_neg (by decide), nI_1]
              refine x_adv hT hO h (fun M2 q2 c2 => ?_)
              refine RV.deeper (d := d + 2 * (n - 6) + 12) (by omega) (ih (n - 6) (by omega) 2 (dep + 1) (by omega) (by omega) (by omega) (nxt T L (.inl a)) u c M2 _ (q2.into h3) (hT.qa q2) c2 (hG.qa ht q2) hu hc (fun σ1 u1 c1' M3 q3 c3 S3 g3 f3 => ?_))
              have q03 : QG t M M3 := q2.g.trans q3
              refine ⟨t, q03.into ht h3, hk, ?_⟩
              have sim : ∀ c'', ((∃ b, σ1 = .inl b) → c'' = c1' ++ [-6]) → Sim T L 2 dep (.inl a) u c σ1 u1 c'' := by
                intro c'' hc'' U O F E hC s hs hn9
                have hsl := cmp_len hs (by omega) hdep
                have hst : topt s ≤ 3 := hs.1
                have S := S3 U O F E hC (21 :: s) (cmp_not hs) (fun z => by omega)
                have use : U (21 :: s) (nxt T L (.inl a)) u c → U s (.inl a) u c := fun hU => hC.2.2.1 s (.inl a) u c h9 (by omega) (by rw [hs.2.1]; omega) (by omega) hU
                refine ⟨fun x hx hF => use (S.1 x hx hF), fun hb hOS => use (S.2 hb (fun l c0 hN hr => ?_))⟩
                rw [hc'' hb] at hOS
                exact hOS l c0 (NT.op (lev := 2) (k := 2) (g := 21) (Nat.le_refl _) (Or.inl rfl) (by decide) hN) hr
              cases hs1 : σ1 with
              | inr x =>
                obtain ⟨m, hm1, hm2⟩ := f3
                refine x_putF ht hm1 hm2 (fun M4 q4 e4 el4 f4 => ?_)
                rw [hs1] at c3
                exact hK (.inr x) u1 c1' M4 (q03.trans q4) (c3.keep e4 el4) (by rw [← hs1]; exact sim c1' (fun ⟨b, z⟩ => by rw [hs1] at z; cases z)) (fun ⟨b, z⟩ => by cases z) f4
              | inl b1 =>
                obtain ⟨mo3, g1, g2, g3, g4, g5, e, g6, g7, g8⟩ := g3 ⟨b1, hs1⟩
                refine x_put ht g1 (by omega) (fun M4 q4 e4 el4 G4 => ?_)
                have l4 : (c1' ++ [(-6 : Int32)]).length = c1'.length + 1 := by rw [List.length_append]; rfl
                rw [hs1] at c3
                refine hK (.inl b1) u1 (c1' ++ [-6]) M4 (q03.trans q4) (c3.keep e4 el4) (by rw [← hs1]; exact sim _ (fun _ => rfl)) (fun _ => ⟨by rw [hs1] at mo3; exact (Mo_nxt T L _).trans mo3, G4, g2, g3, by omega, by rw [← hs1]; exact g5, e ++ [-6], by rw [g6]; simp, Ex_not g7, fun x hx => ?_⟩) (G4.fs (by omega))
                rcases List.mem_append.mp hx with q | q
                · exact g8 x q
                · rw [show x = -6 by simpa using q]; decide
            · rw [if_pos rfl]
              refine hK (blm T L 2 (.inl a)) u c M2 q2.g c2 ?_ (fun ⟨b, z⟩ => by cases z) ((hG.qa ht q2).fs (by omega))
              intro U O F E hC s hs hn9
              have hsl := cmp_len hs (by omega) hdep
              have hst : topt s ≤ 3 := hs.1
              refine ⟨fun x hx hF => ?_, fun ⟨b, z⟩ => by cases z⟩
              refine hC.2.2.2.1 s (.inl a) u c (Or.inl ⟨h9, by omega, by rw [hs.2.1]; omega⟩) hu (by omega) ?_
              rw [show blP T L 2 (.inl a) = x from Sum.inr.inj hx]; exact hF
        · rw [if_neg (show ¬ nI lev = 2 from fun q => h2 (nI_inj (b := 2) (by omega) (by omega) q))]
          exact at72 (by omega)
