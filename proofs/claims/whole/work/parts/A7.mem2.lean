/-! what is seen: the class's questions -/
theorem nar_b (b : Bool) : vp_nar .boolean (bI b) = bI b := by cases b <;> decide +kernel
def cntS (w : Sight) (k : Int32) : Bool := decide (w.2.2.2.1 ≤ k) && (decide (w.2.2.2.2 = -1) || decide (k < w.2.2.2.2))
def okS (sd : Nat → Nat) (w : Sight) (k : Int32) : Bool := !cntS w k || (decide (w.2.1 ≤ sd w.1) == w.2.2.1)
/-- do the sights from i on fit the sides sd -/
def agF (sd : Nat → Nat) (W : Nat → Sight) (k : Int32) : Nat → Nat → Bool
  | 0, _ => true
  | r + 1, i => okS sd (W i) k && agF sd W k r (i + 1)
def fit (F : List Int32) (st : Nat) (S1 : Sh) (c : Nat) (W : Nat → Sight) (k : Int32) (v : Nat) : Bool := agF (sdV F st S1 v) W k c 0
def ctF (f : Nat → Bool) : Nat → Nat
  | 0 => 0
  | v + 1 => ctF f v + (f v).toNat
theorem ctF_le (f : Nat → Bool) : ∀ v, ctF f v ≤ v
  | 0 => Nat.le_refl _
  | v + 1 => by
    have := ctF_le f v
    have := toNat_le (f v)
    show ctF f v + (f v).toNat ≤ v + 1
    omega
theorem x_agrees {d v c : Nat} {M : Mem} {K : Int32 → Mem → Prop} {W : Nat → Sight} {k : Int32} {sd : Nat → Nat} (hv : v < 31) (hW : WOk c W) (hM : MX M c W) (hsd : ∀ s, s < 13 → ri M 54 (13 * v + s) = nI (sd s)) (hle : ∀ s, sd s ≤ 7) (hK : K (bI (agF sd W k c 0)) M) : CI d μX4_agreesWithAll [.ref 48, .int (nI v), .int k] M K := by
  have hc := hW.1
  refine sg_X4_agreesWithAll_0 ?_
  have loop : ∀ (r i : Nat), r + i = c → K (bI (agF sd W k r i)) M → RI d μX4_agreesWithAll 2 [(0, .ref 48), (1, .int (nI v)), (2, .int k), (3, .int (nI i))] [] M K := by
    intro r
    induction r with
    | zero =>
      intro i hi hk
      refine sg_X4_agreesWithAll_2 ?_
      rw [hM.1, if_pos (by rw [nI_leI (by omega) (by omega)]; omega)]
      exact hk
    | succ r ih =>
      intro i hi hk
      have hk : K (bI (okS sd (W i) k && agF sd W k r (i + 1))) M := hk
      obtain ⟨m1, m2, m3, m4, m5⟩ := hM.2 i (by omega)
      obtain ⟨w1, w2, w3⟩ := hW.2 i (by omega)
      have e1 : nx (nI i) = i := nI_clamp (by omega)
      have vin : vp_in (nI i) 30 := n_in (by omega) (by decide)
      -- what comes of it
      have fin : ∀ b : Bool, b = cntS (W i) k → RI d μX4_agreesWithAll 45 [(0, .ref 48), (1, .int (nI v)), (2, .int k), (3, .int (nI i))] [.int (bI b)] M K := by
        intro b hb
        refine sg_X4_agreesWithAll_45 ?_
        rw [e1, m1, m2, n_13, show nx (nI (13 * v + (W i).1)) = 13 * v + (W i).1 from nI_clamp (by omega), hsd _ w1]
        refine ⟨vin, n_in (by omega) (by decide), vin, ?_⟩
        have hl := hle (W i).1
        have last : ∀ h : Bool, h = decide ((W i).2.1 ≤ sd (W i).1) → RI d μX4_agreesWithAll 77 [(0, .ref 48), (1, .int (nI v)), (2, .int k), (3, .int (nI i)), (4, .int (bI b))] [.int (bI h)] M K := by
          intro h hh
          refine sg_X4_agreesWithAll_77 ?_
          rw [nI_1, e1, m3]
          unfold okS at hk
          rw [← hb, ← hh] at hk
          cases b with
          | false => rw [if_pos (by decide)]; exact ih (i + 1) (by omega) hk
          | true =>
            rw [if_neg (by decide)]
            refine ⟨vin, ?_⟩
            cases h <;> cases hq : (W i).2.2.1 <;> rw [hq] at hk
            · rw [if_pos rfl]; exact ih (i + 1) (by omega) hk
            · rw [if_neg (by decide)]; exact hk
            · rw [if_neg (by decide)]; exact hk
            · rw [if_pos rfl]; exact ih (i + 1) (by omega) hk
        by_cases hlt : sd (W i).1 < (W i).2.1
        · rw [if_pos (by rw [nI_ltI (by omega) (by omega)]; exact hlt)]
          exact last false (by rw [decide_eq_false (by omega)])
        · rw [if_neg (by rw [nI_ltI (by omega) (by omega)]; exact hlt)]
          exact last true (by rw [decide_eq_true (by omega)])
      refine sg_X4_agreesWithAll_2 ?_
      rw [hM.1, if_neg (by rw [nI_leI (by omega) (by omega)]; omega), e1, m4, m5]
      refine ⟨vin, ?_⟩
      by_cases ht : k < (W i).2.2.2.1
      · rw [if_pos ht]
        exact fin false (by unfold cntS; rw [decide_eq_false (i_nle.mpr ht)]; rfl)
      · rw [if_neg ht]
        refine ⟨vin, ?_⟩
        by_cases hu : (W i).2.2.2.2 = -1
        · rw [if_pos hu]
          exact fin true (by unfold cntS; rw [decide_eq_true (i_nlt.mp ht), decide_eq_true hu]; rfl)
        · rw [if_neg hu]
          refine ⟨vin, ?_⟩
          by_cases hu2 : (W i).2.2.2.2 ≤ k
          · rw [if_pos hu2]
            exact fin false (by unfold cntS; rw [decide_eq_false hu, decide_eq_false (i_nlt.mpr hu2)]; simp)
          · rw [if_neg hu2]
            exact fin true (by unfold cntS; rw [decide_eq_true (i_nlt.mp ht), decide_eq_true (i_nle.mp hu2)]; simp)
  exact loop c 0 (by omega) hK
theorem MX.keepF {M M' : Mem} {c : Nat} {W : Nat → Sight} (h : MX M c W) (q : QF M M') : MX M' c W := by
  refine ⟨by rw [q.1 48 0 rfl (by omega) (by omega) (by omega)]; exact h.1, fun i hi => ?_⟩
  rw [q.1 49 i rfl (by omega) (by omega) (by omega), q.1 50 i rfl (by omega) (by omega) (by omega), q.1 51 i rfl (by omega) (by omega) (by omega), q.1 52 i rfl (by omega) (by omega) (by omega), q.1 53 i rfl (by omega) (by omega) (by omega)]
  exact h.2 i hi
/-- the class's row of the sizes that fit -/
def FtX (M : Mem) (f : Nat → Bool) : Prop := ∀ v, v < 31 → ri M 55 v = bI (f v)
theorem x_findFits {d t c : Nat} {M : Mem} {K : Int32 → Mem → Prop} {F : List Int32} {st : Nat} {S S1 : Sh} {W : Nat → Sight} {k : Int32} (hX : CX M t F st S S1) (hG : GS S1) (hA : ATh S1) (hC : Cch M F st S1) (hW : WOk c W) (hM : MX M c W) (h0 : sn S1 = 0 → K 0 M) (hK : sn S1 ≠ 0 → ∀ M', QF M M' → ri M' 48 7 = 1 → (∀ v s, v < 31 → s < 13 → ri M' 54 (13 * v + s) = nI (sdV F st S1 v s)) → FtX M' (fit F st S1 c W k) → K (nI (ctF (fit F st S1 c W k) 31)) M') : CI (d + 6) μX4_findFits [.ref 48, .int k, .ref t, .ref 33] M K := by
  have hk := tell_kd hX.2.1
  have h8 := hG.1.1
  refine sg_X4_findFits_0 hk.1 (by decide +kernel) ?_
  rw [hX.2.2.2.2.1.1.1]
  by_cases hz : sn S1 = 0
  · rw [if_pos (by rw [hz]; rfl)]; exact h0 hz
  · rw [if_neg (fun q => hz ((n_z (by omega)).mp q))]
    refine x_findSides hX hG hA hz hC (fun M1 q1 e7 e54 => ?_)
    have hK := hK hz
    have loop : ∀ (r v : Nat) (M2 : Mem), r + v = 31 → QF M M2 → ri M2 48 7 = 1 → (∀ v s, v < 31 → s < 13 → ri M2 54 (13 * v + s) = nI (sdV F st S1 v s)) → (∀ u, u < v → ri M2 55 u = bI (fit F st S1 c W k u)) → RI (d + 6) μX4_findFits 24 [(0, .ref 48), (1, .int k), (2, .ref t), (3, .ref 33), (4, .int (nI (ctF (fit F st S1 c W k) v))), (5, .int (nI v))] [] M2 K := by
      intro r
      induction r with
      | zero =>
        intro v M2 hv q2 e7 e54 e55
        have hv : v = 31 := by omega
        subst hv
        refine sg_X4_findFits_24 hk.1 (by decide +kernel) ?_
        rw [if_pos (by decide)]
        exact hK M2 q2 e7 e54 e55
      | succ r ih =>
        intro v M2 hv q2 e7 e54 e55
        refine sg_X4_findFits_24 hk.1 (by decide +kernel) ?_
        rw [if_neg (by rw [show (31 : Int32) = nI 31 from rfl, nI_leI (by omega) (by omega)]; omega)]
        refine x_agrees (sd := sdV F st S1 v) (by omega) hW (hM.keepF q2) (fun s hs => e54 v s (by omega) hs) (fun s => sdV_le hG hA hz (by omega) s) ?_
        show vp_in (nI v) 31 ∧ ∀ M3, M3 = wi M2 55 (nx (nI v)) (vp_nar .boolean (bI (fit F st S1 c W k v))) → _
        rw [nar_b, show nx (nI v) = v from nI_clamp (by omega)]
        refine ⟨n_in (by omega) (by decide), fun M3 h3 => ?_⟩
        have r3 : ∀ k' j, ri M3 k' j = if k' = 55 ∧ j = v then bI (fit F st S1 c W k v) else ri M2 k' j := by intro k' j; rw [h3, ri_wi]
        have go := ih (v + 1) M3 (by omega) (q2.trans (show QF M2 M3 by rw [h3]; exact (Q.wi rfl).f)) (by rw [r3, if_neg (by omega)]; exact e7) (fun v s hv hs => by rw [r3, if_neg (by omega)]; exact e54 v s hv hs) (fun u hu => by
          rw [r3]
          by_cases huv : u = v
          · rw [if_pos ⟨rfl, huv⟩, huv]
          · rw [if_neg (fun z => huv z.2)]; exact e55 u (by omega))
        have ec : ctF (fit F st S1 c W k) (v + 1) = ctF (fit F st S1 c W k) v + (fit F st S1 c W k v).toNat := rfl
        rw [ec] at go
        have e55v : ri M3 55 v = bI (fit F st S1 c W k v) := by rw [r3, if_pos ⟨rfl, rfl⟩]
        rw [e55v]
        refine ⟨n_in (by omega) (by decide), ?_⟩
        rw [show nI v + 1 = nI (v + 1) by rw [nI_1]]
        cases hf : fit F st S1 c W k v with
        | false => rw [if_pos (by decide)]; rw [hf] at go; exact go
        | true =>
          rw [if_neg (by decide), nI_1]
          rw [hf] at go
          exact go
    exact loop 31 0 M1 rfl q1 e7 e54 (fun u hu => absurd hu (Nat.not_lt_zero _))
/-- the least and the greatest that fit -/
def lsF (f : Nat → Bool) : Nat → Nat → Int32
  | 0, _ => -1
  | r + 1, v => if f v = true then nI v else lsF f r (v + 1)
def gsF (f : Nat → Bool) : Nat → Int32
  | 0 => -1
  | v + 1 => if f v = true then nI v else gsF f v
theorem x_least {d : Nat} {M : Mem} {K : Int32 → Mem → Prop} {f : Nat → Bool} (hf : FtX M f) (hK : K (lsF f 31 0) M) : CI d μX4_leastFit [.ref 48] M K := by
  refine sg_X4_leastFit_0 ?_
  have loop : ∀ (r v : Nat), r + v = 31 → K (lsF f r v) M → RI d μX4_leastFit 2 [(0, .ref 48), (1, .int (nI v))] [] M K := by
    intro r
    induction r with
    | zero =>
      intro v hv hk
      refine sg_X4_leastFit_2 ?_
      rw [if_pos (by rw [show (31 : Int32) = nI 31 from rfl, nI_leI (by omega) (by omega)]; omega)]
      exact hk
    | succ r ih =>
      intro v hv hk
      refine sg_X4_leastFit_2 ?_
      rw [if_neg (by rw [show (31 : Int32) = nI 31 from rfl, nI_leI (by omega) (by omega)]; omega), show nx (nI v) = v from nI_clamp (by omega), hf v (by omega), nI_1]
      refine ⟨n_in (by omega) (by decide), ?_⟩
      unfold lsF at hk
      cases hq : f v with
      | false => rw [if_pos (by decide)]; rw [hq, if_neg (by decide)] at hk; exact ih (v + 1) (by omega) hk
      | true => rw [if_neg (by decide)]; rw [hq, if_pos rfl] at hk; exact hk
  exact loop 31 0 rfl hK
theorem x_greatest {d : Nat} {M : Mem} {K : Int32 → Mem → Prop} {f : Nat → Bool} (hf : FtX M f) (hK : K (gsF f 31) M) : CI d μX4_greatestFit [.ref 48] M K := by
  refine sg_X4_greatestFit_0 ?_
  have loop : ∀ (v : Nat), v ≤ 31 → K (gsF f v) M → RI d μX4_greatestFit 3 [(0, .ref 48), (1, .int (nI v + (-1)))] [] M K := by
    intro v
    induction v with
    | zero =>
      intro _ hk
      refine sg_X4_greatestFit_3 ?_
      rw [if_pos (by decide)]
      exact hk
    | succ v ih =>
      intro hv hk
      rw [nI_prd]
      refine sg_X4_greatestFit_3 ?_
      rw [if_neg (i_nlt.mpr (by rw [show (0 : Int32) = nI 0 from rfl, nI_leI (by omega) (by omega)]; omega)), show nx (nI v) = v from nI_clamp (by omega), hf v (by omega)]
      refine ⟨n_in (by omega) (by decide), ?_⟩
      unfold gsF at hk
      cases hq : f v with
      | false => rw [if_pos (by decide)]; rw [hq, if_neg (by decide)] at hk; exact ih (by omega) hk
      | true => rw [if_neg (by decide)]; rw [hq, if_pos rfl] at hk; exact hk
  have := loop 31 (Nat.le_refl _) hK
  rw [nI_prd] at this
  exact this
/-- how many sizes fit of the same sides, the most: t the tally so far -/
def mlF (f : Nat → Bool) (g : Nat → Nat) : Nat → Nat → (Nat → Nat) → Nat → Nat
  | 0, _, _, m => m
  | r + 1, v, t, m => if f v = true then mlF f g r (v + 1) (fun x => if x = g v then t x + 1 else t x) (if m < t (g v) + 1 then t (g v) + 1 else m) else mlF f g r (v + 1) t m
theorem x_mostLeft {d s : Nat} {M : Mem} {K : Int32 → Mem → Prop} {f : Nat → Bool} {sd : Nat → Nat → Nat} (hf : FtX M f) (hs : s < 13) (h54 : ∀ v s, v < 31 → s < 13 → ri M 54 (13 * v + s) = nI (sd v s)) (hle : ∀ v s, v < 31 → sd v s ≤ 7) (hK : ∀ M', (∀ k j, k ≠ 56 → ri M' k j = ri M k j) → (∀ k j, rl M' k j = rl M k j) → K (nI (mlF f (fun v => sd v s) 31 0 (fun _ => 0) 0)) M') : CI (d + 1) μX4_mostLeftBehind [.ref 48, .int (nI s)] M K := by
  refine sg_X4_mostLeftBehind_0 ?_
  have main : ∀ (r v m : Nat) (t : Nat → Nat) (M1 : Mem), r + v = 31 → m ≤ v → (∀ x, t x ≤ v) → (∀ k j, k ≠ 56 → ri M1 k j = ri M k j) → (∀ k j, rl M1 k j = rl M k j) → (∀ x, x < 9 → ri M1 56 x = nI (t x)) → (∀ M', (∀ k j, k ≠ 56 → ri M' k j = ri M k j) → (∀ k j, rl M' k j = rl M k j) → K (nI (mlF f (fun v => sd v s) r v t m)) M') → RI (d + 1) μX4_mostLeftBehind 25 [(0, .ref 48), (1, .int (nI s)), (2, .int (nI m)), (3, .int (nI v))] [] M1 K := by
    intro r
    induction r with
    | zero =>
      intro v m t M1 hv hm ht e1 e2 e56 hk
      refine sg_X4_mostLeftBehind_25 ?_
      rw [if_pos (by rw [show (31 : Int32) = nI 31 from rfl, nI_leI (by omega) (by omega)]; omega)]
      exact hk M1 e1 e2
    | succ r ih =>
      intro v m t M1 hv hm ht e1 e2 e56 hk
      have hl := hle v s (by omega)
      have htv := ht (sd v s)
      refine sg_X4_mostLeftBehind_25 ?_
      rw [if_neg (by rw [show (31 : Int32) = nI 31 from rfl, nI_leI (by omega) (by omega)]; omega), n_13, show nx (nI v) = v from nI_clamp (by omega), show nx (nI (13 * v + s)) = 13 * v + s from nI_clamp (by omega), e1 55 v (by omega), e1 54 _ (by omega), hf v (by omega), h54 v s (by omega) hs, show nx (nI (sd v s)) = sd v s from nI_clamp (by omega), e56 _ (by omega)]
      rw [show nI v + 1 = nI (v + 1) by rw [nI_1], show nI (t (sd v s)) + 1 = nI (t (sd v s) + 1) by rw [nI_1]]
      refine ⟨n_in (by omega) (by decide), n_in (by omega) (by decide), ?_⟩
      unfold mlF at hk
      cases hq : f v with
      | false =>
        rw [if_pos (by decide)]
        rw [hq, if_neg (by decide)] at hk
        exact ih (v + 1) m t M1 (by omega) (by omega) (fun x => Nat.le_succ_of_le (ht x)) e1 e2 e56 hk
      | true =>
        rw [if_neg (by decide)]
        rw [hq, if_pos rfl] at hk
        rw [if_neg (by rw [show (9 : Int32) = nI 9 from rfl, nI_leI (by omega) (by omega)]; omega)]
        refine ⟨n_in (by omega) (by decide), n_in (by omega) (by decide), fun M2 h2 => ⟨n_in (by omega) (by decide), ?_⟩⟩
        have r2 : ∀ k' j, ri M2 k' j = if k' = 56 ∧ j = sd v s then nI (t (sd v s) + 1) else ri M1 k' j := by intro k' j; rw [h2, ri_wi]
        have e56v : ri M2 56 (sd v s) = nI (t (sd v s) + 1) := by rw [r2, if_pos ⟨rfl, rfl⟩]
        rw [e56v]
        have em : (if nI m < nI (t (sd v s) + 1) then nI (t (sd v s) + 1) else nI m) = nI (if m < t (sd v s) + 1 then t (sd v s) + 1 else m) := by
          by_cases hc : m < t (sd v s) + 1
          · rw [if_pos hc, if_pos (by rw [nI_ltI (by omega) (by omega)]; exact hc)]
          · rw [if_neg hc, if_neg (by rw [nI_ltI (by omega) (by omega)]; exact hc)]
        rw [em]
        refine ih (v + 1) _ _ M2 (by omega) (by split <;> omega) (fun x => ?_) (fun k j hk' => by rw [r2, if_neg (fun z => hk' z.1)]; exact e1 k j hk') (fun k j => by rw [h2]; exact e2 k j) (fun x hx => ?_) hk
        · have := ht x
          show (if x = sd v s then t x + 1 else t x) ≤ v + 1
          split <;> omega
        · rw [r2]
          by_cases hxs : x = sd v s
          · rw [if_pos ⟨rfl, hxs⟩, if_pos hxs, hxs]
          · rw [if_neg (fun z => hxs z.2), if_neg hxs]; exact e56 x hx
  have zero : ∀ (r x : Nat) (M1 : Mem), r + x = 9 → (∀ k j, k ≠ 56 → ri M1 k j = ri M k j) → (∀ k j, rl M1 k j = rl M k j) → (∀ y, y < x → ri M1 56 y = 0) → RI (d + 1) μX4_mostLeftBehind 2 [(0, .ref 48), (1, .int (nI s)), (2, .int (nI x))] [] M1 K := by
    intro r
    induction r with
    | zero =>
      intro x M1 hx e1 e2 e56
      have hx : x = 9 := by omega
      subst hx
      refine sg_X4_mostLeftBehind_2 ?_
      rw [if_pos (by decide)]
      exact main 31 0 0 (fun _ => 0) M1 rfl (by omega) (fun _ => Nat.le_refl _) e1 e2 (fun x hx => e56 x hx) hK
    | succ r ih =>
      intro x M1 hx e1 e2 e56
      refine sg_X4_mostLeftBehind_2 ?_
      rw [if_neg (by rw [show (9 : Int32) = nI 9 from rfl, nI_leI (by omega) (by omega)]; omega), show nx (nI x) = x from nI_clamp (by omega), nI_1]
      refine ⟨n_in (by omega) (by decide), fun M2 h2 => ?_⟩
      have r2 : ∀ k' j, ri M2 k' j = if k' = 56 ∧ j = x then 0 else ri M1 k' j := by intro k' j; rw [h2, ri_wi]
      refine ih (x + 1) M2 (by omega) (fun k j hk' => by rw [r2, if_neg (fun z => hk' z.1)]; exact e1 k j hk') (fun k j => by rw [h2]; exact e2 k j) (fun y hy => ?_)
      rw [r2]
      by_cases hyx : y = x
      · rw [if_pos ⟨rfl, hyx⟩]
      · rw [if_neg (fun z => hyx z.2)]; exact e56 y (by omega)
  exact zero 9 0 M rfl (fun _ _ _ => rfl) (fun _ _ => rfl) (fun y hy => absurd hy (Nat.not_lt_zero _))
