/-! the lines of a text but for grows: pure, and the class -/
abbrev Pd : Type := List (List Nat) × Sh × Nat × Option Nat × Option Nat × Option (List Int32 × Nat)
def pN (P : Pd) : List (List Nat) := P.1
def pS (P : Pd) : Sh := P.2.1
def pL (P : Pd) : Nat := P.2.2.1
def pT (P : Pd) : Option Nat := P.2.2.2.1
def pD (P : Pd) : Option Nat := P.2.2.2.2.1
def pG (P : Pd) : Option (List Int32 × Nat) := P.2.2.2.2.2
def GO (g : Option (List Int32 × Nat)) : Prop := ∀ F u, g = some (F, u) → WfF F ∧ F ≠ [] ∧ F.length ≤ 270 ∧ (∀ x ∈ F, -16 ≤ x.toInt ∧ ¬ (-6 < x.toInt ∧ x.toInt < -5)) ∧ u ≤ 30
def PO (P : Pd) : Prop := GS (pS P) ∧ AllT (pS P) ∧ sn (pS P) = (pN P).length ∧ NLd (pN P) ∧ (∀ l ∈ pN P, WO l) ∧ pL P ≤ 12 ∧ (∀ v, pT P = some v → v ≤ 100) ∧ (∀ v, pD P = some v → v ≤ 999) ∧ sd (pS P) = (pD P).getD 0 ∧ sy (pS P) = 0 ∧ GO (pG P)
section Pure
variable (T : Nat → Nat) (L : Nat)
def stS (P : Pd) (σ : Rdg) : Rdg := if (pT P).isSome = true then blm T L 2 σ else tsS T L 59 (tnS T L 100 (nxt T L σ))
def stP (P : Pd) (σ : Rdg) : Pd := (pN P, pS P, pL P, some (tnV T L 100 (nxt T L σ)), pD P, pG P)
def drS (P : Pd) (σ : Rdg) : Rdg := if (pD P).isSome = true then blm T L 2 σ else tsS T L 59 (tnS T L 999 (nxt T L σ))
def drP (P : Pd) (σ : Rdg) : Pd := (pN P, setD (pS P) (tnV T L 999 (nxt T L σ)), pL P, pT P, some (tnV T L 999 (nxt T L σ)), pG P)
def f1 (P : Pd) (σ : Rdg) : Rdg := lhS T L (pN P) (nxt T L σ)
def f2 (P : Pd) (σ : Rdg) : Rdg := lhS T L (pN P) (nxt T L (f1 T L P σ))
def fa (P : Pd) (σ : Rdg) : Option Nat := lhV T L (pN P) (nxt T L σ)
def fb (P : Pd) (σ : Rdg) : Option Nat := lhV T L (pN P) (nxt T L (f1 T L P σ))
def f3 (P : Pd) (σ : Rdg) : Rdg := if isK T L 1 (f2 T L P σ) = true then (if fe (pS P) ((fa T L P σ).getD 0) ((fb T L P σ).getD 0) = 0 then blm T L 3 (f2 T L P σ) else nxt T L (f2 T L P σ)) else f2 T L P σ
def flS (P : Pd) (σ : Rdg) : Rdg := if pL P < 12 then tsS T L 59 (f3 T L P σ) else blm T L 2 σ
def flP (P : Pd) (σ : Rdg) : Pd := (pN P, flipS (pS P) ((fa T L P σ).getD 0) ((fb T L P σ).getD 0), pL P + 1, pT P, pD P, pG P)
def nmS (NL : List (List Nat)) (σ : Rdg) : Rdg := if isN T L σ = true then (if fnd NL (sW T L σ) = none then nxt T L σ else blm T L 3 σ) else blm T L 2 σ
def l3 (P : Pd) (σ : Rdg) : Rdg := twS T L 5 (nmS T L (pN P) (nxt T L σ))
def l4 (P : Pd) (σ : Rdg) : Rdg := tnS T L 999 (l3 T L P σ)
def lv0 (P : Pd) (σ : Rdg) : Nat := tnV T L 999 (l3 T L P σ)
def k0 (σ : Rdg) : Rdg := twS T L 6 σ
def k1 (NL : List (List Nat)) (σ : Rdg) : Rdg := lhS T L NL (k0 T L σ)
def k2 (NL : List (List Nat)) (σ : Rdg) : Rdg := lhS T L NL (nxt T L (k1 T L NL σ))
def k3 (NL : List (List Nat)) (σ : Rdg) : Rdg := lhS T L NL (nxt T L (k2 T L NL σ))
def ka (NL : List (List Nat)) (σ : Rdg) : Nat := (lhV T L NL (k0 T L σ)).getD 0
def kb (NL : List (List Nat)) (σ : Rdg) : Nat := (lhV T L NL (nxt T L (k1 T L NL σ))).getD 0
def kc (NL : List (List Nat)) (σ : Rdg) : Nat := (lhV T L NL (nxt T L (k2 T L NL σ))).getD 0
def crM (NL : List (List Nat)) (σ : Rdg) : Nat := tri (ka T L NL σ) (kb T L NL σ) (kc T L NL σ)
def crS (NL : List (List Nat)) (S : Sh) (σ : Rdg) : Rdg := if isK T L 1 (k3 T L NL σ) = true then (if crM T L NL σ ∈ sc S then nxt T L (k3 T L NL σ) else blm T L 3 (k3 T L NL σ)) else k3 T L NL σ
def l5 (P : Pd) (σ : Rdg) : Rdg := if (pN P).length < 3 then l4 T L P σ else crS T L (pN P) (pS P) (l4 T L P σ)
def lm0 (P : Pd) (σ : Rdg) : Nat := if (pN P).length < 3 then 0 else crM T L (pN P) (l4 T L P σ)
def loS (P : Pd) (σ : Rdg) : Rdg := if (pN P).length < 8 then tsS T L 59 (l5 T L P σ) else blm T L 2 σ
def loP (P : Pd) (σ : Rdg) : Pd := (pN P ++ [sW T L (nxt T L σ)], bornS (pS P) (lv0 T L P σ) (lm0 T L P σ), pL P, pT P, pD P, pG P)
end Pure
/-! a fault stays -/
section Stay
variable {T : Nat → Nat} {L : Nat}
theorem nxt_r (x : Nat × Nat) : nxt T L (.inr x) = .inr x := rfl
theorem blm_r (f : Nat) (x : Nat × Nat) : blm T L f (.inr x) = .inr x := rfl
theorem twS_r (w : Nat) (x : Nat × Nat) : twS T L w (.inr x) = .inr x := rfl
theorem tsS_r (c : Nat) (x : Nat × Nat) : tsS T L c (.inr x) = .inr x := rfl
theorem tnS_r (m : Nat) (x : Nat × Nat) : tnS T L m (.inr x) = .inr x := rfl
theorem lhS_r (NL : List (List Nat)) (x : Nat × Nat) : lhS T L NL (.inr x) = .inr x := rfl
theorem nmS_r (NL : List (List Nat)) (x : Nat × Nat) : nmS T L NL (.inr x) = .inr x := rfl
/-- who is named: a word, and one of the names -/
theorem lh_in {NL : List (List Nat)} {σ : Rdg} {a : Nat} (h : lhS T L NL σ = .inl a) : σ = .inl a ∧ isK T L 1 σ = true ∧ ∃ k, lhV T L NL σ = some k ∧ k < NL.length := by
  unfold lhS at h
  split at h
  · rename_i hn
    split at h
    · cases h
    · rename_i hf
      have h1 : isK T L 1 σ = true := by unfold isN at hn; exact (Bool.and_eq_true _ _ ▸ hn).1
      cases hq : fnd NL (sW T L σ) with
      | none => exact absurd hq hf
      | some k => exact ⟨h, h1, k, by unfold lhV; rw [hn, if_pos rfl, hq], (fnd_some hq).1⟩
  · cases h
theorem lh_out {NL : List (List Nat)} {σ : Rdg} {x : Nat × Nat} (h : lhS T L NL σ = .inr x) : lhV T L NL σ = none ∨ σ = .inr x := by
  unfold lhS at h
  split at h
  · rename_i hn
    split at h
    · rename_i hf; left; unfold lhV; rw [hn, if_pos rfl, hf]
    · right; exact h
  · rename_i hn; left; unfold lhV; rw [if_neg hn]
theorem lh_in2 {NL : List (List Nat)} {σ : Rdg} {k : Nat} (h : lhV T L NL σ = some k) : lhS T L NL σ = σ ∧ ∃ a, σ = .inl a := by
  unfold lhV at h
  split at h
  · rename_i hn
    constructor
    · unfold lhS; rw [if_pos hn, if_neg (by rw [h]; intro z; cases z)]
    · cases σ with
      | inl a => exact ⟨a, rfl⟩
      | inr x => cases hn
  · cases h
end Stay
/-- the class: what is told so far, in the telling t -/
def DX (M : Mem) (t : Nat) (P : Pd) : Prop := (∀ k, k < (pN P).length → rl M (t + 11) k = lN (v32 ((pN P).getD k []))) ∧ Fr M (t + 1) (pS P) ∧ ri M t 4 = nI (pL P) ∧ ri M t 3 = nI ((pT P).getD 0) ∧ ri M t 6 = bI (pT P).isSome ∧ ri M t 7 = bI (pD P).isSome ∧ ri M t 5 = bI (pG P).isSome ∧ ri M (t + 7) 3 = nI ((pG P).getD ([], 0)).1.length ∧ ri M (t + 7) 4 = nI ((pG P).getD ([], 0)).2 ∧ ∀ i, i < ((pG P).getD ([], 0)).1.length → ri M (t + 8) i = (((pG P).getD ([], 0)).1)[i]?.getD 0
theorem DX.nx {M : Mem} {t : Nat} {P : Pd} (h : DX M t P) (hP : PO P) : NX M t (pN P) := ⟨by rw [h.2.1.1.1, hP.2.2.1], by have := hP.1.1.1; rw [hP.2.2.1] at this; exact this, h.1, hP.2.2.2.2.1⟩
theorem DX.keep {M M' : Mem} {t : Nat} {P : Pd} (h : DX M t P) (e : ∀ k j, t ≤ k → k ≤ t + 11 → ri M' k j = ri M k j) (el : ∀ j, rl M' (t + 11) j = rl M (t + 11) j) : DX M' t P := by
  obtain ⟨h1, h2, h3, h4, h5, h6, h7, h8, h9, h10⟩ := h
  exact ⟨fun k hk => by rw [el]; exact h1 k hk, h2.keepK (fun k hk j => e _ _ (by omega) (by omega)), by rw [e _ _ (by omega) (by omega)]; exact h3, by rw [e _ _ (by omega) (by omega)]; exact h4, by rw [e _ _ (by omega) (by omega)]; exact h5, by rw [e _ _ (by omega) (by omega)]; exact h6, by rw [e _ _ (by omega) (by omega)]; exact h7, by rw [e _ _ (by omega) (by omega)]; exact h8, by rw [e _ _ (by omega) (by omega)]; exact h9, fun i hi => by rw [e _ _ (by omega) (by omega)]; exact h10 i hi⟩
theorem DX.qa {M M' : Mem} {t : Nat} {P : Pd} (ht : t = 2 ∨ t = 15) (h : DX M t P) (q : QA M M') : DX M' t P := h.keep (fun k j _ _ => q.1 k j (by omega)) (fun j => q.2 _ j (by omega))
/-- all that the class's reading may write -/
def QR (t : Nat) (M M' : Mem) : Prop := (∀ k j, k ≠ 1 ∨ j = 2 ∨ j = 3 ∨ (j < 2 ∧ ri M' 1 0 = 0) → k < t ∨ t + 11 < k ∨ k = 1 → ri M' k j = ri M k j) ∧ ∀ k j, k ≠ 1 → k ≠ t + 11 → rl M' k j = rl M k j
theorem QR.rf {t : Nat} {M : Mem} : QR t M M := ⟨fun _ _ _ _ => rfl, fun _ _ _ _ => rfl⟩
theorem QR.trans {t : Nat} {M M' M'' : Mem} (h : QR t M M') (h2 : QR t M' M'') : QR t M M'' := by
  refine ⟨fun k j a b => ?_, fun k j a b => (h2.2 k j a b).trans (h.2 k j a b)⟩
  rcases a with a | a | a | ⟨a, c⟩
  · exact (h2.1 k j (Or.inl a) b).trans (h.1 k j (Or.inl a) b)
  · exact (h2.1 k j (Or.inr (Or.inl a)) b).trans (h.1 k j (Or.inr (Or.inl a)) b)
  · exact (h2.1 k j (Or.inr (Or.inr (Or.inl a))) b).trans (h.1 k j (Or.inr (Or.inr (Or.inl a))) b)
  · have c' : ri M' 1 0 = 0 := by rw [← h2.1 1 0 (Or.inr (Or.inr (Or.inr ⟨by omega, c⟩))) (by omega)]; exact c
    exact (h2.1 k j (Or.inr (Or.inr (Or.inr ⟨a, c⟩))) b).trans (h.1 k j (Or.inr (Or.inr (Or.inr ⟨a, c'⟩))) b)
theorem QA.r {t : Nat} {M M' : Mem} (h : QA M M') : QR t M M' := ⟨fun k j a _ => h.1 k j a, fun k j a _ => h.2 k j a⟩
theorem qr_w {t k j : Nat} {M : Mem} {x : Int32} (h1 : t ≤ k) (h2 : k ≤ t + 11) (h3 : 1 < k) : QR t M (wi M k j x) := ⟨fun a b _ hb => by rw [ri_wi, if_neg (by omega)], fun _ _ _ _ => rfl⟩
theorem Sm.r {t : Nat} {M M' : Mem} (ht : t = 2 ∨ t = 15) (h : Sm M M' (t + 1)) : QR t M M' := ⟨fun k j _ b => h.1 k (by omega) j, fun k j _ _ => h.2 k j⟩
theorem TX.qr {t : Nat} {M M' : Mem} {L : Nat} {T : Nat → Nat} (ht : t = 2 ∨ t = 15) (h : TX M L T) (q : QR t M M') : TX M' L T := ⟨by rw [q.1 1 2 (by omega) (by omega)]; exact h.1, fun i hi => by rw [q.1 14 i (by omega) (by omega)]; exact h.2 i hi⟩
theorem QR.into {t : Nat} {M M' : Mem} (ht : t = 2 ∨ t = 15) (q : QR t M M') (h : nx (ri M 1 3) = t) : nx (ri M' 1 3) = t := by rw [q.1 1 3 (by omega) (by omega)]; exact h
theorem QA.into {t : Nat} {M M' : Mem} (q : QA M M') (h : nx (ri M 1 3) = t) : nx (ri M' 1 3) = t := by rw [q.1 1 3 (by omega)]; exact h
theorem CS.wi {M : Mem} {L : Nat} {T : Nat → Nat} {σ : Rdg} (h : CS M L T σ) {k j : Nat} {x : Int32} (hk : k ≠ 1) : CS (wi M k j x) L T σ := h.keep (fun i => by rw [ri_wi, if_neg (fun q => hk q.1.symm)]) (fun _ => rfl)
theorem bI_t : bI true = 1 := rfl
theorem x_readStraw {d L t a : Nat} {T : Nat → Nat} {M : Mem} {K : Mem → Prop} {P : Pd} (ht : t = 2 ∨ t = 15) (h3 : nx (ri M 1 3) = t) (hT : TX M L T) (hO : TOk L T) (h : CS M L T (.inl a)) (hD : DX M t P) (hK : ∀ M', QR t M M' → CS M' L T (stS T L P (.inl a)) → ((∃ b, stS T L P (.inl a) = .inl b) → DX M' t (stP T L P (.inl a))) → K M') : CV (d + 9) μX6_readStraw [.ref 1] M K := by
  have hk := (tell_kd ht).1
  refine sg_X6_readStraw_0 ⟨t, h3, hk, ?_⟩
  rw [hD.2.2.2.2.1]
  unfold stS at hK
  cases hs : (pT P).isSome with
  | true =>
    rw [hs, if_pos rfl] at hK
    rw [if_neg (by decide)]
    exact x_blm (f := 2) (by omega) h (fun M' q c => hK M' q.r c (fun ⟨b, z⟩ => by cases z))
  | false =>
    rw [hs, if_neg (by decide)] at hK
    rw [if_pos (by decide)]
    refine ⟨t, h3, hk, fun M1 g1 => ?_⟩
    have q1 : QR t M M1 := by rw [g1]; exact qr_w (by omega) (by omega) (by omega)
    refine x_adv (hT.qr ht q1) hO (show CS M1 L T (.inl a) by rw [g1]; exact h.wi (by omega)) (fun M2 q2 c2 => ?_)
    have i2 := q2.into (q1.into ht h3)
    refine ⟨t, i2, hk, ?_⟩
    refine x_takeNum (most := 100) (by omega) ((hT.qr ht q1).qa q2) hO c2 (fun M3 q3 c3 => ?_)
    intro M4 g4
    have q4 : QR t M M4 := ((q1.trans q2.r).trans q3.r).trans (by rw [g4]; exact qr_w (by omega) (by omega) (by omega))
    refine x_takeSign (c := 59) (by omega) (hT.qr ht q4) hO (show CS M4 L T _ by rw [g4]; exact c3.wi (by omega)) (fun M5 q5 c5 => hK M5 (q4.trans q5.r) c5 (fun _ => ?_))
    have e : ∀ k j, t ≤ k → k ≤ t + 11 → ri M5 k j = if k = t ∧ j = 3 then nI (tnV T L 100 (nxt T L (.inl a))) else if k = t ∧ j = 6 then 1 else ri M k j := by
      intro k j k1 k2
      rw [q5.1 k j (by omega), g4, ri_wi, q3.1 k j (by omega), q2.1 k j (by omega), g1, ri_wi]
    have el : ∀ j, rl M5 (t + 11) j = rl M (t + 11) j := fun j => by rw [q5.2 _ j (by omega), g4, rl_wi, q3.2 _ j (by omega), q2.2 _ j (by omega), g1, rl_wi]
    obtain ⟨d1, d2, d3, d4, d5, d6, d7, d8, d9, d10⟩ := hD
    refine ⟨fun k hk => by rw [el]; exact d1 k hk, d2.keepK (fun k hk j => by rw [e _ _ (by omega) (by omega), if_neg (by omega), if_neg (by omega)]), ?_, ?_, ?_, ?_, ?_, ?_, ?_, fun i hi => ?_⟩
    · rw [e _ _ (by omega) (by omega), if_neg (by omega), if_neg (by omega)]; exact d3
    · rw [e _ _ (by omega) (by omega), if_pos ⟨rfl, rfl⟩]; rfl
    · rw [e _ _ (by omega) (by omega), if_neg (by omega), if_pos ⟨rfl, rfl⟩]; rfl
    · rw [e _ _ (by omega) (by omega), if_neg (by omega), if_neg (by omega)]; exact d6
    · rw [e _ _ (by omega) (by omega), if_neg (by omega), if_neg (by omega)]; exact d7
    · rw [e _ _ (by omega) (by omega), if_neg (by omega), if_neg (by omega)]; exact d8
    · rw [e _ _ (by omega) (by omega), if_neg (by omega), if_neg (by omega)]; exact d9
    · rw [e _ _ (by omega) (by omega), if_neg (by omega), if_neg (by omega)]; exact d10 i hi
theorem tnV_le (T : Nat → Nat) (L most : Nat) (σ : Rdg) : tnV T L most σ ≤ most := by
  unfold tnV; split
  · rename_i h; exact h.2
  · omega
theorem x_readDraw {d L t a : Nat} {T : Nat → Nat} {M : Mem} {K : Mem → Prop} {P : Pd} (ht : t = 2 ∨ t = 15) (h3 : nx (ri M 1 3) = t) (hT : TX M L T) (hO : TOk L T) (h : CS M L T (.inl a)) (hD : DX M t P) (hK : ∀ M', QR t M M' → CS M' L T (drS T L P (.inl a)) → ((∃ b, drS T L P (.inl a) = .inl b) → DX M' t (drP T L P (.inl a))) → K M') : CV (d + 9) μX6_readDraw [.ref 1] M K := by
  have hk := (tell_kd ht).1
  refine sg_X6_readDraw_0 ⟨t, h3, hk, ?_⟩
  rw [hD.2.2.2.2.2.1]
  unfold drS at hK
  cases hs : (pD P).isSome with
  | true =>
    rw [hs, if_pos rfl] at hK
    rw [if_neg (by decide)]
    exact x_blm (f := 2) (by omega) h (fun M' q c => hK M' q.r c (fun ⟨b, z⟩ => by cases z))
  | false =>
    rw [hs, if_neg (by decide)] at hK
    rw [if_pos (by decide)]
    refine ⟨t, h3, hk, fun M1 g1 => ?_⟩
    have q1 : QR t M M1 := by rw [g1]; exact qr_w (by omega) (by omega) (by omega)
    refine x_adv (hT.qr ht q1) hO (show CS M1 L T (.inl a) by rw [g1]; exact h.wi (by omega)) (fun M2 q2 c2 => ?_)
    have i2 := q2.into (q1.into ht h3)
    refine ⟨t, i2, hk, ?_⟩
    refine x_takeNum (most := 999) (by omega) ((hT.qr ht q1).qa q2) hO c2 (fun M3 q3 c3 => ?_)
    intro M4 g4
    have q4 : QR t M M4 := ((q1.trans q2.r).trans q3.r).trans (by rw [g4]; exact qr_w (by omega) (by omega) (by omega))
    refine x_takeSign (c := 59) (by omega) (hT.qr ht q4) hO (show CS M4 L T _ by rw [g4]; exact c3.wi (by omega)) (fun M5 q5 c5 => hK M5 (q4.trans q5.r) c5 (fun _ => ?_))
    have e : ∀ k j, t ≤ k → k ≤ t + 11 → ri M5 k j = if k = t + 1 ∧ j = 3 then nI (tnV T L 999 (nxt T L (.inl a))) else if k = t ∧ j = 7 then 1 else ri M k j := by
      intro k j k1 k2
      rw [q5.1 k j (by omega), g4, ri_wi, q3.1 k j (by omega), q2.1 k j (by omega), g1, ri_wi]
    have el : ∀ j, rl M5 (t + 11) j = rl M (t + 11) j := fun j => by rw [q5.2 _ j (by omega), g4, rl_wi, q3.2 _ j (by omega), q2.2 _ j (by omega), g1, rl_wi]
    obtain ⟨d1, d2, d3, d4, d5, d6, d7, d8, d9, d10⟩ := hD
    have f5 : Fr M5 (t + 1) (setD (pS P) (tnV T L 999 (nxt T L (.inl a)))) := by
      have hv := tnV_le T L 999 (nxt T L (.inl a))
      have f0 := d2.setD (v := tnV T L 999 (nxt T L (.inl a))) (by omega) (rfl : wi M (t + 1) 3 (nI (tnV T L 999 (nxt T L (.inl a)))) = _)
      refine f0.keepK (fun k hk j => ?_)
      rw [e _ _ (by omega) (by omega), ri_wi]
      by_cases hc : t + 1 + k = t + 1 ∧ j = 3
      · rw [if_pos hc, if_pos hc]
      · rw [if_neg hc, if_neg hc, if_neg (by omega)]
    refine ⟨fun k hk => by rw [el]; exact d1 k hk, f5, ?_, ?_, ?_, ?_, ?_, ?_, ?_, fun i hi => ?_⟩
    · rw [e _ _ (by omega) (by omega), if_neg (by omega), if_neg (by omega)]; exact d3
    · rw [e _ _ (by omega) (by omega), if_neg (by omega), if_neg (by omega)]; exact d4
    · rw [e _ _ (by omega) (by omega), if_neg (by omega), if_neg (by omega)]; exact d5
    · rw [e _ _ (by omega) (by omega), if_neg (by omega), if_pos ⟨rfl, rfl⟩]; rfl
    · rw [e _ _ (by omega) (by omega), if_neg (by omega), if_neg (by omega)]; exact d7
    · rw [e _ _ (by omega) (by omega), if_neg (by omega), if_neg (by omega)]; exact d8
    · rw [e _ _ (by omega) (by omega), if_neg (by omega), if_neg (by omega)]; exact d9
    · rw [e _ _ (by omega) (by omega), if_neg (by omega), if_neg (by omega)]; exact d10 i hi
