/-! the forms in which methods are spoken of: with an int for an answer (RI), with none (RV) -/
def RI (d : Nat) (μ : Mt) (pc : Nat) (lv : List (Nat × Value)) (st : List Value) (M : Mem) (K : Int32 → Mem → Prop) : Prop := Rn d μ pc lv st M (fun v M1 => ∃ r, v = some (.int r) ∧ K r M1)
def RV (d : Nat) (μ : Mt) (pc : Nat) (lv : List (Nat × Value)) (st : List Value) (M : Mem) (K : Mem → Prop) : Prop := Rn d μ pc lv st M (fun v M1 => v = none ∧ K M1)
/-- a whole method -/
abbrev CI (d : Nat) (μ : Mt) (av : List Value) (M : Mem) (K : Int32 → Mem → Prop) : Prop := RI d μ 0 (lv_args 0 av) [] M K
abbrev CV (d : Nat) (μ : Mt) (av : List Value) (M : Mem) (K : Mem → Prop) : Prop := RV d μ 0 (lv_args 0 av) [] M K
theorem RI.mono {d : Nat} {μ : Mt} {pc : Nat} {lv : List (Nat × Value)} {st : List Value} {M : Mem} {K K' : Int32 → Mem → Prop} (h : RI d μ pc lv st M K) (hK : ∀ r M1, K r M1 → K' r M1) : RI d μ pc lv st M K' :=
  Rn.mono h (fun _ M1 ⟨r, hr, hk⟩ => ⟨r, hr, hK r M1 hk⟩)
theorem RV.mono {d : Nat} {μ : Mt} {pc : Nat} {lv : List (Nat × Value)} {st : List Value} {M : Mem} {K K' : Mem → Prop} (h : RV d μ pc lv st M K) (hK : ∀ M1, K M1 → K' M1) : RV d μ pc lv st M K' :=
  Rn.mono h (fun _ M1 ⟨hr, hk⟩ => ⟨hr, hK M1 hk⟩)
theorem RI.deeper {d d' : Nat} {μ : Mt} {pc : Nat} {lv : List (Nat × Value)} {st : List Value} {M : Mem} {K : Int32 → Mem → Prop} (hd : d ≤ d') (h : RI d μ pc lv st M K) : RI d' μ pc lv st M K := Rn.deeper hd h
theorem RV.deeper {d d' : Nat} {μ : Mt} {pc : Nat} {lv : List (Nat × Value)} {st : List Value} {M : Mem} {K : Mem → Prop} (hd : d ≤ d') (h : RV d μ pc lv st M K) : RV d' μ pc lv st M K := Rn.deeper hd h
theorem ite_go {c : Prop} {i : Decidable c} {A B T1 T2 : Prop} (h : if c then T1 else T2) (h1 : c → T1 → A) (h2 : ¬ c → T2 → B) : if c then A else B := by
  by_cases hc : c
  · rw [if_pos hc] at h ⊢; exact h1 hc h
  · rw [if_neg hc] at h ⊢; exact h2 hc h
/-- a field is read: what is needed of the class and the link -/
def GF (own : String) (idx ci j : Nat) : Prop := ∃ (C : String) (T : u_T) (N : Nat), classes[ci]? = some (C, T, N) ∧ (∀ w ∈ u_ws C T N, w ∈ gtb) ∧ nf ci = N ∧ j < N ∧ Cond.fieldLink own idx C (T j).2.1 (T j).2.2.1 ∈ gtb ∧ (T j).1 = C
section Heads
variable {d : Nat} {μ μ' : Mt} {pc : Nat} {lv : List (Nat × Value)} {st : List Value} {M : Mem} {Q : Option Value → Mem → Prop}
theorem rn_geti {idx ci j k : Nat} (hd : decode μ.2.1 pc = .ok (.getfield idx, 3)) (hk : kd k = (0, ci)) (hf : GF μ.1.cls idx ci j) (hfk : fk ci j = 0 ∨ fk ci j = 4) (h : Rn d μ (pc + 3) lv (.int (ri M k j) :: st) M Q) : Rn d μ pc lv (.ref k :: st) M Q := by
  obtain ⟨C, T, N, hc, hin, hN, hj, hl, hC⟩ := hf
  refine rn_get hd hk hc hin hN hj hl hC ?_ h
  unfold fva; rcases hfk with q | q <;> rw [q] <;> rfl
theorem rn_getl {idx ci j k : Nat} (hd : decode μ.2.1 pc = .ok (.getfield idx, 3)) (hk : kd k = (0, ci)) (hf : GF μ.1.cls idx ci j) (hfk : fk ci j = 1) (h : Rn d μ (pc + 3) lv (.long (rl M k j) :: st) M Q) : Rn d μ pc lv (.ref k :: st) M Q := by
  obtain ⟨C, T, N, hc, hin, hN, hj, hl, hC⟩ := hf
  refine rn_get hd hk hc hin hN hj hl hC ?_ h
  unfold fva; rw [hfk]; rfl
theorem rn_getr {idx ci j k t : Nat} (hd : decode μ.2.1 pc = .ok (.getfield idx, 3)) (hk : kd k = (0, ci)) (hf : GF μ.1.cls idx ci j) (hfk : fk ci j = 2) (ht : rfo k j = t) (h : Rn d μ (pc + 3) lv (.ref t :: st) M Q) : Rn d μ pc lv (.ref k :: st) M Q := by
  obtain ⟨C, T, N, hc, hin, hN, hj, hl, hC⟩ := hf
  refine rn_get hd hk hc hin hN hj hl hC ?_ h
  unfold fva; rw [hfk]; simp only [ht]
theorem rn_getd {idx ci j k t : Nat} (hd : decode μ.2.1 pc = .ok (.getfield idx, 3)) (hk : kd k = (0, ci)) (hf : GF μ.1.cls idx ci j) (hfk : fk ci j = 3) (ht : (ri M k j).toNatClampNeg = t) (h : Rn d μ (pc + 3) lv (.ref t :: st) M Q) : Rn d μ pc lv (.ref k :: st) M Q := by
  obtain ⟨C, T, N, hc, hin, hN, hj, hl, hC⟩ := hf
  refine rn_get hd hk hc hin hN hj hl hC ?_ h
  unfold fva; rw [hfk]; simp only [ht]
/-- an instance method: what a call needs -/
def IM (μ : Mt) : Prop := Cond.instanceMethod μ.1 ∈ gtb ∧ Cond.selects μ.1.cls μ.1 μ.1 ∈ gtb
theorem rn_callVi {idx n o ci : Nat} {C : String} {T : u_T} {N : Nat} {as : List Value} {st0 : List Value} (hd : decode μ.2.1 pc = .ok (.invokevirtual idx, 3)) (hF : MF μ' n) (hl : Cond.methodLink μ.1.cls idx μ'.1 ∈ gtb) (hi : IM μ') (hk : kd o = (0, ci)) (hc : classes[ci]? = some (C, T, N)) (hC : C = μ'.1.cls) (hn : as.length = n) (hlen : (lg_sl (.ref o :: as)).length ≤ μ'.2.2.1) (hs : (st.map fun v => v.category).sum ≤ 8) (hst : st0 = as.reverse ++ .ref o :: st)
    (h : CI d μ' (.ref o :: as) M (fun r M' => Rn (d + 1) μ (pc + 3) lv (.int r :: st) M' Q)) : Rn (d + 1) μ pc lv st0 M Q :=
  rn_callV hd hF hl hi.1 hi.2 hk hc hC hn hlen hs hst (Rn.mono h (fun v M' ⟨r, hr, hk⟩ => by subst hr; exact hk))
theorem rn_callVv {idx n o ci : Nat} {C : String} {T : u_T} {N : Nat} {as : List Value} {st0 : List Value} (hd : decode μ.2.1 pc = .ok (.invokevirtual idx, 3)) (hF : MF μ' n) (hl : Cond.methodLink μ.1.cls idx μ'.1 ∈ gtb) (hi : IM μ') (hk : kd o = (0, ci)) (hc : classes[ci]? = some (C, T, N)) (hC : C = μ'.1.cls) (hn : as.length = n) (hlen : (lg_sl (.ref o :: as)).length ≤ μ'.2.2.1) (hs : (st.map fun v => v.category).sum ≤ 8) (hst : st0 = as.reverse ++ .ref o :: st)
    (h : CV d μ' (.ref o :: as) M (fun M' => Rn (d + 1) μ (pc + 3) lv st M' Q)) : Rn (d + 1) μ pc lv st0 M Q :=
  rn_callV hd hF hl hi.1 hi.2 hk hc hC hn hlen hs hst (Rn.mono h (fun v M' ⟨hr, hk⟩ => by subst hr; exact hk))
theorem rn_callSi {idx n : Nat} {as : List Value} {st0 : List Value} (hd : decode μ.2.1 pc = .ok (.invokestatic idx, 3)) (hF : MF μ' n) (hl : Cond.methodLink μ.1.cls idx μ'.1 ∈ gtb) (hi : Cond.static μ'.1 ∈ gtb) (hn : as.length = n) (hlen : (lg_sl as).length ≤ μ'.2.2.1) (hs : (st.map fun v => v.category).sum ≤ 8) (hst : st0 = as.reverse ++ st)
    (h : CI d μ' as M (fun r M' => Rn (d + 1) μ (pc + 3) lv (.int r :: st) M' Q)) : Rn (d + 1) μ pc lv st0 M Q :=
  rn_callS hd hF hl hi hn hlen hs hst (Rn.mono h (fun v M' ⟨r, hr, hk⟩ => by subst hr; exact hk))
theorem rn_callSNi {idx n : Nat} {host : String} {as : List Value} {st0 : List Value} (hd : decode μ.2.1 pc = .ok (.invokestatic idx, 3)) (hF : MF μ' n) (hl : ∀ b0 ad s, OX b0 ad s → va_Nw (.methodLinkNest μ.1.cls idx μ'.1 host) s) (hi : Cond.static μ'.1 ∈ gtb) (hn : as.length = n) (hlen : (lg_sl as).length ≤ μ'.2.2.1) (hs : (st.map fun v => v.category).sum ≤ 8) (hst : st0 = as.reverse ++ st)
    (h : CI d μ' as M (fun r M' => Rn (d + 1) μ (pc + 3) lv (.int r :: st) M' Q)) : Rn (d + 1) μ pc lv st0 M Q :=
  rn_callSN hd hF hl hi hn hlen hs hst (Rn.mono h (fun v M' ⟨r, hr, hk⟩ => by subst hr; exact hk))
end Heads
/-! where the references of the objects of several places lead -/
theorem kd_class (c : Nat) (P : Nat → Prop) (h : ∀ k, k < NC → kd k = (0, c) → P k) : ∀ k, kd k = (0, c) → P k := fun k hk => h k (kd_lt hk (by decide)) hk
theorem froth_refs : ∀ o, kd o = (0, 2) → (rfo o 5 = o + 1 ∧ kd (o + 1) = (1, 8)) ∧ (rfo o 6 = o + 2 ∧ kd (o + 2) = (1, 12)) ∧ (rfo o 7 = o + 3 ∧ kd (o + 3) = (1, 8)) ∧ (rfo o 8 = o + 4 ∧ kd (o + 4) = (1, 8)) ∧ (rfo o 9 = o + 5 ∧ kd (o + 5) = (1, 8)) := kd_class 2 _ (by decide +kernel)
theorem formula_refs : ∀ o, kd o = (0, 1) → (rfo o 0 = o + 1 ∧ kd (o + 1) = (1, 270)) ∧ (rfo o 1 = o + 2 ∧ kd (o + 2) = (1, 31)) ∧ (rfo o 2 = o + 3 ∧ kd (o + 3) = (1, 6)) := kd_class 1 _ (by decide +kernel)
theorem telling_refs : ∀ o, kd o = (0, 7) → (rfo o 0 = o + 1 ∧ kd (o + 1) = (0, 2)) ∧ (rfo o 1 = o + 7 ∧ kd (o + 7) = (0, 1)) ∧ (rfo o 2 = o + 11 ∧ kd (o + 11) = (2, 8)) := kd_class 7 _ (by decide +kernel)
