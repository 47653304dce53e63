/-! constructors: arrays, fields, calls -/
section Made2
variable {d : Nat} {μ μ' : Mt} {pc : Nat} {lv : List (Nat × Value)} {st : List Value} {n0 nm n : Nat} {pm : Pm} {Fin : Nat → List (Nat × Value) → List Value → Nat → Pm → Prop}
theorem rc_newa {aty : ArrayType} {ty : FieldType} {i N : Nat} {x : Int32} {a0 : vp_A} (hd : decode μ.2.1 pc = .ok (.newarray aty, 2)) (hty : newarray.typeOf aty = ty) (hwd : Cond.arrayClass (newarray.typeOf aty) ∈ gtb) (h0 : n0 ≤ n) (hn : n < nm) (hm : nm ≤ NC) (hsz : szc n = N) (hent : ∀ (ad : Nat → Nat) (cA : Nat → ClassId), entC ad cA pm n = .inl (cA i, a0)) (ha : ∀ c : ClassId, vp_cell c a0 = arrV c N (fun _ => defaultValue ty)) (hti : ∀ cA : Nat → ClassId, (tysA cA)[i]? = some (cA i, ty)) (hra : ∀ (s : State) (c1 c2 : ClassId), va_RA s c1 ty → va_RA s c2 ty → c1 = c2) (hx : ¬ x < 0) (hxN : x.toNatClampNeg = N) (hby : N * componentBytes ty ≤ 536870912) (hst : st.all (okv n) = true) (hlv : lv.all (fun q => okv n q.2) = true) (h : Rc d μ (pc + 2) lv (.ref n :: st) n0 nm (n + 1) pm Fin) : Rc d μ pc lv (.int x :: st) n0 nm n pm Fin := by
  intro b0 ad dC dI cA p l e R s m args below meth c Z hC hkk H locs ls hH hl
  have hT := hC.2.2.2.2.2.2.1
  have hR := hC.2.2.2.2.2.2.2.2.1
  have hK := hC.2.2.2.2.2.2.2.1.1
  obtain ⟨hW, hP, hD, hS⟩ := hH
  have e1 : n + 1 - n0 = n - n0 + 1 := by omega
  have e2 : SS (n + 1) - SS n0 = SS n - SS n0 + N := by
    have := SS_mono h0
    show SS n + szc n - SS n0 = _
    rw [hsz]; omega
  have m1 : SS (n + 1) ≤ SS nm := SS_mono (by omega)
  refine va_newa (cl := classes) hC.1 hC.2.1 (hT _ hwd) hty hK hP hD hS (fun q hq => Nat.le_trans hC.2.2.2.2.2.2.2.1.2.1 hq) ha hx hxN hby (by omega) (by omega) hd (fun q cA' H1 hK1 hP1 hD1 hS1 => ?_)
  have ec : cA' = cA i := hra s _ _ (hK1.2 4 (cA', ty) rfl).2 (hK.2 i _ (hti cA)).2
  subst ec
  have ag : Ag n ad (nad ad n q) := nad_ag (by omega)
  have ew : wsC (nad ad n q) cA (n + 1) pm = wsC ad cA n pm ++ [(q, .inl (cA i, a0))] := by
    rw [wsC_succ, wsC_ag ag hW, hent]
    congr 2
    congr 1
    exact if_pos rfl
  rw [← ew] at hP1 hD1
  have := h b0 (nad ad n q) dC dI cA p l e R s m args below meth c Z hC (fun ad' pc' lv' st' n' pm' H' locs' ls' a f hh hl' => hkk ad' pc' lv' st' n' pm' H' locs' ls' (ag.trans (Nat.le_succ n) a) f hh hl') H1 locs ls ⟨hW.up, hP1, hD1, hS1⟩ (by rw [lv_ag ag hlv]; exact hl)
  rw [e1, e2, List.map_cons, st_ag ag hst, cv_ref, show nad ad n q n = q from if_pos rfl] at this
  exact this
theorem ra_prim {s : State} {t : FieldType} (ht : ∀ C, t ≠ .object C) {c1 c2 : ClassId} (h1 : va_RA s c1 t) (h2 : va_RA s c2 t) : c1 = c2 := by
  cases t <;> first | exact absurd rfl (ht _) | exact Option.some.inj (h1.symm.trans h2)
/-- a field of a standing object is put, in a constructor -/
def PG (μ : Mt) (idx ci j : Nat) (ty : FieldType) : Prop := ∃ (C : String) (T : u_T) (N : Nat) (ty0 : Nat → FieldType), classes[ci]? = some (C, T, N) ∧ (∀ w ∈ u_ws C T N, w ∈ gtb) ∧ nf ci = N ∧ j < N ∧ Cond.fieldLink μ.1.cls idx C (T j).2.1 (T j).2.2.1 ∈ gtb ∧ (T j).1 = C ∧ (∀ k, k < N → parseFieldDescriptor (T k).2.2.1 = some (ty0 k)) ∧ (∀ a, a < N → ∀ b, b < N → a ≠ b → (T a).2.1 ≠ (T b).2.1) ∧ ((T j).2.2.2 = false ∨ ((T j).2.2.2 = true ∧ μ.1.name = "<init>" ∧ (T j).1 = μ.1.cls)) ∧ ty0 j = ty
theorem Wq.put {k j : Nat} {v : Value} (h : Wq n pm) (hk : k < n) (hv : okv n v = true) : Wq n (ps pm k j v) := by
  refine ⟨fun a b => ?_, fun a b ha => ?_⟩
  · unfold ps; split
    · exact hv
    · exact h.1 a b
  · unfold ps; rw [if_neg (by omega)]; exact h.2 a b ha
theorem wsC_set {ad : Nat → Nat} {cA : Nat → ClassId} {k j ci : Nat} {v : Value} (hk : kd k = (0, ci)) (hn : k < n) : (wsC ad cA n pm).set k (ad k, .inr (ci, ((List.range (nf ci)).map (fun b => cv ad (pm k b))).set j (cv ad v))) = wsC ad cA n (ps pm k j v) := by
  have e : ((List.range (nf ci)).map (fun b => cv ad (pm k b))).set j (cv ad v) = (List.range (nf ci)).map (fun b => cv ad (ps pm k j v k b)) := by
    refine set_map_range ?_ (fun i hi => ?_)
    · show cv ad v = cv ad (if k = k ∧ j = j then v else pm k j)
      rw [if_pos ⟨rfl, rfl⟩]
    · show cv ad (if k = k ∧ i = j then v else pm k i) = _
      rw [if_neg (fun q => hi q.2)]
  rw [e]
  apply List.ext_getElem?
  intro i
  by_cases hi : i = k
  · subst hi
    rw [List.getElem?_set_self (by simpa [wsC] using hn), wsC_at hn, entC_obj hk]
  · rw [List.getElem?_set_ne (fun q => hi q.symm)]
    rcases Nat.lt_or_ge i n with q | q
    · rw [wsC_at q, wsC_at q]
      have : entC ad cA (ps pm k j v) i = entC ad cA pm i := by
        unfold entC
        split
        · congr 2
          refine List.map_congr_left (fun b _ => ?_)
          show cv ad (if i = k ∧ b = j then v else pm i b) = _
          rw [if_neg (fun q => hi q.1)]
        · rfl
      rw [this]
    · rw [List.getElem?_eq_none (by simpa [wsC] using q), List.getElem?_eq_none (by simpa [wsC] using q)]
theorem rc_put {idx ci j k : Nat} {ty : FieldType} {v : Value} (hd : decode μ.2.1 pc = .ok (.putfield idx, 3)) (hk : kd k = (0, ci)) (hkn : k < n) (hf : PG μ idx ci j ty) (hnv : ∀ ad, narrow ty (cv ad v) = cv ad v) (hfit : ∀ ad, fits ty (cv ad v) = true) (hv : okv n v = true) (h : Rc d μ (pc + 3) lv st n0 nm n (ps pm k j v) Fin) : Rc d μ pc lv (v :: .ref k :: st) n0 nm n pm Fin := by
  intro b0 ad dC dI cA p l e R s m args below meth c Z hC hkk H locs ls hH hl
  have hT := hC.2.2.2.2.2.2.1
  have hK := hC.2.2.2.2.2.2.2.1.1
  obtain ⟨hW, hP, hD, hS⟩ := hH
  obtain ⟨C, T, N, ty0, hc, hin, hN, hj, hlk, hTC, hty, hnm, hfin, hty1⟩ := hf
  have he := wsC_at (ad := ad) (cA := cA) (pm := pm) hkn
  rw [entC_obj hk] at he
  have go : ∀ (H1 : Heap) (locs1 : List Loc), va_P (dC, dI) classes ((wsC ad cA n pm).set k (ad k, .inr (ci, ((List.range (nf ci)).map (fun b => cv ad (pm k b))).set j (cv ad v)))) H1 → va_D (fun q => b0 ≤ q) ((wsC ad cA n pm).set k (ad k, .inr (ci, ((List.range (nf ci)).map (fun b => cv ad (pm k b))).set j (cv ad v)))) → va_S (fun q => b0 ≤ q) s.heap H1 locs1 → W p l e R s m args below meth c H1 locs1 (n - n0) (SS n - SS n0) Z (F0 m (pc + 3) ls (st.map (cv ad))) := by
    intro H1 locs1 hP1 hD1 hS1
    rw [wsC_set hk hkn] at hP1 hD1
    exact h b0 ad dC dI cA p l e R s m args below meth c Z hC (fun ad' pc' lv' st' n' pm' H' locs' ls' a f hh hl' => hkk ad' pc' lv' st' n' pm' H' locs' ls' a f hh hl') H1 locs1 ls ⟨hW.put hkn hv, hP1, hD1, hS1⟩ hl
  rcases hfin with hfin | ⟨hfin, hini, hown⟩
  · exact va_put (cl := classes) (own := μ.1.cls) hC.1 hC.2.1 hT hin ty0 hty hnm hC.2.2.2.2.2.1 hK hP hD hS k he hc j hj (hT _ hlk) (fun x q => by rw [hTC] at q; exact q) hfin (v := cv ad v) (by rw [hty j hj, hty1]) (hnv ad) (hfit ad) (by simp; omega) hd go
  · exact va_putF (cl := classes) (own := μ.1.cls) hC.1 hC.2.1 hT hin ty0 hty hnm hC.2.2.2.2.2.1 hK hP hD hS k he hc j hj (hT _ hlk) (fun x q => by rw [hTC] at q; exact q) hfin (hC.2.2.2.2.2.2.2.2.2 hini) hown (v := cv ad v) (by rw [hty j hj, hty1]) (hnv ad) (hfit ad) (by simp; omega) hd go
end Made2
