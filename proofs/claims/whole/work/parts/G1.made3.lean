/-! constructors: calls -/
def PcC (b0 : Nat) (ad : Nat → Nat) (dC : Nat → ClassId) (dI : Nat → Nat → Nat) (cA : Nat → ClassId) (n : Nat) (pm : Pm) (U : State) : Prop :=
  Kc b0 dC dI cA U ∧ Wq n pm ∧ va_P (dC, dI) classes (wsC ad cA n pm) U.heap ∧ va_D (fun q => b0 ≤ q) (wsC ad cA n pm)
def QcC (b0 : Nat) (ad : Nat → Nat) (dC : Nat → ClassId) (dI : Nat → Nat → Nat) (cA : Nat → ClassId) (n n' : Nat) (pm' : Pm) : Array Value → State → Outcome → State → Prop := fun _ s0 o t =>
  (∃ ad' : Nat → Nat, Ag n ad ad' ∧ o = .returned none ∧ Wq n' pm' ∧ va_P (dC, dI) classes (wsC ad' cA n' pm') t.heap ∧ va_D (fun q => b0 ≤ q) (wsC ad' cA n' pm')) ∧ va_F (fun q => b0 ≤ q) s0 t
def rmC (d a b : Nat) : Room := { frames := d, cells := a, slots := b, locals := 80 * d }
def Ends (μ : Mt) (n' : Nat) (pm' : Pm) : Nat → List (Nat × Value) → List Value → Nat → Pm → Prop := fun pc _ st m q => decode μ.2.1 pc = .ok (.return_, 1) ∧ st = [] ∧ m = n' ∧ q = pm'
theorem met_ofC (l : Launch) {d n n' o : Nat} {μ : Mt} {pm pm' : Pm} (b0 : Nat) (ad : Nat → Nat) (dC : Nat → ClassId) (dI : Nat → Nat → Nat) (cA : Nat → ClassId) (hF : MF μ 0) (hr : μ.2.2.2 = none) (hlen : (lg_sl [Value.ref o]).length ≤ μ.2.2.1) (h : Rc d μ 0 (lv_args 0 [.ref o]) [] n n' n pm (Ends μ n' pm')) :
    Met l μ.1 (wsF μ) (rmC d (n' - n) (SS n' - SS n)) (va_Pc ([Value.ref o].map (cv ad)) (PcC b0 ad dC dI cA n pm)) (QcC b0 ad dC dI cA n n' pm') (n' - n) (SS n' - SS n) (fun q => b0 ≤ q) := by
  refine Met.ofW (cc := μ.2.1) (maxL := μ.2.2.1) (ret := μ.2.2.2) hF.1 rfl ?_
  intro p e s m args below meth c s₁ B hml hv
  obtain ⟨rfl, hK, hW, hP, hD⟩ := hv
  have hts := atoms_spec (ws := wsF μ) B.pre
  have hl := lv_entry ([Value.ref o].map (cv ad)) (n := μ.2.2.1) (by rw [lg_sl_len]; exact hlen)
  rw [lg_entry_eq]
  rw [lv_args_map] at hl
  have hlocks := B.notSynchronized
  have := h b0 ad dC dI cA p l e (rmC d (n' - n) (SS n' - SS n)) s m _ below meth c (MQ below (QcC b0 ad dC dI cA n n' pm') ([Value.ref o].map (cv ad)).toArray s (n' - n) (SS n' - SS n) (fun q => b0 ≤ q)) ⟨B.exec, B.bytes, hml, B.returns, B.notSynchronized, findClass_of_methodNamed B.named, fun w hw => hts w (List.mem_cons_of_mem _ hw), hK, ⟨Nat.le_refl _, Nat.le_refl _, Nat.le_refl _, Nat.le_refl _⟩, fun q => (name_of_methodNamed B.named B.method).1.trans q⟩ (fun ad' pc' lv' st' m' pm'' H' locs' ls' a f hH hl' => by
    obtain ⟨hdc, rfl, rfl, rfl⟩ := f
    exact W.vret B.exec B.bytes (B.returns.trans hr) (fun t ht hW => ⟨⟨ad', a, rfl, hH.1, by rw [ht]; exact hH.2.1, hH.2.2.1⟩, hH.2.2.2.F ht⟩) hH.2.2.2.2.2 hdc hlocks) s.heap [] _ ⟨hW, hP, hD, va_S.rf⟩ hl
  rw [Nat.sub_self, Nat.sub_self] at this
  exact this
theorem blindC {b0 : Nat} {ad : Nat → Nat} {dC : Nat → ClassId} {dI : Nat → Nat → Nat} {cA : Nat → ClassId} {n : Nat} {pm : Pm} {av : List Value} : FrameBlind (va_Pc av (PcC b0 ad dC dI cA n pm)) := by
  intro a U g mk q
  obtain ⟨q0, ⟨qK, qB, qN⟩, qW, qP, qD⟩ := q
  exact ⟨q0, ⟨va_K.moved (u := U) (U := U.calling g mk a) (Vm.Alike.refl U.vm) qK, qB, NXc.same (U := U.calling g mk a) rfl qN⟩, qW, qP, qD⟩
section Made3
variable {d : Nat} {μ μ' : Mt} {pc : Nat} {lv : List (Nat × Value)} {st : List Value} {n0 nm n : Nat} {pm : Pm} {Fin : Nat → List (Nat × Value) → List Value → Nat → Pm → Prop}
theorem preCc {b0 : Nat} {ad : Nat → Nat} {dC : Nat → ClassId} {dI : Nat → Nat → Nat} {cA : Nat → ClassId} {s : State} {H : Heap} {locs : List Loc} {av : List Value} (hK : Kc b0 dC dI cA s) (hH : HC b0 ad dC dI cA s n pm H locs) : ∀ U : State, U.heap = H → s.WarmedH U.vm → va_Pc (av.map (cv ad)) (PcC b0 ad dC dI cA n pm) (av.map (cv ad)).toArray U := by
  intro U hU hW
  exact ⟨rfl, ⟨va_K.moved hW.alike hK.1, by rw [hU]; exact Nat.le_trans hK.2.1 hH.2.2.2.1, hK.2.2.warm hW⟩, hH.1, by rw [hU]; exact hH.2.1, hH.2.2.1⟩
theorem rc_callI {idx o n' : Nat} {pm' : Pm} (hd : decode μ.2.1 pc = .ok (.invokespecial idx, 3)) (hF : MF μ' 0) (hr : μ'.2.2.2 = none) (hl : Cond.methodLink μ.1.cls idx μ'.1 ∈ gtb ∨ (μ.1.cls, idx, μ'.1) ∈ nst) (hi : Cond.instanceMethod μ'.1 ∈ gtb) (hnm : μ'.1.name = "<init>") (hlen : (lg_sl [Value.ref o]).length ≤ μ'.2.2.1) (h0 : n0 ≤ n) (hn : n ≤ n') (hm : n' ≤ nm) (hs : (st.map fun v => v.category).sum ≤ 8) (hst : st.all (okv n) = true) (hlv : lv.all (fun q => okv n q.2) = true) (hc : Rc d μ' 0 (lv_args 0 [.ref o]) [] n n' n pm (Ends μ' n' pm')) (h : Rc (d + 1) μ (pc + 3) lv st n0 nm n' pm' Fin) : Rc (d + 1) μ pc lv (.ref o :: st) n0 nm n pm Fin := by
  obtain ⟨y', b', ml', r'⟩ := μ'
  cases hr
  intro b0 ad dC dI cA p l e R s m args below meth c Z hC hkk H locs ls hH hlv'
  have hT := hC.2.2.2.2.2.2.1
  have hK := hC.2.2.2.2.2.2.2.1
  have hR := hC.2.2.2.2.2.2.2.2.1
  have hmx := hF.2.2.2.2.2
  have s1 := SS_mono h0
  have s2 := SS_mono hn
  have s3 := SS_mono hm
  have r1 : d + 1 ≤ R.frames := hR.1
  have r2 : 8 + (ml' + 11) + 80 * d ≤ R.locals := by have : ml' ≤ 60 := hmx; omega
  have run : va_Run p l e R s m args below meth c H locs (n - n0) (SS n - SS n0) (n' - n) (SS n' - SS n) (F0 m pc ls ((.ref o :: st).map (cv ad))) (st.map (cv ad)) (QcC b0 ad dC dI cA n n' pm' (Value.ref (ad o) :: []).toArray) (fun q => b0 ≤ q) := by
    rcases hl with hl | hl
    · exact va_runI (As := []) (b := ad o) (n := 0) (own := μ.1.cls) (index := idx) ⟨hC.1, hC.2.1, hC.2.2.1, hC.2.2.2.2.2.1, hT⟩ (met_ofC l b0 ad dC dI cA hF rfl hlen hc) ⟨callB_of (own := μ.1.cls) 0 hT (goodF hF.2.1) rfl rfl rfl (hT _ hF.2.2.1) (hT _ hl) ⟨hF.2.2.2.1.1, hF.2.2.2.1.2, hF.2.2.2.2.1⟩ ⟨r1, r2⟩, hnm, hT _ hi⟩ ⟨blindC, preCc (av := [.ref o]) hK hH⟩ rfl rfl hlv'.1 rfl (lv_room (by rw [cv_sum]; exact hs)) hd ⟨by omega, by omega⟩
    · exact va_runIN (Ts := gtb) (As := []) (b := ad o) (n := 0) (own := μ.1.cls) (index := idx) ⟨hC.1, hC.2.1, hC.2.2.1, hC.2.2.2.2.2.1, hT⟩ (met_ofC l b0 ad dC dI cA hF rfl hlen hc) ⟨va_cnB (own := μ.1.cls) 0 hT (goodF hF.2.1) rfl rfl rfl (hK.2.2 _ hl) (hT _ hF.2.2.1) ⟨hF.2.2.2.1.1, hF.2.2.2.1.2, hF.2.2.2.2.1⟩ ⟨r1, r2⟩, hnm, hT _ hi⟩ ⟨blindC, preCc (av := [.ref o]) hK hH⟩ rfl rfl hlv'.1 rfl (lv_room (by rw [cv_sum]; exact hs)) hd ⟨by omega, by omega⟩
  intro U hU X
  obtain ⟨v, st₀, t, T', L, g0, X', hL, e1, e2, ⟨⟨ad', ag, ho, hW', hP', hD'⟩, hz, hkp⟩, hgo⟩ := run U hU X
  cases ho
  rw [g0] at hz hkp
  have hzz : b0 ≤ s.heap.size := hK.2.1
  have hS : va_S (fun q => b0 ≤ q) s.heap T'.heap (locs ++ L) := ⟨Nat.le_trans hH.2.2.2.1 (by rw [e1]; exact hz), fun q h1 h2 => by
    rw [e1, hkp q (Nat.lt_of_lt_of_le h1 hH.2.2.2.1) h2]; exact hH.2.2.2.2.1 q h1 h2, fun q hq => by
      rcases List.mem_append.mp hq with h | h
      · exact hH.2.2.2.2.2 q h
      · exact hL q h⟩
  have := h b0 ad' dC dI cA p l e R s m args below meth c Z hC (fun ad'' pc' lv' st' n'' pm'' H' locs' ls' a f hh hl' => hkk ad'' pc' lv' st' n'' pm'' H' locs' ls' (ag.trans hn a) f hh hl') T'.heap (locs ++ L) ls ⟨hW', by rw [e1]; exact hP', hD', hS⟩ (by rw [lv_ag ag hlv]; exact hlv')
  rw [st_ag ag hst, show n' - n0 = n - n0 + (n' - n) by omega, show SS n' - SS n0 = SS n - SS n0 + (SS n' - SS n) by omega] at this
  obtain ⟨t2, a1, b1⟩ := this T' rfl X'
  exact ⟨t2, hgo t2 a1, b1⟩
theorem rc_obj {idx o : Nat} (hd : decode μ.2.1 pc = .ok (.invokespecial idx, 3)) (hl : Cond.methodLink μ.1.cls idx Lib.objectInit ∈ gtb) (hi : Cond.instanceMethod Lib.objectInit ∈ gtb) (hc : Cond.code Lib.objectInit ⟨#[0xb1]⟩ 1 none ∈ gtb) (hs : (st.map fun v => v.category).sum ≤ 8) (h : Rc (d + 1) μ (pc + 3) lv st n0 nm n pm Fin) : Rc (d + 1) μ pc lv (.ref o :: st) n0 nm n pm Fin := by
  intro b0 ad dC dI cA p l e R s m args below meth c Z hC hkk H locs ls hH hlv'
  have hT := hC.2.2.2.2.2.2.1
  have hR := hC.2.2.2.2.2.2.2.2.1
  have hrm : 2 * (F0 m pc ls ((.ref o :: st).map (cv ad))).monitorRoom + ((st.map (cv ad)).map fun v => v.category).sum ≤ 8 := lv_room (by rw [cv_sum]; exact hs)
  refine W.objInit hC.1 hC.2.1 hC.2.2.2.2.2.1 (hT _ hl) (hT _ hi) (hT _ hc) rfl (by rw [hC.2.2.1]; exact hlv'.1) (a := ad o) (rest := st.map (cv ad)) rfl hd (by omega) (by omega) ?_
  exact W.eq (g2 := F0 m (pc + 3) ls (st.map (cv ad))) rfl (h b0 ad dC dI cA p l e R s m args below meth c Z hC hkk H locs ls hH hlv')
end Made3
