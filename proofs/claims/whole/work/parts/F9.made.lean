/-! constructors: a judgement while the world is being made: n cells stand -/
abbrev Pm : Type := Nat → Nat → Value
def ps (pm : Pm) (k j : Nat) (v : Value) : Pm := fun a b => if a = k ∧ b = j then v else pm a b
def dfv (c j : Nat) : Value := match fk c j with
  | 0 => .int 0
  | 4 => .int 0
  | 1 => .long 0
  | _ => .null
def M00 : Mem := (fun _ _ => 0, fun _ _ => 0)
def entC (ad : Nat → Nat) (cA : Nat → ClassId) (pm : Pm) (k : Nat) : va_E := match kd k with
  | (0, c) => .inr (c, (List.range (nf c)).map (fun j => cv ad (pm k j)))
  | _ => ent ad cA M00 k
def szc (k : Nat) : Nat := match kd k with
  | (0, c) => nf c
  | (_, n) => n
def SS : Nat → Nat
  | 0 => 0
  | n + 1 => SS n + szc n
def wsC (ad : Nat → Nat) (cA : Nat → ClassId) (n : Nat) (pm : Pm) : va_W := (List.range n).map (fun k => (ad k, entC ad cA pm k))
theorem wsC_at {ad : Nat → Nat} {cA : Nat → ClassId} {pm : Pm} {n k : Nat} (h : k < n) : (wsC ad cA n pm)[k]? = some (ad k, entC ad cA pm k) := by
  unfold wsC
  rw [List.getElem?_map, List.getElem?_range h]
  rfl
theorem wsC_succ {ad : Nat → Nat} {cA : Nat → ClassId} {pm : Pm} {n : Nat} : wsC ad cA (n + 1) pm = wsC ad cA n pm ++ [(ad n, entC ad cA pm n)] := by
  unfold wsC
  rw [List.range_succ, List.map_append]
  rfl
theorem entC_obj {ad : Nat → Nat} {cA : Nat → ClassId} {pm : Pm} {k c : Nat} (h : kd k = (0, c)) : entC ad cA pm k = .inr (c, (List.range (nf c)).map (fun j => cv ad (pm k j))) := by
  unfold entC; rw [h]; rfl
def pm0 : Pm := fun k j => dfv (kd k).2 j
/-- a value that speaks of standing cells alone -/
def okn (n t : Nat) : Bool := decide (t < n ∨ NC ≤ t)
def okv (n : Nat) : Value → Bool
  | .ref t => okn n t
  | _ => true
def Wq (n : Nat) (pm : Pm) : Prop := (∀ k j, okv n (pm k j) = true) ∧ ∀ k j, n ≤ k → pm k j = pm0 k j
/-- addresses of the cells that stand stay -/
def Ag (n : Nat) (ad ad' : Nat → Nat) : Prop := ∀ k, k < n ∨ NC ≤ k → ad' k = ad k
theorem Ag.rf {n : Nat} {ad : Nat → Nat} : Ag n ad ad := fun _ _ => rfl
theorem okv_mono {n n' : Nat} (h : n ≤ n') {v : Value} (hv : okv n v = true) : okv n' v = true := by
  cases v <;> first | rfl | (simp only [okv, okn, decide_eq_true_eq] at hv ⊢; omega)
theorem cv_ag {n : Nat} {ad ad' : Nat → Nat} (h : Ag n ad ad') {v : Value} (hv : okv n v = true) : cv ad' v = cv ad v := by
  cases v <;> first | rfl | (simp only [okv, okn, decide_eq_true_eq] at hv; rw [cv_ref, cv_ref, h _ hv])
theorem st_ag {n : Nat} {ad ad' : Nat → Nat} (h : Ag n ad ad') {st : List Value} (hs : st.all (okv n) = true) : st.map (cv ad') = st.map (cv ad) :=
  List.map_congr_left (fun v hv => cv_ag h (List.all_eq_true.mp hs v hv))
theorem lv_ag {n : Nat} {ad ad' : Nat → Nat} (h : Ag n ad ad') {lv : List (Nat × Value)} (hs : lv.all (fun q => okv n q.2) = true) : lv.map (cl ad') = lv.map (cl ad) :=
  List.map_congr_left (fun v hv => by unfold cl; rw [cv_ag h (List.all_eq_true.mp hs v hv)])
theorem wsC_ag {n : Nat} {ad ad' : Nat → Nat} {cA : Nat → ClassId} {pm : Pm} (h : Ag n ad ad') (hw : Wq n pm) : wsC ad' cA n pm = wsC ad cA n pm := by
  unfold wsC
  refine List.map_congr_left (fun k hk => ?_)
  have hk : k < n := List.mem_range.mp hk
  rw [h k (Or.inl hk)]
  congr 1
  unfold entC
  split
  · congr 2
    exact List.map_congr_left (fun j _ => cv_ag h (hw.1 k j))
  · rename_i c hne
    unfold ent
    split
    · rename_i q; exact absurd q (hne _)
    · rfl
    · rfl
    · rfl
    · rfl
def HC (b0 : Nat) (ad : Nat → Nat) (dC : Nat → ClassId) (dI : Nat → Nat → Nat) (cA : Nat → ClassId) (s : State) (n : Nat) (pm : Pm) (H : Heap) (locs : List Loc) : Prop :=
  Wq n pm ∧ va_P (dC, dI) classes (wsC ad cA n pm) H ∧ va_D (fun q => b0 ≤ q) (wsC ad cA n pm) ∧ va_S (fun q => b0 ≤ q) s.heap H locs
/-- the constructors that are called over a nest link -/
def nst : List (String × Nat × MethodName) := [(RX8, 9, yX6_init), (RX8, 18, yX7_init), (RX8, 25, yX2_init), (RX8, 35, yX3_init), (RX8, 50, yX5_init), (RX8, 57, yX0_init), (RX8, 64, yX4_init), (RX6, 23, yX7_init), (RX7, 11, yX2_init), (RX7, 20, yX1_init)]
def NXc (s : State) : Prop := ∀ q ∈ nst, va_Nw (.methodLinkNest q.1 q.2.1 q.2.2 "FrothShire") s
theorem NXc.same {u U : State} (hv : u.vm = U.vm) (h : NXc u) : NXc U := fun q hq => va_Nw.same rfl hv (h q hq)
theorem NXc.warm {s U : State} (hW : s.WarmedH U.vm) (h : NXc s) : NXc U := fun q hq => va_Nw.warmM hW (h q hq)
def Kc (b0 : Nat) (dC : Nat → ClassId) (dI : Nat → Nat → Nat) (cA : Nat → ClassId) (s : State) : Prop := va_K (dC, dI) classes (tysA cA) s ∧ b0 ≤ s.heap.size ∧ NXc s
def Cy (d : Nat) (μ : Mt) (b0 : Nat) (dC : Nat → ClassId) (dI : Nat → Nat → Nat) (cA : Nat → ClassId) (p : Program) (R : Room) (s : State) (m : MethodId) (args : Array Value) (meth : Method) (c : Code) (n0 nm : Nat) : Prop :=
  p.tables.exec = Jvm.exec ∧ c.code = μ.2.1 ∧ c.maxLocals = μ.2.2.1 ∧ meth.sig.returnType = μ.2.2.2 ∧ meth.locks = false ∧ s.vm.findClass μ.1.cls = some m.cls ∧ (∀ w ∈ gtb, w.before args s = true) ∧ Kc b0 dC dI cA s ∧ (d ≤ R.frames ∧ 80 * d ≤ R.locals ∧ nm - n0 ≤ R.cells ∧ SS nm - SS n0 ≤ R.slots) ∧ (μ.1.name = "<init>" → meth.name = "<init>")
/-- from here, with n cells standing (n0 stood when the method began, nm at most), to an end that Fin allows -/
def Rc (d : Nat) (μ : Mt) (pc : Nat) (lv : List (Nat × Value)) (st : List Value) (n0 nm n : Nat) (pm : Pm) (Fin : Nat → List (Nat × Value) → List Value → Nat → Pm → Prop) : Prop :=
  ∀ (b0 : Nat) (ad : Nat → Nat) (dC : Nat → ClassId) (dI : Nat → Nat → Nat) (cA : Nat → ClassId) (p : Program) (l : Launch) (e : Env) (R : Room) (s : State) (m : MethodId) (args : Array Value) (below : List Frame) (meth : Method) (c : Code) (Z : State → Prop),
    Cy d μ b0 dC dI cA p R s m args meth c n0 nm →
    (∀ (ad' : Nat → Nat) (pc' : Nat) (lv' : List (Nat × Value)) (st' : List Value) (n' : Nat) (pm' : Pm) (H' : Heap) (locs' : List Loc) (ls' : Array Slot), Ag n ad ad' → Fin pc' lv' st' n' pm' → HC b0 ad' dC dI cA s n' pm' H' locs' → lv_has ls' μ.2.2.1 (lv'.map (cl ad')) → W p l e R s m args below meth c H' locs' (n' - n0) (SS n' - SS n0) Z (F0 m pc' ls' (st'.map (cv ad')))) →
    ∀ (H : Heap) (locs : List Loc) (ls : Array Slot), HC b0 ad dC dI cA s n pm H locs → lv_has ls μ.2.2.1 (lv.map (cl ad)) → W p l e R s m args below meth c H locs (n - n0) (SS n - SS n0) Z (F0 m pc ls (st.map (cv ad)))
theorem Rc.deeper {d d' : Nat} {μ : Mt} {pc : Nat} {lv : List (Nat × Value)} {st : List Value} {n0 nm n : Nat} {pm : Pm} {Fin : Nat → List (Nat × Value) → List Value → Nat → Pm → Prop} (hd : d ≤ d') (h : Rc d μ pc lv st n0 nm n pm Fin) : Rc d' μ pc lv st n0 nm n pm Fin := by
  intro b0 ad dC dI cA p l e R s m args below meth c Z hC
  refine h b0 ad dC dI cA p l e R s m args below meth c Z ?_
  obtain ⟨h1, h2, h3, h4, h5, h6, h7, h8, ⟨h9, h10, h11⟩, h12⟩ := hC
  exact ⟨h1, h2, h3, h4, h5, h6, h7, h8, ⟨Nat.le_trans hd h9, Nat.le_trans (Nat.mul_le_mul_left 80 hd) h10, h11⟩, h12⟩
theorem SS_mono {a b : Nat} (h : a ≤ b) : SS a ≤ SS b := by
  obtain ⟨k, rfl⟩ : ∃ k, b = a + k := ⟨b - a, by omega⟩
  clear h
  induction k with
  | zero => exact Nat.le_refl _
  | succ k ih => exact Nat.le_trans ih (Nat.le_add_right _ _)
section Made
variable {d : Nat} {μ : Mt} {pc : Nat} {lv : List (Nat × Value)} {st : List Value} {n0 nm n : Nat} {pm : Pm} {Fin : Nat → List (Nat × Value) → List Value → Nat → Pm → Prop}
theorem rc_end (h : Fin pc lv st n pm) : Rc d μ pc lv st n0 nm n pm Fin := fun b0 ad dC dI cA p l e R s m args below meth c Z _ hk H locs ls hH hl => hk ad pc lv st n pm H locs ls Ag.rf h hH hl
theorem rc_aload_n {k : _root_.Fin 4} {i x : Nat} (hd : decode μ.2.1 pc = .ok (.aload_n k, 1)) (hi : (k : Nat) = i) (hm : (i, Value.ref x) ∈ lv) (h : Rc d μ (pc + 1) lv (.ref x :: st) n0 nm n pm Fin) : Rc d μ pc lv st n0 nm n pm Fin := by
  intro b0 ad dC dI cA p l e R s m args below meth c Z hC hk H locs ls hH hl
  exact lv_aload_n hC.1 hC.2.1 hd hi (lv_of hl hm) (h b0 ad dC dI cA p l e R s m args below meth c Z hC hk H locs ls hH hl)
theorem rc_iconst {k : Int} {v : Int32} (hd : decode μ.2.1 pc = .ok (.iconst k, 1)) (hv : Int32.ofInt k = v) (h : Rc d μ (pc + 1) lv (.int v :: st) n0 nm n pm Fin) : Rc d μ pc lv st n0 nm n pm Fin := by
  intro b0 ad dC dI cA p l e R s m args below meth c Z hC hk H locs ls hH hl
  exact lv_iconst hC.1 hC.2.1 hd hv (h b0 ad dC dI cA p l e R s m args below meth c Z hC hk H locs ls hH hl)
theorem rc_lconst {k : _root_.Fin 2} {v : Int64} (hd : decode μ.2.1 pc = .ok (.lconst k, 1)) (hv : Int64.ofNat (k : Nat) = v) (h : Rc d μ (pc + 1) lv (.long v :: st) n0 nm n pm Fin) : Rc d μ pc lv st n0 nm n pm Fin := by
  intro b0 ad dC dI cA p l e R s m args below meth c Z hC hk H locs ls hH hl
  exact lv_lconst hC.1 hC.2.1 hd hv (h b0 ad dC dI cA p l e R s m args below meth c Z hC hk H locs ls hH hl)
theorem rc_bipush {k : Int} {v : Int32} (hd : decode μ.2.1 pc = .ok (.bipush k, 2)) (hv : (Int8.ofInt k).toInt32 = v) (h : Rc d μ (pc + 2) lv (.int v :: st) n0 nm n pm Fin) : Rc d μ pc lv st n0 nm n pm Fin := by
  intro b0 ad dC dI cA p l e R s m args below meth c Z hC hk H locs ls hH hl
  exact lv_bipush hC.1 hC.2.1 hd hv (h b0 ad dC dI cA p l e R s m args below meth c Z hC hk H locs ls hH hl)
theorem rc_sipush {k : Int} {v : Int32} (hd : decode μ.2.1 pc = .ok (.sipush k, 3)) (hv : (Int16.ofInt k).toInt32 = v) (h : Rc d μ (pc + 3) lv (.int v :: st) n0 nm n pm Fin) : Rc d μ pc lv st n0 nm n pm Fin := by
  intro b0 ad dC dI cA p l e R s m args below meth c Z hC hk H locs ls hH hl
  exact lv_sipush hC.1 hC.2.1 hd hv (h b0 ad dC dI cA p l e R s m args below meth c Z hC hk H locs ls hH hl)
theorem rc_dup {v : Value} (hd : decode μ.2.1 pc = .ok (.dup, 1)) (hc : v.category = 1) (h : Rc d μ (pc + 1) lv (v :: v :: st) n0 nm n pm Fin) : Rc d μ pc lv (v :: st) n0 nm n pm Fin := by
  intro b0 ad dC dI cA p l e R s m args below meth c Z hC hk H locs ls hH hl
  exact lv_dup hC.1 hC.2.1 hd (by rw [cv_cat]; exact hc) (h b0 ad dC dI cA p l e R s m args below meth c Z hC hk H locs ls hH hl)
theorem rc_astore_n {k : _root_.Fin 4} {i : Nat} {x : Nat} {lv' : List (Nat × Value)} (hd : decode μ.2.1 pc = .ok (.astore_n k, 1)) (hi : (k : Nat) = i) (hn : i < μ.2.2.1) (hf : (lv.all (fun q => !(q.1 + 1 == i && q.2.category == 2))) = true) (hl : lput i (Value.ref x) lv = lv') (h : Rc d μ (pc + 1) lv' st n0 nm n pm Fin) : Rc d μ pc lv (.ref x :: st) n0 nm n pm Fin := by
  intro b0 ad dC dI cA p l e R s m args below meth c Z hC hk H locs ls hH hlv
  exact lv_astore_n hC.1 hC.2.1 hd hi hlv hn rfl (fun ls hls => h b0 ad dC dI cA p l e R s m args below meth c Z hC hk H locs ls hH (lput_has hl hf hls))
theorem rc_istore_n {k : _root_.Fin 4} {i : Nat} {x : Int32} {lv' : List (Nat × Value)} (hd : decode μ.2.1 pc = .ok (.istore_n k, 1)) (hi : (k : Nat) = i) (hn : i < μ.2.2.1) (hf : (lv.all (fun q => !(q.1 + 1 == i && q.2.category == 2))) = true) (hl : lput i (Value.int x) lv = lv') (h : Rc d μ (pc + 1) lv' st n0 nm n pm Fin) : Rc d μ pc lv (.int x :: st) n0 nm n pm Fin := by
  intro b0 ad dC dI cA p l e R s m args below meth c Z hC hk H locs ls hH hlv
  exact lv_istore_n hC.1 hC.2.1 hd hi hlv hn rfl (fun ls hls => h b0 ad dC dI cA p l e R s m args below meth c Z hC hk H locs ls hH (lput_has hl hf hls))
/-- where a new cell lies -/
def nad (ad : Nat → Nat) (n q : Nat) : Nat → Nat := fun k => if k = n then q else ad k
theorem nad_ag {ad : Nat → Nat} {n q : Nat} (hn : n < NC) : Ag n ad (nad ad n q) := fun k hk => if_neg (by omega)
theorem Ag.trans {n n' : Nat} {ad ad' ad'' : Nat → Nat} (h : Ag n ad ad') (hn : n ≤ n') (h2 : Ag n' ad' ad'') : Ag n ad ad'' := fun k hk => (h2 k (by omega)).trans (h k hk)
theorem Wq.up {n : Nat} {pm : Pm} (h : Wq n pm) : Wq (n + 1) pm := ⟨fun k j => okv_mono (Nat.le_succ n) (h.1 k j), fun k j hk => h.2 k j (by omega)⟩
theorem vp_V_map {ad : Nat → Nat} {pm : Pm} {n N j : Nat} (hj : j < N) : vp_V ((List.range N).map (fun j => cv ad (pm n j))) j = cv ad (pm n j) := by
  unfold vp_V
  rw [List.getD_eq_getElem?_getD, List.getElem?_map, List.getElem?_range hj]
  rfl
theorem rc_new {idx ci : Nat} {C : String} {T : u_T} {N : Nat} (ty : Nat → FieldType) (hd : decode μ.2.1 pc = .ok (.new idx, 3)) (h0 : n0 ≤ n) (hn : n < nm) (hm : nm ≤ NC) (hk : kd n = (0, ci)) (hc : classes[ci]? = some (C, T, N)) (hN : nf ci = N) (hin : ∀ w ∈ u_ws C T N, w ∈ gtb) (hty : ∀ k, k < N → parseFieldDescriptor (T k).2.2.1 = some (ty k)) (hdf : ∀ j, j < N → defaultValue (ty j) = dfv ci j) (hcl : Cond.classLink μ.1.cls idx C ∈ gtb) (hinst : Cond.instantiable C N ∈ gtb) (hini : Cond.initialized C ∈ gtb) (hst : st.all (okv n) = true) (hlv : lv.all (fun q => okv n q.2) = true) (h : Rc d μ (pc + 3) lv (.ref n :: st) n0 nm (n + 1) pm Fin) : Rc d μ pc lv st n0 nm n pm Fin := by
  intro b0 ad dC dI cA p l e R s m args below meth c Z hC hkk H locs ls hH hl
  have hT := hC.2.2.2.2.2.2.1
  have hR := hC.2.2.2.2.2.2.2.2.1
  obtain ⟨hW, hP, hD, hS⟩ := hH
  have e1 : n + 1 - n0 = n - n0 + 1 := by omega
  have sz : szc n = N := by unfold szc; rw [hk]; exact hN
  have e2 : SS (n + 1) - SS n0 = SS n - SS n0 + N := by
    have := SS_mono h0
    show SS n + szc n - SS n0 = _
    rw [sz]; omega
  have m1 : SS (n + 1) ≤ SS nm := SS_mono (by omega)
  refine va_new (cl := classes) (ci := ci) (fs := (List.range (nf ci)).map (fun j => cv ad (pm n j))) hC.1 hC.2.1 hT hin ty hty hC.2.2.2.2.2.1 (hT _ hcl) (hT _ hinst) (hT _ hini) hC.2.2.2.2.2.2.2.1.1 hP hD hS (fun q hq => Nat.le_trans hC.2.2.2.2.2.2.2.1.2.1 hq) hc (fun j hj => ?_) (by omega) (by omega) hd (fun q H1 hP1 hD1 hS1 => ?_)
  · rw [vp_V_map (by omega), hW.2 n j (Nat.le_refl _), hdf j hj]
    unfold pm0
    rw [hk]
    show dfv ci j = cv ad (dfv ci j)
    unfold dfv
    split <;> rfl
  · have ag : Ag n ad (nad ad n q) := nad_ag (by omega)
    have ew : wsC (nad ad n q) cA (n + 1) pm = wsC ad cA n pm ++ [(q, .inr (ci, (List.range (nf ci)).map (fun j => cv ad (pm n j))))] := by
      rw [wsC_succ, wsC_ag ag hW, entC_obj hk]
      congr 2
      congr 1
      · exact if_pos rfl
      · congr 2
        exact List.map_congr_left (fun j _ => cv_ag ag (hW.1 n j))
    rw [← ew] at hP1 hD1
    have := h b0 (nad ad n q) dC dI cA p l e R s m args below meth c Z hC (fun ad' pc' lv' st' n' pm' H' locs' ls' a f hh hl' => hkk ad' pc' lv' st' n' pm' H' locs' ls' (ag.trans (Nat.le_succ n) a) f hh hl') H1 locs ls ⟨hW.up, hP1, hD1, hS1⟩ (by rw [lv_ag ag hlv]; exact hl)
    rw [e1, e2, List.map_cons, st_ag ag hst, cv_ref, show nad ad n q n = q from if_pos rfl] at this
    exact this
end Made
