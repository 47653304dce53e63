/-! constructors: a judgement while the world is being made: n cells stand -/
abbrev Pm : Type := Nat → Nat → Value
def ps (pm : Pm) (k j : Nat) (v : Value) : Pm := fun a b => if a = k ∧ b = j then v else pm a b
def dfv (c j : Nat) : Value := match fk c j with
  | 0 => .int 0
  | 4 => .int 0
  | 1 => .long 0
  | _ => .null
def M00 : Mem := (fun _ _ => 0, fun _ _ => 0)
def entC (ad : Nat → Nat) (cA : Nat → ClassId) (pm : Pm) (k : Nat) : va_E := match kd k with
  | (0, c) => .inr (c, (List.range (nf c)).map (fun j => cv ad (pm k j)))
  | _ => ent ad cA M00 k
def szc (k : Nat) : Nat := match kd k with
  | (0, c) => nf c
  | (_, n) => n
def SS : Nat → Nat
  | 0 => 0
  | n + 1 => SS n + szc n
def wsC (ad : Nat → Nat) (cA : Nat → ClassId) (n : Nat) (pm : Pm) : va_W := (List.range n).map (fun k => (ad k, entC ad cA pm k))
theorem wsC_at {ad : Nat → Nat} {cA : Nat → ClassId} {pm : Pm} {n k : Nat} (h : k < n) : (wsC ad cA n pm)[k]? = some (ad k, entC ad cA pm k) := by
  unfold wsC
  rw [List.getElem?_map, List.getElem?_range h]
  rfl
theorem wsC_succ {ad : Nat → Nat} {cA : Nat → ClassId} {pm : Pm} {n : Nat} : wsC ad cA (n + 1) pm = wsC ad cA n pm ++ [(ad n, entC ad cA pm n)] := by
  unfold wsC
  rw [List.range_succ, List.map_append]
  rfl
theorem entC_obj {ad : Nat → Nat} {cA : Nat → ClassId} {pm : Pm} {k c : Nat} (h : kd k = (0, c)) : entC ad cA pm k = .inr (c, (List.range (nf c)).map (fun j => cv ad (pm k j))) := by
  unfold entC; rw [h]; rfl
def HC (b0 : Nat) (ad : Nat → Nat) (dC : Nat → ClassId) (dI : Nat → Nat → Nat) (cA : Nat → ClassId) (s : State) (n : Nat) (pm : Pm) (H : Heap) (locs : List Loc) : Prop :=
  H.size = b0 + n ∧ va_P (dC, dI) classes (wsC ad cA n pm) H ∧ va_D (fun q => b0 ≤ q) (wsC ad cA n pm) ∧ va_S (fun q => b0 ≤ q) s.heap H locs
def Kc (b0 : Nat) (ad : Nat → Nat) (dC : Nat → ClassId) (dI : Nat → Nat → Nat) (cA : Nat → ClassId) (s : State) : Prop := va_K (dC, dI) classes (tysA cA) s ∧ (∀ k, k < NC → ad k = b0 + k) ∧ b0 ≤ s.heap.size
def Cy (d : Nat) (μ : Mt) (b0 : Nat) (ad : Nat → Nat) (dC : Nat → ClassId) (dI : Nat → Nat → Nat) (cA : Nat → ClassId) (p : Program) (R : Room) (s : State) (m : MethodId) (args : Array Value) (meth : Method) (c : Code) (n0 nm : Nat) : Prop :=
  p.tables.exec = Jvm.exec ∧ c.code = μ.2.1 ∧ c.maxLocals = μ.2.2.1 ∧ meth.sig.returnType = μ.2.2.2 ∧ meth.locks = false ∧ s.vm.findClass μ.1.cls = some m.cls ∧ (∀ w ∈ gtb, w.before args s = true) ∧ Kc b0 ad dC dI cA s ∧ (d ≤ R.frames ∧ 80 * d ≤ R.locals ∧ nm - n0 ≤ R.cells ∧ SS nm - SS n0 ≤ R.slots)
/-- from here, with n cells standing (n0 stood when the method began, nm at most), to an end that Fin allows -/
def Rc (d : Nat) (μ : Mt) (pc : Nat) (lv : List (Nat × Value)) (st : List Value) (n0 nm n : Nat) (pm : Pm) (Fin : Nat → List (Nat × Value) → List Value → Nat → Pm → Prop) : Prop :=
  ∀ (b0 : Nat) (ad : Nat → Nat) (dC : Nat → ClassId) (dI : Nat → Nat → Nat) (cA : Nat → ClassId) (p : Program) (l : Launch) (e : Env) (R : Room) (s : State) (m : MethodId) (args : Array Value) (below : List Frame) (meth : Method) (c : Code) (Z : State → Prop),
    Cy d μ b0 ad dC dI cA p R s m args meth c n0 nm →
    (∀ (pc' : Nat) (lv' : List (Nat × Value)) (st' : List Value) (n' : Nat) (pm' : Pm) (H' : Heap) (locs' : List Loc) (ls' : Array Slot), Fin pc' lv' st' n' pm' → HC b0 ad dC dI cA s n' pm' H' locs' → lv_has ls' μ.2.2.1 (lv'.map (cl ad)) → W p l e R s m args below meth c H' locs' (n' - n0) (SS n' - SS n0) Z (F0 m pc' ls' (st'.map (cv ad)))) →
    ∀ (H : Heap) (locs : List Loc) (ls : Array Slot), HC b0 ad dC dI cA s n pm H locs → lv_has ls μ.2.2.1 (lv.map (cl ad)) → W p l e R s m args below meth c H locs (n - n0) (SS n - SS n0) Z (F0 m pc ls (st.map (cv ad)))
section Made
variable {d : Nat} {μ : Mt} {pc : Nat} {lv : List (Nat × Value)} {st : List Value} {n0 nm n : Nat} {pm : Pm} {Fin : Nat → List (Nat × Value) → List Value → Nat → Pm → Prop}
theorem rc_end (h : Fin pc lv st n pm) : Rc d μ pc lv st n0 nm n pm Fin := fun b0 ad dC dI cA p l e R s m args below meth c Z _ hk H locs ls hH hl => hk pc lv st n pm H locs ls h hH hl
theorem rc_aload_n {k : _root_.Fin 4} {i x : Nat} (hd : decode μ.2.1 pc = .ok (.aload_n k, 1)) (hi : (k : Nat) = i) (hm : (i, Value.ref x) ∈ lv) (h : Rc d μ (pc + 1) lv (.ref x :: st) n0 nm n pm Fin) : Rc d μ pc lv st n0 nm n pm Fin := by
  intro b0 ad dC dI cA p l e R s m args below meth c Z hC hk H locs ls hH hl
  exact lv_aload_n hC.1 hC.2.1 hd hi (lv_of hl hm) (h b0 ad dC dI cA p l e R s m args below meth c Z hC hk H locs ls hH hl)
theorem rc_iconst {k : Int} {v : Int32} (hd : decode μ.2.1 pc = .ok (.iconst k, 1)) (hv : Int32.ofInt k = v) (h : Rc d μ (pc + 1) lv (.int v :: st) n0 nm n pm Fin) : Rc d μ pc lv st n0 nm n pm Fin := by
  intro b0 ad dC dI cA p l e R s m args below meth c Z hC hk H locs ls hH hl
  exact lv_iconst hC.1 hC.2.1 hd hv (h b0 ad dC dI cA p l e R s m args below meth c Z hC hk H locs ls hH hl)
theorem rc_bipush {k : Int} {v : Int32} (hd : decode μ.2.1 pc = .ok (.bipush k, 2)) (hv : (Int8.ofInt k).toInt32 = v) (h : Rc d μ (pc + 2) lv (.int v :: st) n0 nm n pm Fin) : Rc d μ pc lv st n0 nm n pm Fin := by
  intro b0 ad dC dI cA p l e R s m args below meth c Z hC hk H locs ls hH hl
  exact lv_bipush hC.1 hC.2.1 hd hv (h b0 ad dC dI cA p l e R s m args below meth c Z hC hk H locs ls hH hl)
theorem rc_sipush {k : Int} {v : Int32} (hd : decode μ.2.1 pc = .ok (.sipush k, 3)) (hv : (Int16.ofInt k).toInt32 = v) (h : Rc d μ (pc + 3) lv (.int v :: st) n0 nm n pm Fin) : Rc d μ pc lv st n0 nm n pm Fin := by
  intro b0 ad dC dI cA p l e R s m args below meth c Z hC hk H locs ls hH hl
  exact lv_sipush hC.1 hC.2.1 hd hv (h b0 ad dC dI cA p l e R s m args below meth c Z hC hk H locs ls hH hl)
theorem rc_dup {v : Value} (hd : decode μ.2.1 pc = .ok (.dup, 1)) (hc : v.category = 1) (h : Rc d μ (pc + 1) lv (v :: v :: st) n0 nm n pm Fin) : Rc d μ pc lv (v :: st) n0 nm n pm Fin := by
  intro b0 ad dC dI cA p l e R s m args below meth c Z hC hk H locs ls hH hl
  exact lv_dup hC.1 hC.2.1 hd (by rw [cv_cat]; exact hc) (h b0 ad dC dI cA p l e R s m args below meth c Z hC hk H locs ls hH hl)
theorem rc_astore_n {k : _root_.Fin 4} {i : Nat} {x : Nat} {lv' : List (Nat × Value)} (hd : decode μ.2.1 pc = .ok (.astore_n k, 1)) (hi : (k : Nat) = i) (hn : i < μ.2.2.1) (hf : (lv.all (fun q => !(q.1 + 1 == i && q.2.category == 2))) = true) (hl : lput i (Value.ref x) lv = lv') (h : Rc d μ (pc + 1) lv' st n0 nm n pm Fin) : Rc d μ pc lv (.ref x :: st) n0 nm n pm Fin := by
  intro b0 ad dC dI cA p l e R s m args below meth c Z hC hk H locs ls hH hlv
  exact lv_astore_n hC.1 hC.2.1 hd hi hlv hn rfl (fun ls hls => h b0 ad dC dI cA p l e R s m args below meth c Z hC hk H locs ls hH (lput_has hl hf hls))
theorem rc_istore_n {k : _root_.Fin 4} {i : Nat} {x : Int32} {lv' : List (Nat × Value)} (hd : decode μ.2.1 pc = .ok (.istore_n k, 1)) (hi : (k : Nat) = i) (hn : i < μ.2.2.1) (hf : (lv.all (fun q => !(q.1 + 1 == i && q.2.category == 2))) = true) (hl : lput i (Value.int x) lv = lv') (h : Rc d μ (pc + 1) lv' st n0 nm n pm Fin) : Rc d μ pc lv (.int x :: st) n0 nm n pm Fin := by
  intro b0 ad dC dI cA p l e R s m args below meth c Z hC hk H locs ls hH hlv
  exact lv_istore_n hC.1 hC.2.1 hd hi hlv hn rfl (fun ls hls => h b0 ad dC dI cA p l e R s m args below meth c Z hC hk H locs ls hH (lput_has hl hf hls))
end Made
