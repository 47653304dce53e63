/-! A PURE JUDGEMENT OVER THE STATIC WORLD: memory as numbers by cell and slot; 'Rn d μ pc lv st M Q': from pc of the method μ, with locals lv, operand stack st and memory M, the method comes to its return, with an answer and a memory that have Q; d: how deep calls may go. -/
abbrev Mem : Type := (Nat → Nat → Int32) × (Nat → Nat → Int64)
abbrev Mt : Type := MethodName × ByteArray × Nat × Option FieldType
def ri (M : Mem) (k j : Nat) : Int32 := M.1 k j
def rl (M : Mem) (k j : Nat) : Int64 := M.2 k j
def wi (M : Mem) (k j : Nat) (x : Int32) : Mem := (fun a b => if a = k ∧ b = j then x else M.1 a b, M.2)
def wl (M : Mem) (k j : Nat) (x : Int64) : Mem := (M.1, fun a b => if a = k ∧ b = j then x else M.2 a b)
theorem ri_wi (M : Mem) (k j : Nat) (x : Int32) (a b : Nat) : ri (wi M k j x) a b = if a = k ∧ b = j then x else ri M a b := rfl
theorem ri_wl (M : Mem) (k j : Nat) (x : Int64) (a b : Nat) : ri (wl M k j x) a b = ri M a b := rfl
theorem rl_wi (M : Mem) (k j : Nat) (x : Int32) (a b : Nat) : rl (wi M k j x) a b = rl M a b := rfl
theorem rl_wl (M : Mem) (k j : Nat) (x : Int64) (a b : Nat) : rl (wl M k j x) a b = if a = k ∧ b = j then x else rl M a b := rfl
theorem ri_wi_other {M : Mem} {k j : Nat} {x : Int32} {a : Nat} (h : a ≠ k) : ri (wi M k j x) a = ri M a := by
  funext b; rw [ri_wi, if_neg (fun q => h q.1)]
theorem rl_wl_other {M : Mem} {k j : Nat} {x : Int64} {a : Nat} (h : a ≠ k) : rl (wl M k j x) a = rl M a := by
  funext b; rw [rl_wl, if_neg (fun q => h q.1)]
/-- the script's cell, and the cell whose place 0 is its length -/
def SC : Nat := 100
def sl (M : Mem) : Nat := (ri M 101 0).toNatClampNeg
def cv (ad : Nat → Nat) (v : Value) : Value := match v with
  | .ref k => .ref (ad k)
  | v => v
theorem cv_int (ad : Nat → Nat) (x : Int32) : cv ad (.int x) = .int x := rfl
theorem cv_long (ad : Nat → Nat) (x : Int64) : cv ad (.long x) = .long x := rfl
theorem cv_ref (ad : Nat → Nat) (k : Nat) : cv ad (.ref k) = .ref (ad k) := rfl
theorem cv_cat (ad : Nat → Nat) (v : Value) : (cv ad v).category = v.category := by cases v <;> rfl
def cl (ad : Nat → Nat) (q : Nat × Value) : Nat × Value := (q.1, cv ad q.2)
/-- what a field holds, by the field's kind -/
def fva (M : Mem) (c k j : Nat) : Value := match fk c j with
  | 1 => .long (rl M k j)
  | 2 => .ref (rfo k j)
  | 3 => .ref (ri M k j).toNatClampNeg
  | _ => .int (ri M k j)
def ent (ad : Nat → Nat) (cA : Nat → ClassId) (M : Mem) (k : Nat) : va_E := match kd k with
  | (0, c) => .inr (c, (List.range (nf c)).map (fun j => cv ad (fva M c k j)))
  | (1, n) => .inl (cA 0, n, .inl (ri M k))
  | (2, n) => .inl (cA 1, n, .inr (.inl (rl M k)))
  | (3, n) => .inl (cA 2, n, .inl (ri M k))
  | (_, n) => .inl (cA 3, n, .inl (ri M k))
def wsM (ad : Nat → Nat) (cA : Nat → ClassId) (M : Mem) : va_W := (List.range NC).map (fun k => (ad k, ent ad cA M k))
def tysA (cA : Nat → ClassId) : List (ClassId × FieldType) := [(cA 0, .int), (cA 1, .long), (cA 2, .byte), (cA 3, .boolean)]
theorem kd_lt {k a b : Nat} (h : kd k = (a, b)) (ha : a ≠ 9) : k < NC := by
  rcases Nat.lt_or_ge k NC with q | q
  · exact q
  · exfalso
    apply ha
    have : kd k = (9, 0) := by
      unfold kd
      split <;> first | rfl | (simp [NC] at q)
    rw [this] at h
    exact (Prod.mk.inj h).1.symm
theorem wsM_at {ad : Nat → Nat} {cA : Nat → ClassId} {M : Mem} {k : Nat} (h : k < NC) : (wsM ad cA M)[k]? = some (ad k, ent ad cA M k) := by
  unfold wsM
  rw [List.getElem?_map, List.getElem?_range h]
  rfl
theorem wsM_set {ad : Nat → Nat} {cA : Nat → ClassId} {M M' : Mem} {k : Nat} (h : k < NC) (ho : ∀ a, a ≠ k → ent ad cA M' a = ent ad cA M a) : (wsM ad cA M).set k (ad k, ent ad cA M' k) = wsM ad cA M' := by
  apply List.ext_getElem?
  intro i
  by_cases hi : i = k
  · subst hi
    rw [List.getElem?_set_self (by simpa [wsM] using h), wsM_at h]
  · rw [List.getElem?_set_ne (fun q => hi q.symm)]
    rcases Nat.lt_or_ge i NC with q | q
    · rw [wsM_at q, wsM_at q, ho i hi]
    · rw [List.getElem?_eq_none (by simpa [wsM] using q), List.getElem?_eq_none (by simpa [wsM] using q)]
theorem ent_of_fva {ad : Nat → Nat} {cA : Nat → ClassId} {M M' : Mem} {a : Nat} (h1 : ri M' a = ri M a) (h2 : rl M' a = rl M a) : ent ad cA M' a = ent ad cA M a := by
  unfold ent fva
  simp only [h1, h2]
theorem ent_wi {ad : Nat → Nat} {cA : Nat → ClassId} {M : Mem} {k j : Nat} {x : Int32} : ∀ a, a ≠ k → ent ad cA (wi M k j x) a = ent ad cA M a :=
  fun _ h => ent_of_fva (ri_wi_other h) rfl
theorem ent_wl {ad : Nat → Nat} {cA : Nat → ClassId} {M : Mem} {k j : Nat} {x : Int64} : ∀ a, a ≠ k → ent ad cA (wl M k j x) a = ent ad cA M a :=
  fun _ h => ent_of_fva rfl (rl_wl_other h)
theorem ent_obj {ad : Nat → Nat} {cA : Nat → ClassId} {M : Mem} {k c : Nat} (h : kd k = (0, c)) : ent ad cA M k = .inr (c, (List.range (nf c)).map (fun j => cv ad (fva M c k j))) := by
  unfold ent; rw [h]; rfl
theorem ent_i {ad : Nat → Nat} {cA : Nat → ClassId} {M : Mem} {k n : Nat} (h : kd k = (1, n)) : ent ad cA M k = .inl (cA 0, n, .inl (ri M k)) := by
  unfold ent; rw [h]; rfl
theorem ent_l {ad : Nat → Nat} {cA : Nat → ClassId} {M : Mem} {k n : Nat} (h : kd k = (2, n)) : ent ad cA M k = .inl (cA 1, n, .inr (.inl (rl M k))) := by
  unfold ent; rw [h]; rfl
theorem ent_b {ad : Nat → Nat} {cA : Nat → ClassId} {M : Mem} {k n : Nat} (h : kd k = (3, n)) : ent ad cA M k = .inl (cA 2, n, .inl (ri M k)) := by
  unfold ent; rw [h]; rfl
theorem ent_z {ad : Nat → Nat} {cA : Nat → ClassId} {M : Mem} {k n : Nat} (h : kd k = (4, n)) : ent ad cA M k = .inl (cA 3, n, .inl (ri M k)) := by
  unfold ent; rw [h]; rfl
/-! the two String constants: the signs at 102 (their bytes at 103), the words at 104 (105) -/
def txS : String := ";()<>=+-*/%"
def txW : String := "lord    flip    grows   straw   draw    size    at      or      and     not     sides   near    lords   season  "
def lenS : List Nat := [11, 112]
def bytS : List (List Int32) := [[59, 40, 41, 60, 62, 61, 43, 45, 42, 47, 37], [108, 111, 114, 100, 32, 32, 32, 32, 102, 108, 105, 112, 32, 32, 32, 32, 103, 114, 111, 119, 115, 32, 32, 32, 115, 116, 114, 97, 119, 32, 32, 32, 100, 114, 97, 119, 32, 32, 32, 32, 115, 105, 122, 101, 32, 32, 32, 32, 97, 116, 32, 32, 32, 32, 32, 32, 111, 114, 32, 32, 32, 32, 32, 32, 97, 110, 100, 32, 32, 32, 32, 32, 110, 111, 116, 32, 32, 32, 32, 32, 115, 105, 100, 101, 115, 32, 32, 32, 110, 101, 97, 114, 32, 32, 32, 32, 108, 111, 114, 100, 115, 32, 32, 32, 115, 101, 97, 115, 111, 110, 32, 32]]
def OS (b0 : Nat) (ad : Nat → Nat) (s : State) : Prop := vk_R "FrothShire$Reader" 95 txS (ad 102) s ∧ vk_R "FrothShire$Reader" 108 txW (ad 104) s ∧ vk_S 2 lenS bytS (fun i => ad (102 + 2 * i)) (fun i => ad (103 + 2 * i)) (fun q => b0 ≤ q) s s.heap ∧ va_Z "java/lang/String" "COMPACT_STRINGS" "Z" (.int 1) (fun q => b0 ≤ q) s s.heap ∧ ∃ v : Value, v.category = 1 ∧ va_Z "jdk/internal/util/Preconditions" "SIOOBE_FORMATTER" "Ljava/util/function/BiFunction;" (cv ad v) (fun q => b0 ≤ q) s s.heap
theorem OS.same {b0 : Nat} {ad : Nat → Nat} {u U : State} (hh : U.heap = u.heap) (hv : u.vm = U.vm) (h : OS b0 ad u) : OS b0 ad U :=
  ⟨vk_R.same hv.symm h.1, vk_R.same hv.symm h.2.1, by rw [hh]; exact vk_S.moved (by rw [hv]; exact Vm.Alike.refl _) h.2.2.1, by rw [hh]; exact va_Z.moved (by rw [hv]; exact Vm.Alike.refl _) h.2.2.2.1, by obtain ⟨v, h1, h2⟩ := h.2.2.2.2; exact ⟨v, h1, by rw [hh]; exact va_Z.moved (by rw [hv]; exact Vm.Alike.refl _) h2⟩⟩
theorem OS.warm {b0 : Nat} {ad : Nat → Nat} {s U : State} (hk : ∀ q : Nat, q < s.heap.size → ¬ b0 ≤ q → U.heap[q]? = s.heap[q]?) (hW : s.WarmedH U.vm) (h : OS b0 ad s) : OS b0 ad U :=
  ⟨vk_R.warm hW h.1, vk_R.warm hW h.2.1, (vk_S.moved hW.alike h.2.2.1).kept hk, (va_Z.moved hW.alike h.2.2.2.1).kept hk, by obtain ⟨v, h1, h2⟩ := h.2.2.2.2; exact ⟨v, h1, (va_Z.moved hW.alike h2).kept hk⟩⟩
/-- what of the old heap the methods read (String constants), and nest links -/
def OX (b0 : Nat) (ad : Nat → Nat) (s : State) : Prop := b0 ≤ s.heap.size ∧ va_Nw (.methodLinkNest RX2 72 yX8_lowest "FrothShire") s ∧ va_Nw (.methodLinkNest RX5 66 yX8_lowest "FrothShire") s ∧ OS b0 ad s
theorem OX.same {b0 : Nat} {ad : Nat → Nat} {u U : State} (hh : U.heap = u.heap) (hv : u.vm = U.vm) (h : OX b0 ad u) : OX b0 ad U :=
  ⟨by rw [hh]; exact h.1, va_Nw.same rfl hv h.2.1, va_Nw.same rfl hv h.2.2.1, OS.same hh hv h.2.2.2⟩
theorem OX.warm {b0 : Nat} {ad : Nat → Nat} {s U : State} (hz : s.heap.size ≤ U.heap.size) (hk : ∀ q : Nat, q < s.heap.size → ¬ b0 ≤ q → U.heap[q]? = s.heap[q]?) (hW : s.WarmedH U.vm) (h : OX b0 ad s) : OX b0 ad U :=
  ⟨Nat.le_trans h.1 hz, va_Nw.warmM hW h.2.1, va_Nw.warmM hW h.2.2.1, OS.warm hk hW h.2.2.2⟩
/-- what holds of a state at any method's entry -/
def GX (b0 : Nat) (ad : Nat → Nat) (dC : Nat → ClassId) (dI : Nat → Nat → Nat) (cA : Nat → ClassId) (s : State) : Prop :=
  va_K (dC, dI) classes (tysA cA) s ∧ OX b0 ad s ∧ True ∧ ad SC < b0
def Cx (d : Nat) (μ : Mt) (b0 : Nat) (ad : Nat → Nat) (dC : Nat → ClassId) (dI : Nat → Nat → Nat) (cA : Nat → ClassId) (p : Program) (R : Room) (s : State) (m : MethodId) (args : Array Value) (meth : Method) (c : Code) (cells slots : Nat) : Prop :=
  p.tables.exec = Jvm.exec ∧ c.code = μ.2.1 ∧ c.maxLocals = μ.2.2.1 ∧ meth.sig.returnType = μ.2.2.2 ∧ meth.locks = false ∧ s.vm.findClass μ.1.cls = some m.cls ∧ (∀ w ∈ gtb, w.before args s = true) ∧ GX b0 ad dC dI cA s ∧ (d ≤ R.frames ∧ 80 * d ≤ R.locals ∧ cells ≤ R.cells ∧ slots ≤ R.slots)
def HR (b0 : Nat) (ad : Nat → Nat) (dC : Nat → ClassId) (dI : Nat → Nat → Nat) (cA : Nat → ClassId) (s : State) (M : Mem) (H : Heap) (locs : List Loc) : Prop :=
  va_P (dC, dI) classes (wsM ad cA M) H ∧ va_D (fun q => b0 ≤ q) (wsM ad cA M) ∧ va_S (fun q => b0 ≤ q) s.heap H locs ∧ va_X (ad SC) (sl M) (ri M SC) s s.heap
/-- a return that fits the method -/
def RetAt (μ : Mt) (pc : Nat) (v : Option Value) : Prop :=
  (v = none ∧ μ.2.2.2 = none ∧ decode μ.2.1 pc = .ok (.return_, 1)) ∨ ∃ (x : Int32) (ty : FieldType), v = some (.int x) ∧ μ.2.2.2 = some ty ∧ narrow ty (.int x) = .int x ∧ decode μ.2.1 pc = .ok (.ireturn, 1)
def Rn (d : Nat) (μ : Mt) (pc : Nat) (lv : List (Nat × Value)) (st : List Value) (M : Mem) (Q : Option Value → Mem → Prop) : Prop :=
  ∀ (b0 : Nat) (ad : Nat → Nat) (dC : Nat → ClassId) (dI : Nat → Nat → Nat) (cA : Nat → ClassId) (p : Program) (l : Launch) (e : Env) (R : Room) (s : State) (m : MethodId) (args : Array Value) (below : List Frame) (meth : Method) (c : Code) (cells slots : Nat) (Z : State → Prop),
    Cx d μ b0 ad dC dI cA p R s m args meth c cells slots →
    (∀ (pc' : Nat) (v : Option Value) (M' : Mem) (H' : Heap) (locs' : List Loc) (ls' : Array Slot), Q v M' → HR b0 ad dC dI cA s M' H' locs' → RetAt μ pc' v → W p l e R s m args below meth c H' locs' cells slots Z (F0 m pc' ls' v.toList)) →
    ∀ (H : Heap) (locs : List Loc) (ls : Array Slot), HR b0 ad dC dI cA s M H locs → lv_has ls μ.2.2.1 (lv.map (cl ad)) → W p l e R s m args below meth c H locs cells slots Z (F0 m pc ls (st.map (cv ad)))
theorem Rn.mono {d : Nat} {μ : Mt} {pc : Nat} {lv : List (Nat × Value)} {st : List Value} {M : Mem} {Q Q' : Option Value → Mem → Prop} (h : Rn d μ pc lv st M Q) (hQ : ∀ v M', Q v M' → Q' v M') : Rn d μ pc lv st M Q' :=
  fun b0 ad dC dI cA p l e R s m args below meth c cells slots Z hC hk H locs ls hH hl => h b0 ad dC dI cA p l e R s m args below meth c cells slots Z hC (fun pc' v M' H' locs' ls' hq => hk pc' v M' H' locs' ls' (hQ v M' hq)) H locs ls hH hl
theorem Rn.deeper {d d' : Nat} {μ : Mt} {pc : Nat} {lv : List (Nat × Value)} {st : List Value} {M : Mem} {Q : Option Value → Mem → Prop} (hd : d ≤ d') (h : Rn d μ pc lv st M Q) : Rn d' μ pc lv st M Q := by
  intro b0 ad dC dI cA p l e R s m args below meth c cells slots Z hC
  refine h b0 ad dC dI cA p l e R s m args below meth c cells slots Z ?_
  obtain ⟨h1, h2, h3, h4, h5, h6, h7, h8, h9, h10, h11⟩ := hC
  exact ⟨h1, h2, h3, h4, h5, h6, h7, h8, Nat.le_trans hd h9, Nat.le_trans (Nat.mul_le_mul_left 80 hd) h10, h11⟩
/-- fewer locals, by their places -/
theorem Rn.sub {d : Nat} {μ : Mt} {pc : Nat} {lv lv' : List (Nat × Value)} {st : List Value} {M : Mem} {Q : Option Value → Mem → Prop} (hs : ∀ q ∈ lv', q ∈ lv) (h : Rn d μ pc lv' st M Q) : Rn d μ pc lv st M Q := by
  intro b0 ad dC dI cA p l e R s m args below meth c cells slots Z hC hk H locs ls hH hl
  refine h b0 ad dC dI cA p l e R s m args below meth c cells slots Z hC hk H locs ls hH ⟨hl.1, hl.2.1, fun q hq => hl.2.2 q ?_⟩
  obtain ⟨a, ha, rfl⟩ := List.mem_map.mp hq
  exact List.mem_map.mpr ⟨a, hs a ha, rfl⟩
section Steps1
variable {d : Nat} {μ : Mt} {pc : Nat} {lv : List (Nat × Value)} {st : List Value} {M : Mem} {Q : Option Value → Mem → Prop}
theorem lv_of {ls : Array Slot} {n : Nat} {ad : Nat → Nat} (h : lv_has ls n (lv.map (cl ad))) {i : Nat} {v : Value} (hm : (i, v) ∈ lv) : ls[i]? = some (.val (cv ad v)) := h.2.2 (i, cv ad v) (List.mem_map.mpr ⟨(i, v), hm, rfl⟩)
theorem rn_iload_n {k : Fin 4} {i : Nat} {x : Int32} (hd : decode μ.2.1 pc = .ok (.iload_n k, 1)) (hi : (k : Nat) = i) (hm : (i, Value.int x) ∈ lv) (h : Rn d μ (pc + 1) lv (.int x :: st) M Q) : Rn d μ pc lv st M Q := by
  intro b0 ad dC dI cA p l e R s m args below meth c cells slots Z hC hk H locs ls hH hl
  exact lv_iload_n hC.1 hC.2.1 hd hi (lv_of hl hm) (h b0 ad dC dI cA p l e R s m args below meth c cells slots Z hC hk H locs ls hH hl)
theorem rn_iload {i : Nat} {x : Int32} (hd : decode μ.2.1 pc = .ok (.iload i, 2)) (hm : (i, Value.int x) ∈ lv) (h : Rn d μ (pc + 2) lv (.int x :: st) M Q) : Rn d μ pc lv st M Q := by
  intro b0 ad dC dI cA p l e R s m args below meth c cells slots Z hC hk H locs ls hH hl
  exact lv_iload hC.1 hC.2.1 hd (lv_of hl hm) (h b0 ad dC dI cA p l e R s m args below meth c cells slots Z hC hk H locs ls hH hl)
theorem rn_aload_n {k : Fin 4} {i x : Nat} (hd : decode μ.2.1 pc = .ok (.aload_n k, 1)) (hi : (k : Nat) = i) (hm : (i, Value.ref x) ∈ lv) (h : Rn d μ (pc + 1) lv (.ref x :: st) M Q) : Rn d μ pc lv st M Q := by
  intro b0 ad dC dI cA p l e R s m args below meth c cells slots Z hC hk H locs ls hH hl
  exact lv_aload_n hC.1 hC.2.1 hd hi (lv_of hl hm) (h b0 ad dC dI cA p l e R s m args below meth c cells slots Z hC hk H locs ls hH hl)
theorem rn_lload_n {k : Fin 4} {i : Nat} {x : Int64} (hd : decode μ.2.1 pc = .ok (.lload_n k, 1)) (hi : (k : Nat) = i) (hm : (i, Value.long x) ∈ lv) (h : Rn d μ (pc + 1) lv (.long x :: st) M Q) : Rn d μ pc lv st M Q := by
  intro b0 ad dC dI cA p l e R s m args below meth c cells slots Z hC hk H locs ls hH hl
  exact lv_lload_n hC.1 hC.2.1 hd hi (lv_of hl hm) (h b0 ad dC dI cA p l e R s m args below meth c cells slots Z hC hk H locs ls hH hl)
theorem rn_iconst {n : Int} {v : Int32} (hd : decode μ.2.1 pc = .ok (.iconst n, 1)) (hv : Int32.ofInt n = v) (h : Rn d μ (pc + 1) lv (.int v :: st) M Q) : Rn d μ pc lv st M Q := by
  intro b0 ad dC dI cA p l e R s m args below meth c cells slots Z hC hk H locs ls hH hl
  exact lv_iconst hC.1 hC.2.1 hd hv (h b0 ad dC dI cA p l e R s m args below meth c cells slots Z hC hk H locs ls hH hl)
theorem rn_bipush {n : Int} {v : Int32} (hd : decode μ.2.1 pc = .ok (.bipush n, 2)) (hv : (Int8.ofInt n).toInt32 = v) (h : Rn d μ (pc + 2) lv (.int v :: st) M Q) : Rn d μ pc lv st M Q := by
  intro b0 ad dC dI cA p l e R s m args below meth c cells slots Z hC hk H locs ls hH hl
  exact lv_bipush hC.1 hC.2.1 hd hv (h b0 ad dC dI cA p l e R s m args below meth c cells slots Z hC hk H locs ls hH hl)
theorem rn_sipush {n : Int} {v : Int32} (hd : decode μ.2.1 pc = .ok (.sipush n, 3)) (hv : (Int16.ofInt n).toInt32 = v) (h : Rn d μ (pc + 3) lv (.int v :: st) M Q) : Rn d μ pc lv st M Q := by
  intro b0 ad dC dI cA p l e R s m args below meth c cells slots Z hC hk H locs ls hH hl
  exact lv_sipush hC.1 hC.2.1 hd hv (h b0 ad dC dI cA p l e R s m args below meth c cells slots Z hC hk H locs ls hH hl)
theorem rn_get {idx ci j k : Nat} {C : String} {T : u_T} {N : Nat} {v : Value} (hd : decode μ.2.1 pc = .ok (.getfield idx, 3)) (hk : kd k = (0, ci)) (hc : classes[ci]? = some (C, T, N)) (hin : ∀ w ∈ u_ws C T N, w ∈ gtb) (hN : nf ci = N) (hj : j < N) (hl : Cond.fieldLink μ.1.cls idx C (T j).2.1 (T j).2.2.1 ∈ gtb) (hC : (T j).1 = C) (hv : fva M ci k j = v) (h : Rn d μ (pc + 3) lv (v :: st) M Q) : Rn d μ pc lv (.ref k :: st) M Q := by
  intro b0 ad dC dI cA p l e R s m args below meth c cells slots Z hX hkk H locs ls hH hlv
  have hkl : k < NC := kd_lt hk (by decide)
  have he := wsM_at (ad := ad) (cA := cA) (M := M) hkl
  rw [ent_obj hk] at he
  refine va_get (cl := classes) (own := μ.1.cls) hX.1 hX.2.1 hX.2.2.2.2.2.2.1 hin hX.2.2.2.2.2.1 hX.2.2.2.2.2.2.2.1.1 hH.1 k he hc j hj (hX.2.2.2.2.2.2.1 _ hl) (fun x q => by rw [hC] at q; exact q) (v := cv ad v) ?_ hd (h b0 ad dC dI cA p l e R s m args below meth c cells slots Z hX hkk H locs ls hH hlv)
  rw [List.getElem?_map, List.getElem?_range (by omega)]
  simp [hv]
theorem rn_iaload {k n : Nat} {i : Int32} (hd : decode μ.2.1 pc = .ok (.iaload, 1)) (hk : kd k = (1, n)) (hi : vp_in i n) (h : Rn d μ (pc + 1) lv (.int (ri M k i.toNatClampNeg) :: st) M Q) : Rn d μ pc lv (.int i :: .ref k :: st) M Q := by
  intro b0 ad dC dI cA p l e R s m args below meth c cells slots Z hX hkk H locs ls hH hlv
  have he := wsM_at (ad := ad) (cA := cA) (M := M) (kd_lt hk (by decide))
  rw [ent_i hk] at he
  exact va_iald hX.1 hX.2.1 hX.2.2.2.2.2.2.2.1.1 hH.1 k 0 he rfl hi hd (h b0 ad dC dI cA p l e R s m args below meth c cells slots Z hX hkk H locs ls hH hlv)
end Steps1
