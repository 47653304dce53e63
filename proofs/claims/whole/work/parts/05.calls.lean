/-! fields are put; longs; what the library does; calls -/
section Puts
variable {d : Nat} {μ : Mt} {pc : Nat} {lv : List (Nat × Value)} {st : List Value} {M : Mem} {Q : Option Value → Mem → Prop}
theorem set_map_range {α : Type} {f g : Nat → α} {n j : Nat} {v : α} (hv : v = g j) (ho : ∀ i, i ≠ j → g i = f i) : ((List.range n).map f).set j v = (List.range n).map g := by
  apply List.ext_getElem?
  intro i
  by_cases hi : i = j
  · subst hi
    rcases Nat.lt_or_ge i n with q | q
    · rw [List.getElem?_set_self (by simpa using q), List.getElem?_map, List.getElem?_range q, hv]; rfl
    · rw [List.getElem?_eq_none (by simpa using q), List.getElem?_eq_none (by simpa using q)]
  · rw [List.getElem?_set_ne (fun q => hi q.symm), List.getElem?_map, List.getElem?_map]
    cases h : (List.range n)[i]? with
    | none => rfl
    | some a =>
      have : a = i := by
        have h1 := (List.getElem?_eq_some_iff.mp h).2
        simpa using h1.symm
      subst this
      simp [ho a hi]
theorem fva_wi_other {c k j i : Nat} {x : Int32} (h : i ≠ j) : fva (wi M k j x) c k i = fva M c k i := by
  have e : ri (wi M k j x) k i = ri M k i := by rw [ri_wi, if_neg (fun q => h q.2)]
  unfold fva
  rw [e]
  rfl
theorem fva_wl_other {c k j i : Nat} {x : Int64} (h : i ≠ j) : fva (wl M k j x) c k i = fva M c k i := by
  have e : rl (wl M k j x) k i = rl M k i := by rw [rl_wl, if_neg (fun q => h q.2)]
  unfold fva
  rw [e]
  rfl
/-- what the puts need of a field: it isn't final, it is of this class, its type -/
def PF (own : String) (idx ci j : Nat) (ty : FieldType) : Prop := ∃ (C : String) (T : u_T) (N : Nat) (ty0 : Nat → FieldType), classes[ci]? = some (C, T, N) ∧ (∀ w ∈ u_ws C T N, w ∈ gtb) ∧ nf ci = N ∧ j < N ∧ Cond.fieldLink own idx C (T j).2.1 (T j).2.2.1 ∈ gtb ∧ (T j).1 = C ∧ (∀ k, k < N → parseFieldDescriptor (T k).2.2.1 = some (ty0 k)) ∧ (∀ a, a < N → ∀ b, b < N → a ≠ b → (T a).2.1 ≠ (T b).2.1) ∧ (T j).2.2.2 = false ∧ ty0 j = ty
theorem rn_puti {idx ci j k : Nat} {x : Int32} {ty : FieldType} (hd : decode μ.2.1 pc = .ok (.putfield idx, 3)) (hk : kd k = (0, ci)) (hf : PF μ.1.cls idx ci j ty) (hfk : fk ci j = 0 ∨ fk ci j = 4) (hn : narrow ty (.int x) = .int x) (hfit : fits ty (.int x) = true) (h : Rn d μ (pc + 3) lv st (wi M k j x) Q) : Rn d μ pc lv (.int x :: .ref k :: st) M Q := by
  intro b0 ad dC dI cA p l e R s m args below meth c cells slots Z hX hkk H locs ls hH hlv
  obtain ⟨C, T, N, ty0, hc, hin, hN, hj, hl, hC, hty, hnm, hfin, hty1⟩ := hf
  have he := wsM_at (ad := ad) (cA := cA) (M := M) (kd_lt hk (by decide))
  rw [ent_obj hk] at he
  refine va_put (cl := classes) (own := μ.1.cls) hX.1 hX.2.1 hX.2.2.2.2.2.2.1 hin ty0 hty hnm hX.2.2.2.2.2.1 hX.2.2.2.2.2.2.2.1.1 hH.1 hH.2.1 hH.2.2.1 k he hc j hj (hX.2.2.2.2.2.2.1 _ hl) (fun x q => by rw [hC] at q; exact q) hfin (v := .int x) (by rw [hty j hj, hty1]) hn hfit (by simp; omega) hd (fun H1 locs1 hP hD hS => h b0 ad dC dI cA p l e R s m args below meth c cells slots Z hX hkk H1 locs1 ls (HR_wi hk (by decide) hH _ ?_ hP hD hS) hlv)
  rw [ent_obj hk]
  congr 2
  refine set_map_range ?_ (fun i hi => by rw [fva_wi_other hi])
  have e1 : ri (wi M k j x) k j = x := by rw [ri_wi, if_pos ⟨rfl, rfl⟩]
  unfold fva
  rcases hfk with q | q <;> rw [q] <;> simp only [e1] <;> rfl
theorem rn_putr {idx ci j k t : Nat} {ty : FieldType} {x : Int32} (hd : decode μ.2.1 pc = .ok (.putfield idx, 3)) (hk : kd k = (0, ci)) (hf : PF μ.1.cls idx ci j ty) (hfk : fk ci j = 3) (hx : x.toNatClampNeg = t) (hn : ∀ a, narrow ty (.ref a) = .ref a) (hfit : ∀ a, fits ty (.ref a) = true) (h : Rn d μ (pc + 3) lv st (wi M k j x) Q) : Rn d μ pc lv (.ref t :: .ref k :: st) M Q := by
  intro b0 ad dC dI cA p l e R s m args below meth c cells slots Z hX hkk H locs ls hH hlv
  obtain ⟨C, T, N, ty0, hc, hin, hN, hj, hl, hC, hty, hnm, hfin, hty1⟩ := hf
  have he := wsM_at (ad := ad) (cA := cA) (M := M) (kd_lt hk (by decide))
  rw [ent_obj hk] at he
  refine va_put (cl := classes) (own := μ.1.cls) hX.1 hX.2.1 hX.2.2.2.2.2.2.1 hin ty0 hty hnm hX.2.2.2.2.2.1 hX.2.2.2.2.2.2.2.1.1 hH.1 hH.2.1 hH.2.2.1 k he hc j hj (hX.2.2.2.2.2.2.1 _ hl) (fun x q => by rw [hC] at q; exact q) hfin (v := .ref (ad t)) (by rw [hty j hj, hty1]) (hn _) (hfit _) (by simp; omega) hd (fun H1 locs1 hP hD hS => h b0 ad dC dI cA p l e R s m args below meth c cells slots Z hX hkk H1 locs1 ls (HR_wi hk (by decide) hH _ ?_ hP hD hS) hlv)
  rw [ent_obj hk]
  congr 2
  refine set_map_range ?_ (fun i hi => by rw [fva_wi_other hi])
  have e1 : ri (wi M k j x) k j = x := by rw [ri_wi, if_pos ⟨rfl, rfl⟩]
  unfold fva
  rw [hfk]
  simp only [e1, hx]
  rfl
theorem rn_putl {idx ci j k : Nat} {x : Int64} (hd : decode μ.2.1 pc = .ok (.putfield idx, 3)) (hk : kd k = (0, ci)) (hf : PF μ.1.cls idx ci j .long) (hfk : fk ci j = 1) (h : Rn d μ (pc + 3) lv st (wl M k j x) Q) : Rn d μ pc lv (.long x :: .ref k :: st) M Q := by
  intro b0 ad dC dI cA p l e R s m args below meth c cells slots Z hX hkk H locs ls hH hlv
  obtain ⟨C, T, N, ty0, hc, hin, hN, hj, hl, hC, hty, hnm, hfin, hty1⟩ := hf
  have he := wsM_at (ad := ad) (cA := cA) (M := M) (kd_lt hk (by decide))
  rw [ent_obj hk] at he
  refine va_put (cl := classes) (own := μ.1.cls) hX.1 hX.2.1 hX.2.2.2.2.2.2.1 hin ty0 hty hnm hX.2.2.2.2.2.1 hX.2.2.2.2.2.2.2.1.1 hH.1 hH.2.1 hH.2.2.1 k he hc j hj (hX.2.2.2.2.2.2.1 _ hl) (fun x q => by rw [hC] at q; exact q) hfin (v := .long x) (by rw [hty j hj, hty1]) rfl rfl (by simp; omega) hd (fun H1 locs1 hP hD hS => h b0 ad dC dI cA p l e R s m args below meth c cells slots Z hX hkk H1 locs1 ls (HR_wl hk (by decide) hH _ ?_ hP hD hS) hlv)
  rw [ent_obj hk]
  congr 2
  refine set_map_range ?_ (fun i hi => by rw [fva_wl_other hi])
  have e1 : rl (wl M k j x) k j = x := by rw [rl_wl, if_pos ⟨rfl, rfl⟩]
  unfold fva
  rw [hfk]
  simp only [e1]
  rfl
theorem rn_lconst {n : Fin 2} {v : Int64} (hd : decode μ.2.1 pc = .ok (.lconst n, 1)) (hv : Int64.ofNat (n : Nat) = v) (h : Rn d μ (pc + 1) lv (.long v :: st) M Q) : Rn d μ pc lv st M Q := by
  intro b0 ad dC dI cA p l e R s m args below meth c cells slots Z hX hkk H locs ls hH hlv
  exact lv_lconst hX.1 hX.2.1 hd hv (h b0 ad dC dI cA p l e R s m args below meth c cells slots Z hX hkk H locs ls hH hlv)
theorem rn_ladd {x y : Int64} (hd : decode μ.2.1 pc = .ok (.ladd, 1)) (h : Rn d μ (pc + 1) lv (.long (x + y) :: st) M Q) : Rn d μ pc lv (.long y :: .long x :: st) M Q := by
  intro b0 ad dC dI cA p l e R s m args below meth c cells slots Z hX hkk H locs ls hH hlv
  exact lv_ladd hX.1 hX.2.1 hd (h b0 ad dC dI cA p l e R s m args below meth c cells slots Z hX hkk H locs ls hH hlv)
theorem rn_lmul {x y : Int64} (hd : decode μ.2.1 pc = .ok (.lmul, 1)) (h : Rn d μ (pc + 1) lv (.long (x * y) :: st) M Q) : Rn d μ pc lv (.long y :: .long x :: st) M Q := by
  intro b0 ad dC dI cA p l e R s m args below meth c cells slots Z hX hkk H locs ls hH hlv
  exact lv_lmul hX.1 hX.2.1 hd (h b0 ad dC dI cA p l e R s m args below meth c cells slots Z hX hkk H locs ls hH hlv)
theorem rn_lor {x y : Int64} (hd : decode μ.2.1 pc = .ok (.lor, 1)) (h : Rn d μ (pc + 1) lv (.long (x ||| y) :: st) M Q) : Rn d μ pc lv (.long y :: .long x :: st) M Q := by
  intro b0 ad dC dI cA p l e R s m args below meth c cells slots Z hX hkk H locs ls hH hlv
  exact lv_lor hX.1 hX.2.1 hd (h b0 ad dC dI cA p l e R s m args below meth c cells slots Z hX hkk H locs ls hH hlv)
theorem rn_lshl {x : Int64} {y : Int32} (hd : decode μ.2.1 pc = .ok (.lshl, 1)) (h : Rn d μ (pc + 1) lv (.long (x <<< (y.toInt64 &&& 63)) :: st) M Q) : Rn d μ pc lv (.int y :: .long x :: st) M Q := by
  intro b0 ad dC dI cA p l e R s m args below meth c cells slots Z hX hkk H locs ls hH hlv
  exact lv_lshl hX.1 hX.2.1 hd rfl (h b0 ad dC dI cA p l e R s m args below meth c cells slots Z hX hkk H locs ls hH hlv)
theorem rn_i2l {x : Int32} (hd : decode μ.2.1 pc = .ok (.i2l, 1)) (h : Rn d μ (pc + 1) lv (.long x.toInt64 :: st) M Q) : Rn d μ pc lv (.int x :: st) M Q := by
  intro b0 ad dC dI cA p l e R s m args below meth c cells slots Z hX hkk H locs ls hH hlv
  exact lv_i2l hX.1 hX.2.1 hd rfl (h b0 ad dC dI cA p l e R s m args below meth c cells slots Z hX hkk H locs ls hH hlv)
theorem rn_i2c {x : Int32} (hd : decode μ.2.1 pc = .ok (.i2c, 1)) (h : Rn d μ (pc + 1) lv (.int (x.toUInt32 % 65536).toInt32 :: st) M Q) : Rn d μ pc lv (.int x :: st) M Q := by
  intro b0 ad dC dI cA p l e R s m args below meth c cells slots Z hX hkk H locs ls hH hlv
  exact lv_i2c hX.1 hX.2.1 hd rfl (h b0 ad dC dI cA p l e R s m args below meth c cells slots Z hX hkk H locs ls hH hlv)
theorem rn_iushr {x y : Int32} (hd : decode μ.2.1 pc = .ok (.iushr, 1)) (h : Rn d μ (pc + 1) lv (.int (x.toUInt32 >>> (y.toUInt32 &&& Int32.toUInt32 31)).toInt32 :: st) M Q) : Rn d μ pc lv (.int y :: .int x :: st) M Q := by
  intro b0 ad dC dI cA p l e R s m args below meth c cells slots Z hX hkk H locs ls hH hlv
  exact lv_iushr hX.1 hX.2.1 hd rfl (h b0 ad dC dI cA p l e R s m args below meth c cells slots Z hX hkk H locs ls hH hlv)
theorem rn_lcmp {x y : Int64} (hd : decode μ.2.1 pc = .ok (.lcmp, 1)) (h : Rn d μ (pc + 1) lv (.int (lg_cmp x y) :: st) M Q) : Rn d μ pc lv (.long y :: .long x :: st) M Q := by
  intro b0 ad dC dI cA p l e R s m args below meth c cells slots Z hX hkk H locs ls hH hlv
  exact W.lcmp hX.1 hX.2.1 hd (h b0 ad dC dI cA p l e R s m args below meth c cells slots Z hX hkk H locs ls hH hlv)
theorem cv_sum (ad : Nat → Nat) (l : List Value) : ((l.map (cv ad)).map fun v => v.category) = l.map fun v => v.category := by
  rw [List.map_map]; congr 1; funext v; exact cv_cat ad v
/-- Math.min, Math.max -/
def MathIn (own : String) (idx : Nat) (y : MethodName) (cc : ByteArray) : Prop := Cond.methodLink own idx y ∈ gtb ∧ Cond.static y ∈ gtb ∧ Cond.initialized "java/lang/Math" ∈ gtb ∧ Cond.code y cc 2 (some .int) ∈ gtb
theorem rn_mmin {idx : Nat} {x y : Int32} (hd : decode μ.2.1 pc = .ok (.invokestatic idx, 3)) (hw : MathIn μ.1.cls idx Lib.Math.min.name Lib.Math.min.code) (hs : (st.map fun v => v.category).sum ≤ 8) (h : Rn (d + 1) μ (pc + 3) lv (.int (if y < x then y else x) :: st) M Q) : Rn (d + 1) μ pc lv (.int y :: .int x :: st) M Q := by
  intro b0 ad dC dI cA p l e R s m args below meth c cells slots Z hX hkk H locs ls hH hlv
  have hT := hX.2.2.2.2.2.2.1
  have hR := hX.2.2.2.2.2.2.2.2
  exact va_mmin hX.1 hX.2.1 (hX.2.2.1.trans hlv.1.symm) hX.2.2.2.2.2.1 (hT _ hw.1) (hT _ hw.2.1) (hT _ hw.2.2.1) (hT _ hw.2.2.2) (by omega) (by rw [cv_sum]; omega) hR.2.2.1 hR.2.2.2 hd (h b0 ad dC dI cA p l e R s m args below meth c cells slots Z hX hkk H locs ls hH hlv)
theorem rn_mmax {idx : Nat} {x y : Int32} (hd : decode μ.2.1 pc = .ok (.invokestatic idx, 3)) (hw : MathIn μ.1.cls idx Lib.Math.max.name Lib.Math.max.code) (hs : (st.map fun v => v.category).sum ≤ 8) (h : Rn (d + 1) μ (pc + 3) lv (.int (if x < y then y else x) :: st) M Q) : Rn (d + 1) μ pc lv (.int y :: .int x :: st) M Q := by
  intro b0 ad dC dI cA p l e R s m args below meth c cells slots Z hX hkk H locs ls hH hlv
  have hT := hX.2.2.2.2.2.2.1
  have hR := hX.2.2.2.2.2.2.2.2
  exact va_mmax hX.1 hX.2.1 (hX.2.2.1.trans hlv.1.symm) hX.2.2.2.2.2.1 (hT _ hw.1) (hT _ hw.2.1) (hT _ hw.2.2.1) (hT _ hw.2.2.2) (by omega) (by rw [cv_sum]; omega) hR.2.2.1 hR.2.2.2 hd (h b0 ad dC dI cA p l e R s m args below meth c cells slots Z hX hkk H locs ls hH hlv)
/-- System.arraycopy over rows of ints -/
def cpi (M : Mem) (k0 sp k1 dp n : Nat) : Mem := (fun a b => if a = k1 then va_cpy (ri M k0) (ri M k1) sp dp n b else M.1 a b, M.2)
theorem ri_cpi (M : Mem) (k0 sp k1 dp n a b : Nat) : ri (cpi M k0 sp k1 dp n) a b = if a = k1 ∧ dp ≤ b ∧ b < dp + n then ri M k0 (sp + (b - dp)) else ri M a b := by
  show (if a = k1 then va_cpy (ri M k0) (ri M k1) sp dp n b else M.1 a b) = _
  by_cases h : a = k1
  · subst h
    rw [if_pos rfl]
    unfold va_cpy
    by_cases h2 : dp ≤ b ∧ b < dp + n
    · rw [if_pos h2, if_pos ⟨rfl, h2⟩]
    · rw [if_neg h2, if_neg (fun q => h2 q.2)]
  · rw [if_neg h, if_neg (fun q => h q.1)]; rfl
theorem rl_cpi (M : Mem) (k0 sp k1 dp n a b : Nat) : rl (cpi M k0 sp k1 dp n) a b = rl M a b := rfl
def CopyIn (own : String) (idx : Nat) : Prop := Cond.methodLink own idx arraycopyName ∈ gtb ∧ Cond.native arraycopyName ∈ gtb ∧ Cond.static arraycopyName ∈ gtb ∧ Cond.initialized "java/lang/System" ∈ gtb
theorem nfw : nativeFrameWords "java/lang/System" "arraycopy" 5 + 11 ≤ 72 := by decide +kernel
theorem rn_copy {idx k0 n0 k1 n1 : Nat} {sp dp n : Int32} (hd : decode μ.2.1 pc = .ok (.invokestatic idx, 3)) (hw : CopyIn μ.1.cls idx) (hk0 : kd k0 = (1, n0)) (hk1 : kd k1 = (1, n1)) (h1 : ¬ sp < 0) (h2 : ¬ dp < 0) (h3 : ¬ n < 0) (h4 : sp.toNatClampNeg + n.toNatClampNeg ≤ n0) (h5 : dp.toNatClampNeg + n.toNatClampNeg ≤ n1) (hs : (st.map fun v => v.category).sum ≤ 8) (h : Rn (d + 1) μ (pc + 3) lv st (cpi M k0 sp.toNatClampNeg k1 dp.toNatClampNeg n.toNatClampNeg) Q) : Rn (d + 1) μ pc lv (.int n :: .int dp :: .ref k1 :: .int sp :: .ref k0 :: st) M Q := by
  intro b0 ad dC dI cA p l e R s m args below meth c cells slots Z hX hkk H locs ls hH hlv
  have hT := hX.2.2.2.2.2.2.1
  have hR := hX.2.2.2.2.2.2.2.2
  have he0 := wsM_at (ad := ad) (cA := cA) (M := M) (kd_lt hk0 (by decide))
  rw [ent_i hk0] at he0
  have he1 := wsM_at (ad := ad) (cA := cA) (M := M) (kd_lt hk1 (by decide))
  rw [ent_i hk1] at he1
  have hnf := nfw
  refine va_copyi hX.1 hX.2.1 (hX.2.2.1.trans hlv.1.symm) hX.2.2.2.2.2.1 (hT _ hw.1) (hT _ hw.2.1) (hT _ hw.2.2.1) (hT _ hw.2.2.2) hX.2.2.2.2.2.2.2.1.1 hH.1 hH.2.1 hH.2.2.1 k0 k1 0 0 he0 he1 rfl rfl rfl h1 h2 h3 h4 h5 (fun _ _ => rfl) (by omega) (by rw [cv_sum]; omega) hd (fun H1 locs1 hP hD hS => h b0 ad dC dI cA p l e R s m args below meth c cells slots Z hX hkk H1 locs1 ls ?_ hlv)
  have e0 : va_cpy (ri M k0) (ri M k1) sp.toNatClampNeg dp.toNatClampNeg n.toNatClampNeg = ri (cpi M k0 sp.toNatClampNeg k1 dp.toNatClampNeg n.toNatClampNeg) k1 := by
    funext b
    show _ = (if k1 = k1 then _ else _)
    rw [if_pos rfl]
  have eo : ∀ a, a ≠ k1 → ri (cpi M k0 sp.toNatClampNeg k1 dp.toNatClampNeg n.toNatClampNeg) a = ri M a := fun a ha => by
    funext b; rw [ri_cpi, if_neg (fun q => ha q.1)]
  rw [e0, ← ent_i (ad := ad) (cA := cA) (M := cpi M k0 sp.toNatClampNeg k1 dp.toNatClampNeg n.toNatClampNeg) hk1, wsM_set (kd_lt hk1 (by decide)) (fun a ha => ent_of_fva (eo a ha) rfl)] at hP hD
  refine ⟨hP, hD, hS, ?_⟩
  have h6 := SC_ne hk1 (by decide)
  have e2 : sl (cpi M k0 sp.toNatClampNeg k1 dp.toNatClampNeg n.toNatClampNeg) = sl M := by unfold sl; rw [eo 101 h6.2]
  rw [eo SC h6.1, e2]
  exact hH.2.2.2
end Puts
section Calls
theorem lv_args_map (ad : Nat → Nat) : ∀ (vs : List Value) (i : Nat), lv_args i (vs.map (cv ad)) = (lv_args i vs).map (cl ad) := by
  intro vs
  induction vs with
  | nil => intro i; rfl
  | cons v t ih =>
    intro i
    show (i, cv ad v) :: lv_args (if (cv ad v).category = 2 then i + 2 else i + 1) (t.map (cv ad)) = cl ad (i, v) :: (lv_args (if v.category = 2 then i + 2 else i + 1) t).map (cl ad)
    rw [cv_cat, ih]
    rfl
theorem lg_sl_len (ad : Nat → Nat) : ∀ (vs : List Value), (lg_sl (vs.map (cv ad))).length = (lg_sl vs).length := by
  intro vs
  induction vs with
  | nil => rfl
  | cons v t ih =>
    have e1 : lg_sl ((v :: t).map (cv ad)) = (if (cv ad v).category = 2 then [.val (cv ad v), .second] else [.val (cv ad v)]) ++ lg_sl (t.map (cv ad)) := rfl
    have e2 : lg_sl (v :: t) = (if v.category = 2 then [.val v, .second] else [.val v]) ++ lg_sl t := rfl
    rw [e1, e2, List.length_append, List.length_append, ih, cv_cat]
    by_cases h : v.category = 2 <;> simp [h]
def PcB (b0 : Nat) (ad : Nat → Nat) (dC : Nat → ClassId) (dI : Nat → Nat → Nat) (cA : Nat → ClassId) (M : Mem) (U : State) : Prop :=
  GX b0 ad dC dI cA U ∧ va_P (dC, dI) classes (wsM ad cA M) U.heap ∧ va_D (fun q => b0 ≤ q) (wsM ad cA M) ∧ va_X (ad SC) (sl M) (ri M SC) U U.heap
def QcB (b0 : Nat) (ad : Nat → Nat) (dC : Nat → ClassId) (dI : Nat → Nat → Nat) (cA : Nat → ClassId) (Q : Option Value → Mem → Prop) : Array Value → State → Outcome → State → Prop := fun _ s0 o t =>
  (∃ (v : Option Value) (M' : Mem), o = .returned v ∧ (v = none ∨ ∃ x, v = some (.int x)) ∧ Q v M' ∧ va_P (dC, dI) classes (wsM ad cA M') t.heap ∧ va_D (fun q => b0 ≤ q) (wsM ad cA M') ∧ va_X (ad SC) (sl M') (ri M' SC) s0 s0.heap) ∧ va_F (fun q => b0 ≤ q) s0 t
/-- what a call needs of the method called -/
def MF (μ : Mt) (n : Nat) : Prop := plainName μ.1.cls = true ∧ Cond.code μ.1 μ.2.1 μ.2.2.1 μ.2.2.2 ∈ gtb ∧ Cond.initialized μ.1.cls ∈ gtb ∧ (μ.1.cls ≠ "java/lang/invoke/MethodHandle" ∧ μ.1.cls ≠ "java/lang/invoke/VarHandle") ∧ (parseMethodDescriptor μ.1.desc).map (fun d => d.parameters.length) = some n ∧ μ.2.2.1 ≤ 60
def wsF (μ : Mt) : List Cond := Cond.code μ.1 μ.2.1 μ.2.2.1 μ.2.2.2 :: gtb
def rmF (d : Nat) : Room := { frames := d, cells := 0, slots := 0, locals := 80 * d }
theorem met_of (l : Launch) {d : Nat} {μ : Mt} {M : Mem} {Q : Option Value → Mem → Prop} {av : List Value} {n : Nat} (b0 : Nat) (ad : Nat → Nat) (dC : Nat → ClassId) (dI : Nat → Nat → Nat) (cA : Nat → ClassId) (hF : MF μ n) (hlen : (lg_sl av).length ≤ μ.2.2.1) (h : Rn d μ 0 (lv_args 0 av) [] M Q) :
    Met l μ.1 (wsF μ) (rmF d) (va_Pc (av.map (cv ad)) (PcB b0 ad dC dI cA M)) (QcB b0 ad dC dI cA Q) 0 0 (fun q => b0 ≤ q) := by
  refine Met.ofW (cc := μ.2.1) (maxL := μ.2.2.1) (ret := μ.2.2.2) hF.1 rfl ?_
  intro p e s m args below meth c s₁ B hml hv
  obtain ⟨rfl, hG, hP, hD, hXs⟩ := hv
  have hts := atoms_spec (ws := wsF μ) B.pre
  have hl := lv_entry (av.map (cv ad)) (n := μ.2.2.1) (by rw [lg_sl_len]; exact hlen)
  rw [lg_entry_eq]
  rw [lv_args_map] at hl
  have hlocks := B.notSynchronized
  refine h b0 ad dC dI cA p l e (rmF d) s m _ below meth c 0 0 _ ⟨B.exec, B.bytes, hml, B.returns, B.notSynchronized, findClass_of_methodNamed B.named, fun w hw => hts w (List.mem_cons_of_mem _ hw), hG, Nat.le_refl _, Nat.le_refl _, Nat.le_refl _, Nat.le_refl _⟩ ?_ s.heap [] _ ⟨hP, hD, va_S.rf, hXs⟩ hl
  intro pc' v M' H' locs' ls' hq hH hr
  rcases hr with ⟨rfl, hr, hdc⟩ | ⟨x, ty, rfl, hr, hn, hdc⟩
  · exact W.vret B.exec B.bytes (B.returns.trans hr) (fun t ht hW => ⟨⟨none, M', rfl, Or.inl rfl, hq, by rw [ht]; exact hH.1, hH.2.1, hH.2.2.2⟩, hH.2.2.1.F ht⟩) hH.2.2.1.2.2 hdc hlocks
  · exact W.zret B.exec B.bytes (B.returns.trans hr) hn (fun t ht hW => ⟨⟨some (.int x), M', rfl, Or.inr ⟨x, rfl⟩, hq, by rw [ht]; exact hH.1, hH.2.1, hH.2.2.2⟩, hH.2.2.1.F ht⟩) hH.2.2.1.2.2 hdc hlocks
theorem blindB {b0 : Nat} {ad : Nat → Nat} {dC : Nat → ClassId} {dI : Nat → Nat → Nat} {cA : Nat → ClassId} {M : Mem} {av : List Value} : FrameBlind (va_Pc av (PcB b0 ad dC dI cA M)) := by
  intro a U g mk q
  obtain ⟨q0, ⟨qK, qO, qA, qS⟩, qP, qD, qX⟩ := q
  exact ⟨q0, ⟨va_K.moved (u := U) (U := U.calling g mk a) (Vm.Alike.refl U.vm) qK, OX.same (U := U.calling g mk a) rfl rfl qO, qA, qS⟩, qP, qD, va_X.moved (u := U) (U := U.calling g mk a) (Vm.Alike.refl U.vm) qX⟩
theorem va_X.kept2 {b L : Nat} {xs : Nat → Int32} {U : State} {H H1 : Heap} (h : va_X b L xs U H) (e : H1[b]? = H[b]?) : va_X b L xs U H1 := by
  obtain ⟨scr, h1, h2⟩ := h
  exact ⟨scr, by rw [e]; exact h1, h2⟩
variable {d : Nat} {μ μ' : Mt} {pc : Nat} {lv : List (Nat × Value)} {st : List Value} {M : Mem} {Q : Option Value → Mem → Prop}
theorem preB {b0 : Nat} {ad : Nat → Nat} {dC : Nat → ClassId} {dI : Nat → Nat → Nat} {cA : Nat → ClassId} {s : State} {H : Heap} {locs : List Loc} {av : List Value} (hG : GX b0 ad dC dI cA s) (hH : HR b0 ad dC dI cA s M H locs) : ∀ U : State, U.heap = H → s.WarmedH U.vm → va_Pc (av.map (cv ad)) (PcB b0 ad dC dI cA M) (av.map (cv ad)).toArray U := by
  intro U hU hW
  obtain ⟨qK, qO, qA, qS⟩ := hG
  have hz : b0 ≤ s.heap.size := qO.1
  refine ⟨rfl, ⟨va_K.moved hW.alike qK, OX.warm (by rw [hU]; exact hH.2.2.1.1) (by rw [hU]; exact hH.2.2.1.2.1) hW qO, qA, qS⟩, by rw [hU]; exact hH.1, hH.2.1, ?_⟩
  · rw [hU]
    exact va_X.kept2 (va_X.moved hW.alike hH.2.2.2) (hH.2.2.1.2.1 (ad SC) (by omega) (Nat.not_le.mpr qS))
/-- behind a call -/
theorem behind {b0 : Nat} {ad : Nat → Nat} {dC : Nat → ClassId} {dI : Nat → Nat → Nat} {cA : Nat → ClassId} {p : Program} {l : Launch} {e : Env} {R : Room} {s : State} {m : MethodId} {args : Array Value} {below : List Frame} {meth : Method} {c : Code} {cells slots : Nat} {Z : State → Prop} {H : Heap} {locs : List Loc} {ls : Array Slot} {st0 : List Value} {a : Array Value} {Q' : Option Value → Mem → Prop} (hG : GX b0 ad dC dI cA s) (hH : HR b0 ad dC dI cA s M H locs)
    (hr : va_Run p l e R s m args below meth c H locs cells slots 0 0 (F0 m pc ls st0) (st.map (cv ad)) (QcB b0 ad dC dI cA Q' a) (fun q => b0 ≤ q))
    (kk : ∀ (v : Option Value) (M' : Mem) (H1 : Heap) (locs1 : List Loc), Q' v M' → HR b0 ad dC dI cA s M' H1 locs1 → W p l e R s m args below meth c H1 locs1 cells slots Z (F0 m (pc + 3) ls ((v.toList ++ st).map (cv ad)))) : W p l e R s m args below meth c H locs cells slots Z (F0 m pc ls st0) := by
  intro T hT X
  obtain ⟨v, st₀, t, T', L, h0, X', hL, e1, e2, ⟨⟨w, M', hv, hw, hq, hP, hD, hXs⟩, hz, hkp⟩, hst⟩ := hr T hT X
  cases hv
  rw [h0] at hz hkp
  obtain ⟨qK, qO, qA, qS⟩ := hG
  have hzz : b0 ≤ s.heap.size := qO.1
  have hS : va_S (fun q => b0 ≤ q) s.heap T'.heap (locs ++ L) := ⟨Nat.le_trans hH.2.2.1.1 (by rw [e1]; exact hz), fun q h1 h2 => by
    rw [e1, hkp q (Nat.lt_of_lt_of_le h1 hH.2.2.1.1) h2]; exact hH.2.2.1.2.1 q h1 h2, fun q hq => by
      rcases List.mem_append.mp hq with h | h
      · exact hH.2.2.1.2.2 q h
      · exact hL q h⟩
  have hXs2 : va_X (ad SC) (sl M') (ri M' SC) s s.heap := by
    rw [h0] at hXs
    obtain ⟨scr, g1, g2, g3, g4, g5⟩ := hXs
    obtain ⟨scr2, k1, k2, k3, k4, k5⟩ := hH.2.2.2
    have e3 : H[ad SC]? = s.heap[ad SC]? := hH.2.2.1.2.1 (ad SC) (by omega) (Nat.not_le.mpr qS)
    rw [e3, k1] at g1
    have e5 : scr2 = scr := Option.some.inj g1
    subst e5
    exact ⟨scr2, k1, k2, g3, g4, g5⟩
  have e4 : (v.toList ++ st).map (cv ad) = v.toList ++ st.map (cv ad) := by
    rcases hw with rfl | ⟨x, rfl⟩ <;> rfl
  obtain ⟨t2, a1, b1⟩ := kk v M' T'.heap (locs ++ L) hq ⟨by rw [e1]; exact hP, hD, hS, hXs2⟩ T' rfl X'
  rw [e4] at a1
  exact ⟨t2, hst t2 a1, b1⟩
theorem goodF (hF : Cond.code μ'.1 μ'.2.1 μ'.2.2.1 μ'.2.2.2 ∈ gtb) : GoodIn gtb (wsF μ') := fun w h => by
  rcases List.mem_cons.mp h with rfl | h
  · exact gtb_good _ hF
  · exact gtb_good _ h
/-- an instance method of a cell's own class is called -/
theorem rn_callV {idx n o ci : Nat} {C : String} {T : u_T} {N : Nat} {as : List Value} {st0 : List Value} (hd : decode μ.2.1 pc = .ok (.invokevirtual idx, 3)) (hF : MF μ' n) (hl : Cond.methodLink μ.1.cls idx μ'.1 ∈ gtb) (hi : Cond.instanceMethod μ'.1 ∈ gtb) (hsel : Cond.selects μ'.1.cls μ'.1 μ'.1 ∈ gtb) (hk : kd o = (0, ci)) (hc : classes[ci]? = some (C, T, N)) (hC : C = μ'.1.cls) (hn : as.length = n) (hlen : (lg_sl (.ref o :: as)).length ≤ μ'.2.2.1) (hs : (st.map fun v => v.category).sum ≤ 8) (hst : st0 = as.reverse ++ .ref o :: st)
    (h : Rn d μ' 0 (lv_args 0 (.ref o :: as)) [] M (fun v M' => Rn (d + 1) μ (pc + 3) lv (v.toList ++ st) M' Q)) : Rn (d + 1) μ pc lv st0 M Q := by
  intro b0 ad dC dI cA p l e R s m args below meth c cells slots Z hX hkk H locs ls hH hlv
  have hT := hX.2.2.2.2.2.2.1
  have hG := hX.2.2.2.2.2.2.2.1
  have hR := hX.2.2.2.2.2.2.2.2
  have he := wsM_at (ad := ad) (cA := cA) (M := M) (kd_lt hk (by decide))
  rw [ent_obj hk] at he
  subst hst
  have hrecv := va_recv (q0 := o) hG.1 hH.1 hc he
  rw [hC] at hrecv
  have hmx := hF.2.2.2.2.2
  refine behind hG hH (va_runV (As := as.map (cv ad)) (b := ad o) (n := n) (C := μ'.1.cls) (own := μ.1.cls) (index := idx) ⟨hX.1, hX.2.1, hX.2.2.1, hX.2.2.2.2.2.1, hT⟩ (met_of l b0 ad dC dI cA hF hlen h) (cwV (own := μ.1.cls) n hT (fun w hw => ?_) rfl rfl rfl ⟨rfl, hF.2.2.2.1.1, hF.2.2.2.1.2, hF.2.2.2.2.1⟩ ⟨?_, ?_⟩) ⟨blindB, hrecv, preB hG hH⟩ rfl (by rw [List.length_map]; exact hn) hlv.1 ?_ (lv_room (by rw [cv_sum]; exact hs)) hd ⟨hR.2.2.1, hR.2.2.2⟩) (fun v M' H1 locs1 hq hH1 => hq b0 ad dC dI cA p l e R s m args below meth c cells slots Z hX hkk H1 locs1 ls hH1 hlv)
  · unfold wsV at hw
    rcases List.mem_append.mp hw with hw | hw
    · simp only [List.mem_cons, List.not_mem_nil, or_false] at hw
      rcases hw with rfl | rfl | rfl | rfl
      · exact gtb_good _ hl
      · exact gtb_good _ hi
      · exact gtb_good _ hsel
      · exact gtb_good _ hF.2.2.1
    · exact goodF hF.2.1 w hw
  · show d + 1 ≤ R.frames; omega
  · show 8 + (μ'.2.2.1 + 11) + 80 * d ≤ R.locals; omega
  · rw [List.map_append, List.map_reverse]; rfl
/-- a static method of the same class is called -/
theorem rn_callS {idx n : Nat} {as : List Value} {st0 : List Value} (hd : decode μ.2.1 pc = .ok (.invokestatic idx, 3)) (hF : MF μ' n) (hl : Cond.methodLink μ.1.cls idx μ'.1 ∈ gtb) (hi : Cond.static μ'.1 ∈ gtb) (hn : as.length = n) (hlen : (lg_sl as).length ≤ μ'.2.2.1) (hs : (st.map fun v => v.category).sum ≤ 8) (hst : st0 = as.reverse ++ st)
    (h : Rn d μ' 0 (lv_args 0 as) [] M (fun v M' => Rn (d + 1) μ (pc + 3) lv (v.toList ++ st) M' Q)) : Rn (d + 1) μ pc lv st0 M Q := by
  intro b0 ad dC dI cA p l e R s m args below meth c cells slots Z hX hkk H locs ls hH hlv
  have hT := hX.2.2.2.2.2.2.1
  have hG := hX.2.2.2.2.2.2.2.1
  have hR := hX.2.2.2.2.2.2.2.2
  subst hst
  have hmx := hF.2.2.2.2.2
  refine behind hG hH (va_runS (As := as.map (cv ad)) (n := n) (own := μ.1.cls) (index := idx) ⟨hX.1, hX.2.1, hX.2.2.1, hX.2.2.2.2.2.1, hT⟩ (met_of l b0 ad dC dI cA hF hlen h) ⟨callB_of (own := μ.1.cls) n hT (goodF hF.2.1) rfl rfl rfl (hT _ hF.2.2.1) (hT _ hl) ⟨hF.2.2.2.1.1, hF.2.2.2.1.2, hF.2.2.2.2.1⟩ ⟨?_, ?_⟩, hT _ hi⟩ ⟨blindB, preB hG hH⟩ rfl (by rw [List.length_map]; exact hn) hlv.1 ?_ (lv_room (by rw [cv_sum]; exact hs)) hd ⟨hR.2.2.1, hR.2.2.2⟩) (fun v M' H1 locs1 hq hH1 => hq b0 ad dC dI cA p l e R s m args below meth c cells slots Z hX hkk H1 locs1 ls hH1 hlv)
  · show d + 1 ≤ R.frames; omega
  · show 8 + (μ'.2.2.1 + 11) + 80 * d ≤ R.locals; omega
  · rw [List.map_append, List.map_reverse]
/-- a private static method of a nest mate is called -/
theorem rn_callSN {idx n : Nat} {host : String} {as : List Value} {st0 : List Value} (hd : decode μ.2.1 pc = .ok (.invokestatic idx, 3)) (hF : MF μ' n) (hl : ∀ b0 ad s, OX b0 ad s → va_Nw (.methodLinkNest μ.1.cls idx μ'.1 host) s) (hi : Cond.static μ'.1 ∈ gtb) (hn : as.length = n) (hlen : (lg_sl as).length ≤ μ'.2.2.1) (hs : (st.map fun v => v.category).sum ≤ 8) (hst : st0 = as.reverse ++ st)
    (h : Rn d μ' 0 (lv_args 0 as) [] M (fun v M' => Rn (d + 1) μ (pc + 3) lv (v.toList ++ st) M' Q)) : Rn (d + 1) μ pc lv st0 M Q := by
  intro b0 ad dC dI cA p l e R s m args below meth c cells slots Z hX hkk H locs ls hH hlv
  have hT := hX.2.2.2.2.2.2.1
  have hG := hX.2.2.2.2.2.2.2.1
  have hR := hX.2.2.2.2.2.2.2.2
  subst hst
  have hmx := hF.2.2.2.2.2
  refine behind hG hH (va_runSN (Ts := gtb) (As := as.map (cv ad)) (n := n) (own := μ.1.cls) (index := idx) ⟨hX.1, hX.2.1, hX.2.2.1, hX.2.2.2.2.2.1, hT⟩ (met_of l b0 ad dC dI cA hF hlen h) ⟨va_cnB (own := μ.1.cls) n hT (goodF hF.2.1) rfl rfl rfl (hl _ _ _ hG.2.1) (hT _ hF.2.2.1) ⟨hF.2.2.2.1.1, hF.2.2.2.1.2, hF.2.2.2.2.1⟩ ⟨?_, ?_⟩, hT _ hi, trivial⟩ ⟨blindB, preB hG hH⟩ rfl (by rw [List.length_map]; exact hn) hlv.1 ?_ (lv_room (by rw [cv_sum]; exact hs)) hd ⟨hR.2.2.1, hR.2.2.2⟩) (fun v M' H1 locs1 hq hH1 => hq b0 ad dC dI cA p l e R s m args below meth c cells slots Z hX hkk H1 locs1 ls hH1 hlv)
  · show d + 1 ≤ R.frames; omega
  · show 8 + (μ'.2.2.1 + 11) + 80 * d ≤ R.locals; omega
  · rw [List.map_append, List.map_reverse]
end Calls
