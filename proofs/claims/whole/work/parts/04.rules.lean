section Steps2
variable {d : Nat} {μ : Mt} {pc : Nat} {lv : List (Nat × Value)} {st : List Value} {M : Mem} {Q : Option Value → Mem → Prop}
theorem rn_iadd {x y : Int32} (hd : decode μ.2.1 pc = .ok (.iadd, 1)) (h : Rn d μ (pc + 1) lv (.int (x + y) :: st) M Q) : Rn d μ pc lv (.int y :: .int x :: st) M Q := by
  intro b0 ad dC dI cA p l e R s m args below meth c cells slots Z hX hkk H locs ls hH hlv
  exact lv_iadd hX.1 hX.2.1 hd (h b0 ad dC dI cA p l e R s m args below meth c cells slots Z hX hkk H locs ls hH hlv)
theorem rn_isub {x y : Int32} (hd : decode μ.2.1 pc = .ok (.isub, 1)) (h : Rn d μ (pc + 1) lv (.int (x - y) :: st) M Q) : Rn d μ pc lv (.int y :: .int x :: st) M Q := by
  intro b0 ad dC dI cA p l e R s m args below meth c cells slots Z hX hkk H locs ls hH hlv
  exact lv_isub hX.1 hX.2.1 hd (h b0 ad dC dI cA p l e R s m args below meth c cells slots Z hX hkk H locs ls hH hlv)
theorem rn_imul {x y : Int32} (hd : decode μ.2.1 pc = .ok (.imul, 1)) (h : Rn d μ (pc + 1) lv (.int (x * y) :: st) M Q) : Rn d μ pc lv (.int y :: .int x :: st) M Q := by
  intro b0 ad dC dI cA p l e R s m args below meth c cells slots Z hX hkk H locs ls hH hlv
  exact lv_imul hX.1 hX.2.1 hd (h b0 ad dC dI cA p l e R s m args below meth c cells slots Z hX hkk H locs ls hH hlv)
theorem rn_iand {x y : Int32} (hd : decode μ.2.1 pc = .ok (.iand, 1)) (h : Rn d μ (pc + 1) lv (.int (x &&& y) :: st) M Q) : Rn d μ pc lv (.int y :: .int x :: st) M Q := by
  intro b0 ad dC dI cA p l e R s m args below meth c cells slots Z hX hkk H locs ls hH hlv
  exact lv_iand hX.1 hX.2.1 hd (h b0 ad dC dI cA p l e R s m args below meth c cells slots Z hX hkk H locs ls hH hlv)
theorem rn_ior {x y : Int32} (hd : decode μ.2.1 pc = .ok (.ior, 1)) (h : Rn d μ (pc + 1) lv (.int (x ||| y) :: st) M Q) : Rn d μ pc lv (.int y :: .int x :: st) M Q := by
  intro b0 ad dC dI cA p l e R s m args below meth c cells slots Z hX hkk H locs ls hH hlv
  exact lv_ior hX.1 hX.2.1 hd (h b0 ad dC dI cA p l e R s m args below meth c cells slots Z hX hkk H locs ls hH hlv)
theorem rn_ixor {x y : Int32} (hd : decode μ.2.1 pc = .ok (.ixor, 1)) (h : Rn d μ (pc + 1) lv (.int (x ^^^ y) :: st) M Q) : Rn d μ pc lv (.int y :: .int x :: st) M Q := by
  intro b0 ad dC dI cA p l e R s m args below meth c cells slots Z hX hkk H locs ls hH hlv
  exact lv_ixor hX.1 hX.2.1 hd (h b0 ad dC dI cA p l e R s m args below meth c cells slots Z hX hkk H locs ls hH hlv)
theorem rn_ishl {x y : Int32} (hd : decode μ.2.1 pc = .ok (.ishl, 1)) (h : Rn d μ (pc + 1) lv (.int (x <<< (y &&& 31)) :: st) M Q) : Rn d μ pc lv (.int y :: .int x :: st) M Q := by
  intro b0 ad dC dI cA p l e R s m args below meth c cells slots Z hX hkk H locs ls hH hlv
  exact lv_ishl hX.1 hX.2.1 hd (h b0 ad dC dI cA p l e R s m args below meth c cells slots Z hX hkk H locs ls hH hlv)
theorem rn_ishr {x y : Int32} (hd : decode μ.2.1 pc = .ok (.ishr, 1)) (h : Rn d μ (pc + 1) lv (.int (x >>> (y &&& 31)) :: st) M Q) : Rn d μ pc lv (.int y :: .int x :: st) M Q := by
  intro b0 ad dC dI cA p l e R s m args below meth c cells slots Z hX hkk H locs ls hH hlv
  exact lv_ishr hX.1 hX.2.1 hd (h b0 ad dC dI cA p l e R s m args below meth c cells slots Z hX hkk H locs ls hH hlv)
theorem rn_idiv {x y : Int32} (hd : decode μ.2.1 pc = .ok (.idiv, 1)) (hne : ¬ y = 0) (h : Rn d μ (pc + 1) lv (.int (x / y) :: st) M Q) : Rn d μ pc lv (.int y :: .int x :: st) M Q := by
  intro b0 ad dC dI cA p l e R s m args below meth c cells slots Z hX hkk H locs ls hH hlv
  exact lv_idiv hX.1 hX.2.1 hd hne (h b0 ad dC dI cA p l e R s m args below meth c cells slots Z hX hkk H locs ls hH hlv)
theorem rn_irem {x y : Int32} (hd : decode μ.2.1 pc = .ok (.irem, 1)) (hne : ¬ y = 0) (h : Rn d μ (pc + 1) lv (.int (x - x / y * y) :: st) M Q) : Rn d μ pc lv (.int y :: .int x :: st) M Q := by
  intro b0 ad dC dI cA p l e R s m args below meth c cells slots Z hX hkk H locs ls hH hlv
  exact lv_irem hX.1 hX.2.1 hd hne (h b0 ad dC dI cA p l e R s m args below meth c cells slots Z hX hkk H locs ls hH hlv)
theorem rn_ineg {x : Int32} (hd : decode μ.2.1 pc = .ok (.ineg, 1)) (h : Rn d μ (pc + 1) lv (.int (-x) :: st) M Q) : Rn d μ pc lv (.int x :: st) M Q := by
  intro b0 ad dC dI cA p l e R s m args below meth c cells slots Z hX hkk H locs ls hH hlv
  exact lv_ineg hX.1 hX.2.1 hd (h b0 ad dC dI cA p l e R s m args below meth c cells slots Z hX hkk H locs ls hH hlv)
theorem rn_if_eq {x : Int32} {off : Int} {tgt : Nat} (hd : decode μ.2.1 pc = .ok (.ifCond .eq off, 3)) (ht : (pc : Int) + off = (tgt : Int)) (h : if x = 0 then Rn d μ tgt lv st M Q else Rn d μ (pc + 3) lv st M Q) : Rn d μ pc lv (.int x :: st) M Q := by
  intro b0 ad dC dI cA p l e R s m args below meth c cells slots Z hX hkk H locs ls hH hlv
  refine lv_if_eq hX.1 hX.2.1 hd ht (fun q => ?_) (fun q => ?_)
  · rw [if_pos q] at h; exact (h b0 ad dC dI cA p l e R s m args below meth c cells slots Z hX hkk H locs ls hH hlv)
  · rw [if_neg q] at h; exact (h b0 ad dC dI cA p l e R s m args below meth c cells slots Z hX hkk H locs ls hH hlv)
theorem rn_icmp_eq {x y : Int32} {off : Int} {tgt : Nat} (hd : decode μ.2.1 pc = .ok (.if_icmp .eq off, 3)) (ht : (pc : Int) + off = (tgt : Int)) (h : if x = y then Rn d μ tgt lv st M Q else Rn d μ (pc + 3) lv st M Q) : Rn d μ pc lv (.int y :: .int x :: st) M Q := by
  intro b0 ad dC dI cA p l e R s m args below meth c cells slots Z hX hkk H locs ls hH hlv
  refine lv_icmp_eq hX.1 hX.2.1 hd ht (fun q => ?_) (fun q => ?_)
  · rw [if_pos q] at h; exact (h b0 ad dC dI cA p l e R s m args below meth c cells slots Z hX hkk H locs ls hH hlv)
  · rw [if_neg q] at h; exact (h b0 ad dC dI cA p l e R s m args below meth c cells slots Z hX hkk H locs ls hH hlv)
theorem rn_if_lt {x : Int32} {off : Int} {tgt : Nat} (hd : decode μ.2.1 pc = .ok (.ifCond .lt off, 3)) (ht : (pc : Int) + off = (tgt : Int)) (h : if x < 0 then Rn d μ tgt lv st M Q else Rn d μ (pc + 3) lv st M Q) : Rn d μ pc lv (.int x :: st) M Q := by
  intro b0 ad dC dI cA p l e R s m args below meth c cells slots Z hX hkk H locs ls hH hlv
  refine lv_if_lt hX.1 hX.2.1 hd ht (fun q => ?_) (fun q => ?_)
  · rw [if_pos q] at h; exact (h b0 ad dC dI cA p l e R s m args below meth c cells slots Z hX hkk H locs ls hH hlv)
  · rw [if_neg q] at h; exact (h b0 ad dC dI cA p l e R s m args below meth c cells slots Z hX hkk H locs ls hH hlv)
theorem rn_icmp_lt {x y : Int32} {off : Int} {tgt : Nat} (hd : decode μ.2.1 pc = .ok (.if_icmp .lt off, 3)) (ht : (pc : Int) + off = (tgt : Int)) (h : if x < y then Rn d μ tgt lv st M Q else Rn d μ (pc + 3) lv st M Q) : Rn d μ pc lv (.int y :: .int x :: st) M Q := by
  intro b0 ad dC dI cA p l e R s m args below meth c cells slots Z hX hkk H locs ls hH hlv
  refine lv_icmp_lt hX.1 hX.2.1 hd ht (fun q => ?_) (fun q => ?_)
  · rw [if_pos q] at h; exact (h b0 ad dC dI cA p l e R s m args below meth c cells slots Z hX hkk H locs ls hH hlv)
  · rw [if_neg q] at h; exact (h b0 ad dC dI cA p l e R s m args below meth c cells slots Z hX hkk H locs ls hH hlv)
theorem rn_if_ge {x : Int32} {off : Int} {tgt : Nat} (hd : decode μ.2.1 pc = .ok (.ifCond .ge off, 3)) (ht : (pc : Int) + off = (tgt : Int)) (h : if 0 ≤ x then Rn d μ tgt lv st M Q else Rn d μ (pc + 3) lv st M Q) : Rn d μ pc lv (.int x :: st) M Q := by
  intro b0 ad dC dI cA p l e R s m args below meth c cells slots Z hX hkk H locs ls hH hlv
  refine lv_if_ge hX.1 hX.2.1 hd ht (fun q => ?_) (fun q => ?_)
  · rw [if_pos q] at h; exact (h b0 ad dC dI cA p l e R s m args below meth c cells slots Z hX hkk H locs ls hH hlv)
  · rw [if_neg q] at h; exact (h b0 ad dC dI cA p l e R s m args below meth c cells slots Z hX hkk H locs ls hH hlv)
theorem rn_icmp_ge {x y : Int32} {off : Int} {tgt : Nat} (hd : decode μ.2.1 pc = .ok (.if_icmp .ge off, 3)) (ht : (pc : Int) + off = (tgt : Int)) (h : if y ≤ x then Rn d μ tgt lv st M Q else Rn d μ (pc + 3) lv st M Q) : Rn d μ pc lv (.int y :: .int x :: st) M Q := by
  intro b0 ad dC dI cA p l e R s m args below meth c cells slots Z hX hkk H locs ls hH hlv
  refine lv_icmp_ge hX.1 hX.2.1 hd ht (fun q => ?_) (fun q => ?_)
  · rw [if_pos q] at h; exact (h b0 ad dC dI cA p l e R s m args below meth c cells slots Z hX hkk H locs ls hH hlv)
  · rw [if_neg q] at h; exact (h b0 ad dC dI cA p l e R s m args below meth c cells slots Z hX hkk H locs ls hH hlv)
theorem rn_if_gt {x : Int32} {off : Int} {tgt : Nat} (hd : decode μ.2.1 pc = .ok (.ifCond .gt off, 3)) (ht : (pc : Int) + off = (tgt : Int)) (h : if 0 < x then Rn d μ tgt lv st M Q else Rn d μ (pc + 3) lv st M Q) : Rn d μ pc lv (.int x :: st) M Q := by
  intro b0 ad dC dI cA p l e R s m args below meth c cells slots Z hX hkk H locs ls hH hlv
  refine lv_if_gt hX.1 hX.2.1 hd ht (fun q => ?_) (fun q => ?_)
  · rw [if_pos q] at h; exact (h b0 ad dC dI cA p l e R s m args below meth c cells slots Z hX hkk H locs ls hH hlv)
  · rw [if_neg q] at h; exact (h b0 ad dC dI cA p l e R s m args below meth c cells slots Z hX hkk H locs ls hH hlv)
theorem rn_icmp_gt {x y : Int32} {off : Int} {tgt : Nat} (hd : decode μ.2.1 pc = .ok (.if_icmp .gt off, 3)) (ht : (pc : Int) + off = (tgt : Int)) (h : if y < x then Rn d μ tgt lv st M Q else Rn d μ (pc + 3) lv st M Q) : Rn d μ pc lv (.int y :: .int x :: st) M Q := by
  intro b0 ad dC dI cA p l e R s m args below meth c cells slots Z hX hkk H locs ls hH hlv
  refine lv_icmp_gt hX.1 hX.2.1 hd ht (fun q => ?_) (fun q => ?_)
  · rw [if_pos q] at h; exact (h b0 ad dC dI cA p l e R s m args below meth c cells slots Z hX hkk H locs ls hH hlv)
  · rw [if_neg q] at h; exact (h b0 ad dC dI cA p l e R s m args below meth c cells slots Z hX hkk H locs ls hH hlv)
theorem rn_if_le {x : Int32} {off : Int} {tgt : Nat} (hd : decode μ.2.1 pc = .ok (.ifCond .le off, 3)) (ht : (pc : Int) + off = (tgt : Int)) (h : if x ≤ 0 then Rn d μ tgt lv st M Q else Rn d μ (pc + 3) lv st M Q) : Rn d μ pc lv (.int x :: st) M Q := by
  intro b0 ad dC dI cA p l e R s m args below meth c cells slots Z hX hkk H locs ls hH hlv
  refine lv_if_le hX.1 hX.2.1 hd ht (fun q => ?_) (fun q => ?_)
  · rw [if_pos q] at h; exact (h b0 ad dC dI cA p l e R s m args below meth c cells slots Z hX hkk H locs ls hH hlv)
  · rw [if_neg q] at h; exact (h b0 ad dC dI cA p l e R s m args below meth c cells slots Z hX hkk H locs ls hH hlv)
theorem rn_icmp_le {x y : Int32} {off : Int} {tgt : Nat} (hd : decode μ.2.1 pc = .ok (.if_icmp .le off, 3)) (ht : (pc : Int) + off = (tgt : Int)) (h : if x ≤ y then Rn d μ tgt lv st M Q else Rn d μ (pc + 3) lv st M Q) : Rn d μ pc lv (.int y :: .int x :: st) M Q := by
  intro b0 ad dC dI cA p l e R s m args below meth c cells slots Z hX hkk H locs ls hH hlv
  refine lv_icmp_le hX.1 hX.2.1 hd ht (fun q => ?_) (fun q => ?_)
  · rw [if_pos q] at h; exact (h b0 ad dC dI cA p l e R s m args below meth c cells slots Z hX hkk H locs ls hH hlv)
  · rw [if_neg q] at h; exact (h b0 ad dC dI cA p l e R s m args below meth c cells slots Z hX hkk H locs ls hH hlv)
theorem rn_if_ne {x : Int32} {off : Int} {tgt : Nat} (hd : decode μ.2.1 pc = .ok (.ifCond .ne off, 3)) (ht : (pc : Int) + off = (tgt : Int)) (h : if x = 0 then Rn d μ (pc + 3) lv st M Q else Rn d μ tgt lv st M Q) : Rn d μ pc lv (.int x :: st) M Q := by
  intro b0 ad dC dI cA p l e R s m args below meth c cells slots Z hX hkk H locs ls hH hlv
  refine lv_if_ne hX.1 hX.2.1 hd ht (fun q => ?_) (fun q => ?_)
  · rw [if_neg q] at h; exact (h b0 ad dC dI cA p l e R s m args below meth c cells slots Z hX hkk H locs ls hH hlv)
  · rw [if_pos q] at h; exact (h b0 ad dC dI cA p l e R s m args below meth c cells slots Z hX hkk H locs ls hH hlv)
theorem rn_icmp_ne {x y : Int32} {off : Int} {tgt : Nat} (hd : decode μ.2.1 pc = .ok (.if_icmp .ne off, 3)) (ht : (pc : Int) + off = (tgt : Int)) (h : if x = y then Rn d μ (pc + 3) lv st M Q else Rn d μ tgt lv st M Q) : Rn d μ pc lv (.int y :: .int x :: st) M Q := by
  intro b0 ad dC dI cA p l e R s m args below meth c cells slots Z hX hkk H locs ls hH hlv
  refine lv_icmp_ne hX.1 hX.2.1 hd ht (fun q => ?_) (fun q => ?_)
  · rw [if_neg q] at h; exact (h b0 ad dC dI cA p l e R s m args below meth c cells slots Z hX hkk H locs ls hH hlv)
  · rw [if_pos q] at h; exact (h b0 ad dC dI cA p l e R s m args below meth c cells slots Z hX hkk H locs ls hH hlv)
theorem rn_goto {off : Int} {tgt : Nat} (hd : decode μ.2.1 pc = .ok (.goto off, 3)) (ht : (pc : Int) + off = (tgt : Int)) (h : Rn d μ tgt lv st M Q) : Rn d μ pc lv st M Q := by
  intro b0 ad dC dI cA p l e R s m args below meth c cells slots Z hX hkk H locs ls hH hlv
  exact lv_goto hX.1 hX.2.1 hd ht (h b0 ad dC dI cA p l e R s m args below meth c cells slots Z hX hkk H locs ls hH hlv)
/-- a local is stored: the list stays in the order of the places -/
def lput (i : Nat) (v : Value) : List (Nat × Value) → List (Nat × Value)
  | [] => [(i, v)]
  | q :: t => if q.1 < i then q :: lput i v t else if q.1 = i then (i, v) :: t.filter (fun q => !(q.1 == i)) else (i, v) :: q :: t.filter (fun q => !(q.1 == i))
theorem lput_mem {i : Nat} {v : Value} {q : Nat × Value} : ∀ {l : List (Nat × Value)}, q ∈ lput i v l → q = (i, v) ∨ (q ∈ l ∧ q.1 ≠ i) := by
  intro l
  induction l with
  | nil => intro h; exact Or.inl (List.mem_singleton.mp h)
  | cons a t ih =>
    intro h
    unfold lput at h
    split at h
    · rcases List.mem_cons.mp h with h | h
      · subst h; exact Or.inr ⟨List.mem_cons_self, by omega⟩
      · rcases ih h with h | ⟨h1, h2⟩
        · exact Or.inl h
        · exact Or.inr ⟨List.mem_cons_of_mem _ h1, h2⟩
    · split at h
      · rcases List.mem_cons.mp h with h | h
        · exact Or.inl h
        · have := List.mem_filter.mp h
          exact Or.inr ⟨List.mem_cons_of_mem _ this.1, by simpa using this.2⟩
      · rcases List.mem_cons.mp h with h | h
        · exact Or.inl h
        · rcases List.mem_cons.mp h with h | h
          · subst h; exact Or.inr ⟨List.mem_cons_self, by assumption⟩
          · have := List.mem_filter.mp h
            exact Or.inr ⟨List.mem_cons_of_mem _ this.1, by simpa using this.2⟩
theorem lput_has {i n : Nat} {v : Value} {lv lv' : List (Nat × Value)} {ad : Nat → Nat} {ls : Array Slot} (hl : lput i v lv = lv') (hf : (lv.all (fun q => !(q.1 + 1 == i && q.2.category == 2))) = true) (h : lv_has ls n ((i, cv ad v) :: (lv.map (cl ad)).filter (fun q => !(q.1 == i) && !(q.1 + 1 == i && q.2.category == 2)))) : lv_has ls n (lv'.map (cl ad)) := by
  refine ⟨h.1, h.2.1, fun q hq => h.2.2 q ?_⟩
  obtain ⟨a, ha, rfl⟩ := List.mem_map.mp hq
  rw [← hl] at ha
  rcases lput_mem ha with rfl | ⟨h1, h2⟩
  · exact List.mem_cons_self
  · refine List.mem_cons_of_mem _ (List.mem_filter.mpr ⟨List.mem_map.mpr ⟨a, h1, rfl⟩, ?_⟩)
    have h3 := List.all_eq_true.mp hf a h1
    simp only [cl, cv_cat]
    simp only [Bool.and_eq_true]
    exact ⟨by simpa using h2, h3⟩
theorem rn_istore_n {k : Fin 4} {i : Nat} {x : Int32} {lv' : List (Nat × Value)} (hd : decode μ.2.1 pc = .ok (.istore_n k, 1)) (hi : (k : Nat) = i) (hn : i < μ.2.2.1) (hf : (lv.all (fun q => !(q.1 + 1 == i && q.2.category == 2))) = true) (hl : lput i (Value.int x) lv = lv') (h : Rn d μ (pc + 1) lv' st M Q) : Rn d μ pc lv (.int x :: st) M Q := by
  intro b0 ad dC dI cA p l e R s m args below meth c cells slots Z hX hkk H locs ls hH hlv
  exact lv_istore_n hX.1 hX.2.1 hd hi hlv hn rfl (fun ls hls => (h b0 ad dC dI cA p l e R s m args below meth c cells slots Z hX hkk H locs ls hH (lput_has hl hf hls)))
theorem rn_istore {i : Nat} {x : Int32} {lv' : List (Nat × Value)} (hd : decode μ.2.1 pc = .ok (.istore i, 2)) (hn : i < μ.2.2.1) (hf : (lv.all (fun q => !(q.1 + 1 == i && q.2.category == 2))) = true) (hl : lput i (Value.int x) lv = lv') (h : Rn d μ (pc + 2) lv' st M Q) : Rn d μ pc lv (.int x :: st) M Q := by
  intro b0 ad dC dI cA p l e R s m args below meth c cells slots Z hX hkk H locs ls hH hlv
  exact lv_istore hX.1 hX.2.1 hd hlv hn rfl (fun ls hls => (h b0 ad dC dI cA p l e R s m args below meth c cells slots Z hX hkk H locs ls hH (lput_has hl hf hls)))
theorem rn_astore_n {k : Fin 4} {i : Nat} {x : Nat} {lv' : List (Nat × Value)} (hd : decode μ.2.1 pc = .ok (.astore_n k, 1)) (hi : (k : Nat) = i) (hn : i < μ.2.2.1) (hf : (lv.all (fun q => !(q.1 + 1 == i && q.2.category == 2))) = true) (hl : lput i (Value.ref x) lv = lv') (h : Rn d μ (pc + 1) lv' st M Q) : Rn d μ pc lv (.ref x :: st) M Q := by
  intro b0 ad dC dI cA p l e R s m args below meth c cells slots Z hX hkk H locs ls hH hlv
  exact lv_astore_n hX.1 hX.2.1 hd hi hlv hn rfl (fun ls hls => (h b0 ad dC dI cA p l e R s m args below meth c cells slots Z hX hkk H locs ls hH (lput_has hl hf hls)))
theorem rn_astore {i : Nat} {x : Nat} {lv' : List (Nat × Value)} (hd : decode μ.2.1 pc = .ok (.astore i, 2)) (hn : i < μ.2.2.1) (hf : (lv.all (fun q => !(q.1 + 1 == i && q.2.category == 2))) = true) (hl : lput i (Value.ref x) lv = lv') (h : Rn d μ (pc + 2) lv' st M Q) : Rn d μ pc lv (.ref x :: st) M Q := by
  intro b0 ad dC dI cA p l e R s m args below meth c cells slots Z hX hkk H locs ls hH hlv
  exact lv_astore hX.1 hX.2.1 hd hlv hn rfl (fun ls hls => (h b0 ad dC dI cA p l e R s m args below meth c cells slots Z hX hkk H locs ls hH (lput_has hl hf hls)))
theorem rn_iinc {i : Nat} {n : Int} {x v : Int32} {lv' : List (Nat × Value)} (hd : decode μ.2.1 pc = .ok (.iinc i n, 3)) (hm : (i, Value.int x) ∈ lv) (hv : x + Int32.ofInt n = v) (hn : i < μ.2.2.1) (hf : (lv.all (fun q => !(q.1 + 1 == i && q.2.category == 2))) = true) (hl : lput i (Value.int v) lv = lv') (h : Rn d μ (pc + 3) lv' st M Q) : Rn d μ pc lv st M Q := by
  intro b0 ad dC dI cA p l e R s m args below meth c cells slots Z hX hkk H locs ls hH hlv
  obtain ⟨k, hk⟩ := List.mem_iff_getElem?.mp (List.mem_map.mpr ⟨(i, Value.int x), hm, rfl⟩ : cl ad (i, Value.int x) ∈ lv.map (cl ad))
  exact lv_iinc hX.1 hX.2.1 hd hlv hk hv hn rfl (fun ls hls => (h b0 ad dC dI cA p l e R s m args below meth c cells slots Z hX hkk H locs ls hH (lput_has hl hf hls)))
theorem rn_dup {v : Value} (hd : decode μ.2.1 pc = .ok (.dup, 1)) (hc : v.category = 1) (h : Rn d μ (pc + 1) lv (v :: v :: st) M Q) : Rn d μ pc lv (v :: st) M Q := by
  intro b0 ad dC dI cA p l e R s m args below meth c cells slots Z hX hkk H locs ls hH hlv
  exact lv_dup hX.1 hX.2.1 hd (by rw [cv_cat]; exact hc) (h b0 ad dC dI cA p l e R s m args below meth c cells slots Z hX hkk H locs ls hH hlv)
theorem rn_pop {v : Value} (hd : decode μ.2.1 pc = .ok (.pop, 1)) (hc : v.category = 1) (h : Rn d μ (pc + 1) lv st M Q) : Rn d μ pc lv (v :: st) M Q := by
  intro b0 ad dC dI cA p l e R s m args below meth c cells slots Z hX hkk H locs ls hH hlv
  exact lv_pop hX.1 hX.2.1 hd (by rw [cv_cat]; exact hc) (h b0 ad dC dI cA p l e R s m args below meth c cells slots Z hX hkk H locs ls hH hlv)
theorem rn_dup2 {v w : Value} (hd : decode μ.2.1 pc = .ok (.dup2, 1)) (hc : v.category = 1) (hc2 : w.category = 1) (h : Rn d μ (pc + 1) lv (v :: w :: v :: w :: st) M Q) : Rn d μ pc lv (v :: w :: st) M Q := by
  intro b0 ad dC dI cA p l e R s m args below meth c cells slots Z hX hkk H locs ls hH hlv
  exact lv_dup2_11 hX.1 hX.2.1 hd (by rw [cv_cat]; exact hc) (by rw [cv_cat]; exact hc2) (h b0 ad dC dI cA p l e R s m args below meth c cells slots Z hX hkk H locs ls hH hlv)
theorem rn_i2b {x : Int32} (hd : decode μ.2.1 pc = .ok (.i2b, 1)) (h : Rn d μ (pc + 1) lv (.int x.toInt8.toInt32 :: st) M Q) : Rn d μ pc lv (.int x :: st) M Q := by
  intro b0 ad dC dI cA p l e R s m args below meth c cells slots Z hX hkk H locs ls hH hlv
  exact lv_i2b hX.1 hX.2.1 hd rfl (h b0 ad dC dI cA p l e R s m args below meth c cells slots Z hX hkk H locs ls hH hlv)
theorem rn_ldcw {idx : Nat} {v : Int32} (hd : decode μ.2.1 pc = .ok (.ldc_w idx, 3)) (hw : Cond.constant μ.1.cls idx v ∈ gtb) (h : Rn d μ (pc + 3) lv (.int v :: st) M Q) : Rn d μ pc lv st M Q := by
  intro b0 ad dC dI cA p l e R s m args below meth c cells slots Z hX hkk H locs ls hH hlv
  exact lv_ldcw hX.1 hX.2.1 hX.2.2.2.2.2.1 (hX.2.2.2.2.2.2.1 _ hw) hd (h b0 ad dC dI cA p l e R s m args below meth c cells slots Z hX hkk H locs ls hH hlv)
theorem rn_ldc {idx : Nat} {v : Int32} (hd : decode μ.2.1 pc = .ok (.ldc idx, 2)) (hw : Cond.constant μ.1.cls idx v ∈ gtb) (h : Rn d μ (pc + 2) lv (.int v :: st) M Q) : Rn d μ pc lv st M Q := by
  intro b0 ad dC dI cA p l e R s m args below meth c cells slots Z hX hkk H locs ls hH hlv
  exact lv_ldc hX.1 hX.2.1 hX.2.2.2.2.2.1 (hX.2.2.2.2.2.2.1 _ hw) hd (h b0 ad dC dI cA p l e R s m args below meth c cells slots Z hX hkk H locs ls hH hlv)
theorem rn_ldc2 {idx : Nat} {v : Int64} (hd : decode μ.2.1 pc = .ok (.ldc2_w idx, 3)) (hw : Cond.constantLong μ.1.cls idx v ∈ gtb) (h : Rn d μ (pc + 3) lv (.long v :: st) M Q) : Rn d μ pc lv st M Q := by
  intro b0 ad dC dI cA p l e R s m args below meth c cells slots Z hX hkk H locs ls hH hlv
  exact lv_ldc2 hX.1 hX.2.1 hX.2.2.2.2.2.1 (hX.2.2.2.2.2.2.1 _ hw) hd (h b0 ad dC dI cA p l e R s m args below meth c cells slots Z hX hkk H locs ls hH hlv)
theorem rn_tswitch {dflt lo hi : Int} {offs : Array Int} {len : Nat} {x : Int32} {tgt : Nat} (hd : decode μ.2.1 pc = .ok (.tableswitch dflt lo hi offs, len)) (ht : (x.toInt < lo ∨ hi < x.toInt) ∧ (pc : Int) + dflt = (tgt : Int) ∨ (¬ x.toInt < lo ∧ ¬ hi < x.toInt ∧ ∃ off, offs[(x.toInt - lo).toNat]? = some off ∧ (pc : Int) + off = (tgt : Int))) (h : Rn d μ tgt lv st M Q) : Rn d μ pc lv (.int x :: st) M Q := by
  intro b0 ad dC dI cA p l e R s m args below meth c cells slots Z hX hkk H locs ls hH hlv
  rcases ht with ⟨h1, h2⟩ | ⟨h1, h2, off, h3, h4⟩
  · exact lv_tableOut hX.1 hX.2.1 hd h1 h2 (h b0 ad dC dI cA p l e R s m args below meth c cells slots Z hX hkk H locs ls hH hlv)
  · exact lv_tableIn hX.1 hX.2.1 hd h1 h2 h3 h4 (h b0 ad dC dI cA p l e R s m args below meth c cells slots Z hX hkk H locs ls hH hlv)
theorem rn_baload {k n : Nat} {i : Int32} (hd : decode μ.2.1 pc = .ok (.baload, 1)) (hk : kd k = (3, n)) (hi : vp_in i n) (h : Rn d μ (pc + 1) lv (.int (ri M k i.toNatClampNeg) :: st) M Q) : Rn d μ pc lv (.int i :: .ref k :: st) M Q := by
  intro b0 ad dC dI cA p l e R s m args below meth c cells slots Z hX hkk H locs ls hH hlv
  have he := wsM_at (ad := ad) (cA := cA) (M := M) (kd_lt hk (by decide))
  rw [ent_b hk] at he
  exact va_bald hX.1 hX.2.1 hX.2.2.2.2.2.2.2.1.1 hH.1 k 2 he rfl hi hd (h b0 ad dC dI cA p l e R s m args below meth c cells slots Z hX hkk H locs ls hH hlv)
theorem rn_zaload {k n : Nat} {i : Int32} (hd : decode μ.2.1 pc = .ok (.baload, 1)) (hk : kd k = (4, n)) (hi : vp_in i n) (h : Rn d μ (pc + 1) lv (.int (ri M k i.toNatClampNeg) :: st) M Q) : Rn d μ pc lv (.int i :: .ref k :: st) M Q := by
  intro b0 ad dC dI cA p l e R s m args below meth c cells slots Z hX hkk H locs ls hH hlv
  have he := wsM_at (ad := ad) (cA := cA) (M := M) (kd_lt hk (by decide))
  rw [ent_z hk] at he
  exact va_zald hX.1 hX.2.1 hX.2.2.2.2.2.2.2.1.1 hH.1 k 3 he rfl hi hd (h b0 ad dC dI cA p l e R s m args below meth c cells slots Z hX hkk H locs ls hH hlv)
theorem rn_laload {k n : Nat} {i : Int32} (hd : decode μ.2.1 pc = .ok (.laload, 1)) (hk : kd k = (2, n)) (hi : vp_in i n) (h : Rn d μ (pc + 1) lv (.long (rl M k i.toNatClampNeg) :: st) M Q) : Rn d μ pc lv (.int i :: .ref k :: st) M Q := by
  intro b0 ad dC dI cA p l e R s m args below meth c cells slots Z hX hkk H locs ls hH hlv
  have he := wsM_at (ad := ad) (cA := cA) (M := M) (kd_lt hk (by decide))
  rw [ent_l hk] at he
  exact va_lald hX.1 hX.2.1 hX.2.2.2.2.2.2.2.1.1 hH.1 k 1 he rfl hi hd (h b0 ad dC dI cA p l e R s m args below meth c cells slots Z hX hkk H locs ls hH hlv)
theorem upd_wi {M : Mem} {k j : Nat} {x : Int32} : upd (ri M k) j x = ri (wi M k j x) k := by
  funext q
  by_cases h : q = j <;> simp [upd, ri, wi, h]
theorem updl_wl {M : Mem} {k j : Nat} {x : Int64} : vp_updL (rl M k) j x = rl (wl M k j x) k := by
  funext q
  by_cases h : q = j <;> simp [vp_updL, rl, wl, h]
theorem SC_ne {k a b : Nat} (h : kd k = (a, b)) (ha : a ≠ 9) : SC ≠ k ∧ 101 ≠ k := by
  have := kd_lt h ha
  simp only [NC, SC] at *
  omega
theorem HR_wi {b0 : Nat} {ad : Nat → Nat} {dC : Nat → ClassId} {dI : Nat → Nat → Nat} {cA : Nat → ClassId} {s : State} {M : Mem} {H H1 : Heap} {locs locs1 : List Loc} {k j a b : Nat} {x : Int32} (hk : kd k = (a, b)) (ha : a ≠ 9) (hH : HR b0 ad dC dI cA s M H locs) (e : va_E) (he : e = ent ad cA (wi M k j x) k) (hP : va_P (dC, dI) classes ((wsM ad cA M).set k (ad k, e)) H1) (hD : va_D (fun q => b0 ≤ q) ((wsM ad cA M).set k (ad k, e))) (hS : va_S (fun q => b0 ≤ q) s.heap H1 locs1) : HR b0 ad dC dI cA s (wi M k j x) H1 locs1 := by
  subst he
  rw [wsM_set (kd_lt hk ha) ent_wi] at hP hD
  refine ⟨hP, hD, hS, ?_⟩
  have h1 := SC_ne hk ha
  have e1 : ri (wi M k j x) SC = ri M SC := ri_wi_other h1.1
  have e2 : sl (wi M k j x) = sl M := by unfold sl; rw [ri_wi_other h1.2]
  rw [e1, e2]
  exact hH.2.2.2
theorem HR_wl {b0 : Nat} {ad : Nat → Nat} {dC : Nat → ClassId} {dI : Nat → Nat → Nat} {cA : Nat → ClassId} {s : State} {M : Mem} {H H1 : Heap} {locs locs1 : List Loc} {k j a b : Nat} {x : Int64} (hk : kd k = (a, b)) (ha : a ≠ 9) (hH : HR b0 ad dC dI cA s M H locs) (e : va_E) (he : e = ent ad cA (wl M k j x) k) (hP : va_P (dC, dI) classes ((wsM ad cA M).set k (ad k, e)) H1) (hD : va_D (fun q => b0 ≤ q) ((wsM ad cA M).set k (ad k, e))) (hS : va_S (fun q => b0 ≤ q) s.heap H1 locs1) : HR b0 ad dC dI cA s (wl M k j x) H1 locs1 := by
  subst he
  rw [wsM_set (kd_lt hk ha) ent_wl] at hP hD
  exact ⟨hP, hD, hS, hH.2.2.2⟩
theorem rn_iastore {k n : Nat} {i x : Int32} (hd : decode μ.2.1 pc = .ok (.iastore, 1)) (hk : kd k = (1, n)) (hi : vp_in i n) (h : Rn d μ (pc + 1) lv st (wi M k i.toNatClampNeg x) Q) : Rn d μ pc lv (.int x :: .int i :: .ref k :: st) M Q := by
  intro b0 ad dC dI cA p l e R s m args below meth c cells slots Z hX hkk H locs ls hH hlv
  have he := wsM_at (ad := ad) (cA := cA) (M := M) (kd_lt hk (by decide))
  rw [ent_i hk] at he
  exact va_iast hX.1 hX.2.1 hX.2.2.2.2.2.2.2.1.1 hH.1 hH.2.1 hH.2.2.1 k 0 he rfl hi hd (fun H1 locs1 hP hD hS => (h b0 ad dC dI cA p l e R s m args below meth c cells slots Z hX hkk H1 locs1 ls (HR_wi hk (by decide) hH _ (by rw [ent_i hk, upd_wi]) hP hD hS) hlv))
theorem rn_bastore {k n : Nat} {i x : Int32} (hd : decode μ.2.1 pc = .ok (.bastore, 1)) (hk : kd k = (3, n)) (hi : vp_in i n) (h : Rn d μ (pc + 1) lv st (wi M k i.toNatClampNeg (vp_nar .byte x)) Q) : Rn d μ pc lv (.int x :: .int i :: .ref k :: st) M Q := by
  intro b0 ad dC dI cA p l e R s m args below meth c cells slots Z hX hkk H locs ls hH hlv
  have he := wsM_at (ad := ad) (cA := cA) (M := M) (kd_lt hk (by decide))
  rw [ent_b hk] at he
  exact va_bast hX.1 hX.2.1 hX.2.2.2.2.2.2.2.1.1 hH.1 hH.2.1 hH.2.2.1 k 2 he rfl hi hd (fun H1 locs1 hP hD hS => (h b0 ad dC dI cA p l e R s m args below meth c cells slots Z hX hkk H1 locs1 ls (HR_wi hk (by decide) hH _ (by rw [ent_b hk, upd_wi]) hP hD hS) hlv))
theorem rn_zastore {k n : Nat} {i x : Int32} (hd : decode μ.2.1 pc = .ok (.bastore, 1)) (hk : kd k = (4, n)) (hi : vp_in i n) (h : Rn d μ (pc + 1) lv st (wi M k i.toNatClampNeg (vp_nar .boolean x)) Q) : Rn d μ pc lv (.int x :: .int i :: .ref k :: st) M Q := by
  intro b0 ad dC dI cA p l e R s m args below meth c cells slots Z hX hkk H locs ls hH hlv
  have he := wsM_at (ad := ad) (cA := cA) (M := M) (kd_lt hk (by decide))
  rw [ent_z hk] at he
  exact va_zast hX.1 hX.2.1 hX.2.2.2.2.2.2.2.1.1 hH.1 hH.2.1 hH.2.2.1 k 3 he rfl hi hd (fun H1 locs1 hP hD hS => (h b0 ad dC dI cA p l e R s m args below meth c cells slots Z hX hkk H1 locs1 ls (HR_wi hk (by decide) hH _ (by rw [ent_z hk, upd_wi]) hP hD hS) hlv))
theorem rn_lastore {k n : Nat} {i : Int32} {x : Int64} (hd : decode μ.2.1 pc = .ok (.lastore, 1)) (hk : kd k = (2, n)) (hi : vp_in i n) (h : Rn d μ (pc + 1) lv st (wl M k i.toNatClampNeg x) Q) : Rn d μ pc lv (.long x :: .int i :: .ref k :: st) M Q := by
  intro b0 ad dC dI cA p l e R s m args below meth c cells slots Z hX hkk H locs ls hH hlv
  have he := wsM_at (ad := ad) (cA := cA) (M := M) (kd_lt hk (by decide))
  rw [ent_l hk] at he
  exact va_last hX.1 hX.2.1 hX.2.2.2.2.2.2.2.1.1 hH.1 hH.2.1 hH.2.2.1 k 1 he rfl hi hd (fun H1 locs1 hP hD hS => (h b0 ad dC dI cA p l e R s m args below meth c cells slots Z hX hkk H1 locs1 ls (HR_wl hk (by decide) hH _ (by rw [ent_l hk, updl_wl]) hP hD hS) hlv))
theorem rn_alen_i {k n : Nat} {v : Int32} (hd : decode μ.2.1 pc = .ok (.arraylength, 1)) (hk : kd k = (1, n)) (hv : Int32.ofNat n = v) (h : Rn d μ (pc + 1) lv (.int v :: st) M Q) : Rn d μ pc lv (.ref k :: st) M Q := by
  intro b0 ad dC dI cA p l e R s m args below meth c cells slots Z hX hkk H locs ls hH hlv
  have he := wsM_at (ad := ad) (cA := cA) (M := M) (kd_lt hk (by decide))
  rw [ent_i hk] at he
  exact va_alen hX.1 hX.2.1 hX.2.2.2.2.2.2.2.1.1 hH.1 k 0 he rfl hv hd (h b0 ad dC dI cA p l e R s m args below meth c cells slots Z hX hkk H locs ls hH hlv)
theorem rn_alen_b {k n : Nat} {v : Int32} (hd : decode μ.2.1 pc = .ok (.arraylength, 1)) (hk : kd k = (3, n)) (hv : Int32.ofNat n = v) (h : Rn d μ (pc + 1) lv (.int v :: st) M Q) : Rn d μ pc lv (.ref k :: st) M Q := by
  intro b0 ad dC dI cA p l e R s m args below meth c cells slots Z hX hkk H locs ls hH hlv
  have he := wsM_at (ad := ad) (cA := cA) (M := M) (kd_lt hk (by decide))
  rw [ent_b hk] at he
  exact va_alen hX.1 hX.2.1 hX.2.2.2.2.2.2.2.1.1 hH.1 k 2 he rfl hv hd (h b0 ad dC dI cA p l e R s m args below meth c cells slots Z hX hkk H locs ls hH hlv)
theorem rn_sld {i : Int32} (hd : decode μ.2.1 pc = .ok (.iaload, 1)) (hi : vp_in i (sl M)) (h : Rn d μ (pc + 1) lv (.int (ri M SC i.toNatClampNeg) :: st) M Q) : Rn d μ pc lv (.int i :: .ref SC :: st) M Q := by
  intro b0 ad dC dI cA p l e R s m args below meth c cells slots Z hX hkk H locs ls hH hlv
  have hb : ad SC < b0 := hX.2.2.2.2.2.2.2.1.2.2.2
  have hz : b0 ≤ s.heap.size := hX.2.2.2.2.2.2.2.1.2.1.1
  exact va_sld hX.1 hX.2.1 hH.2.2.2 (by omega) (Nat.not_le.mpr hb) hH.2.2.1 hi hd (h b0 ad dC dI cA p l e R s m args below meth c cells slots Z hX hkk H locs ls hH hlv)
theorem rn_slen (hd : decode μ.2.1 pc = .ok (.arraylength, 1)) (h : Rn d μ (pc + 1) lv (.int (Int32.ofNat (sl M)) :: st) M Q) : Rn d μ pc lv (.ref SC :: st) M Q := by
  intro b0 ad dC dI cA p l e R s m args below meth c cells slots Z hX hkk H locs ls hH hlv
  have hb : ad SC < b0 := hX.2.2.2.2.2.2.2.1.2.2.2
  have hz : b0 ≤ s.heap.size := hX.2.2.2.2.2.2.2.1.2.1.1
  exact va_slen hX.1 hX.2.1 hH.2.2.2 (by omega) (Nat.not_le.mpr hb) hH.2.2.1 hd (h b0 ad dC dI cA p l e R s m args below meth c cells slots Z hX hkk H locs ls hH hlv)
theorem rn_ret (hd : decode μ.2.1 pc = .ok (.return_, 1)) (hr : μ.2.2.2 = none) (h : Q none M) : Rn d μ pc lv [] M Q := by
  intro b0 ad dC dI cA p l e R s m args below meth c cells slots Z hX hkk H locs ls hH hlv
  exact hkk pc none M H locs ls h hH (Or.inl ⟨rfl, hr, hd⟩)
theorem rn_iret {x : Int32} (hd : decode μ.2.1 pc = .ok (.ireturn, 1)) (hr : μ.2.2.2 = some .int) (h : Q (some (.int x)) M) : Rn d μ pc lv [.int x] M Q := by
  intro b0 ad dC dI cA p l e R s m args below meth c cells slots Z hX hkk H locs ls hH hlv
  exact hkk pc (some (.int x)) M H locs ls h hH (Or.inr ⟨x, .int, rfl, hr, rfl, hd⟩)
theorem rn_zret {x : Int32} (hd : decode μ.2.1 pc = .ok (.ireturn, 1)) (hr : μ.2.2.2 = some .boolean) (hn : x = 0 ∨ x = 1) (h : Q (some (.int x)) M) : Rn d μ pc lv [.int x] M Q := by
  intro b0 ad dC dI cA p l e R s m args below meth c cells slots Z hX hkk H locs ls hH hlv
  exact hkk pc (some (.int x)) M H locs ls h hH (Or.inr ⟨x, .boolean, rfl, hr, by rcases hn with rfl | rfl <;> rfl, hd⟩)
end Steps2
