/-! the reference's done, growth -/
/-- the sign of an op of two -/
def sgc (op : Int32) : Int32 := if op = -16 then 37 else if op = -15 then 47 else if op = -14 then 42 else if op = -13 then 45 else if op = -12 then 43 else if op = -11 then 61 else if op = -10 then 62 else if op = -9 then 60 else if op = -8 then 38 else 124
theorem r_t1 {d : Nat} {M : Mem} {K : Int32 → Mem → Prop} (h : K 1 M) : CI d μX9_truth [.int 1] M K := r_truth (b := true) h
theorem r_t0 {d : Nat} {M : Mem} {K : Int32 → Mem → Prop} (h : K 0 M) : CI d μX9_truth [.int 0] M K := r_truth (b := false) h
theorem r_or {d : Nat} {M : Mem} {K : Int32 → Mem → Prop} {x0 x y : Int32} (h : K (if x = 0 then (if y = 0 then 0 else 1) else 1) M) : RI (d + 1) μX9_done 215 [(0, .int x0), (1, .int x), (2, .int y)] [] M K := by
  refine sg_X9_done_215 ?_
  by_cases c : x = 0
  · rw [if_pos c] at h ⊢
    by_cases c2 : y = 0
    · rw [if_pos c2] at h ⊢; exact r_t0 h
    · rw [if_neg c2] at h ⊢; exact r_t1 h
  · rw [if_neg c] at h ⊢; exact r_t1 h
theorem r_done_37 {d : Nat} {M : Mem} {K : Int32 → Mem → Prop} {x y : Int32} (h : K (jn (-16) x y) M) : CI (d + 1) μX9_done [.int 37, .int x, .int y] M K := by
  refine sg_X9_done_0 ⟨fun _ => ?_, fun z => absurd z (by decide), fun z => absurd z (by decide), fun z => absurd z (by decide), fun z => absurd z (by decide), fun z => absurd z (by decide), fun z => absurd z (by decide), fun z => absurd z (by decide), fun z => absurd z (by decide), fun z => absurd z (by decide), fun z => absurd z (by decide), fun z => absurd z (by decide), fun z => absurd z (by decide), fun z => absurd z (by decide), fun z => absurd z (by decide), fun z => absurd z (by decide), fun z => absurd z (by decide), fun z => absurd z (by decide), fun z => absurd z (by decide), fun z => absurd z (by decide), fun z => absurd z (by decide), fun z => absurd z (by decide), fun z => absurd z (by decide), fun z => absurd z (by decide), fun z => absurd z (by decide), fun z => absurd z (by decide), fun z => absurd z (by decide)⟩
  · by_cases c : y = 0
    · rw [if_pos c]; simp only [jn, c] at h; exact h
    · rw [if_neg c]; refine ⟨c, ?_⟩; simp only [jn, if_neg c] at h; exact h
theorem r_done_47 {d : Nat} {M : Mem} {K : Int32 → Mem → Prop} {x y : Int32} (h : K (jn (-15) x y) M) : CI (d + 1) μX9_done [.int 47, .int x, .int y] M K := by
  refine sg_X9_done_0 ⟨fun z => absurd z (by decide), fun z => absurd z (by decide), fun z => absurd z (by decide), fun z => absurd z (by decide), fun z => absurd z (by decide), fun z => absurd z (by decide), fun z => absurd z (by decide), fun z => absurd z (by decide), fun z => absurd z (by decide), fun z => absurd z (by decide), fun _ => ?_, fun z => absurd z (by decide), fun z => absurd z (by decide), fun z => absurd z (by decide), fun z => absurd z (by decide), fun z => absurd z (by decide), fun z => absurd z (by decide), fun z => absurd z (by decide), fun z => absurd z (by decide), fun z => absurd z (by decide), fun z => absurd z (by decide), fun z => absurd z (by decide), fun z => absurd z (by decide), fun z => absurd z (by decide), fun z => absurd z (by decide), fun z => absurd z (by decide), fun z => absurd z (by decide)⟩
  · by_cases c : y = 0
    · rw [if_pos c]; simp only [jn, c] at h; exact h
    · rw [if_neg c]; refine ⟨c, ?_⟩; simp only [jn, if_neg c] at h; exact h
theorem r_done_42 {d : Nat} {M : Mem} {K : Int32 → Mem → Prop} {x y : Int32} (h : K (jn (-14) x y) M) : CI (d + 1) μX9_done [.int 42, .int x, .int y] M K := by
  refine sg_X9_done_0 ⟨fun z => absurd z (by decide), fun z => absurd z (by decide), fun z => absurd z (by decide), fun z => absurd z (by decide), fun z => absurd z (by decide), fun _ => ?_, fun z => absurd z (by decide), fun z => absurd z (by decide), fun z => absurd z (by decide), fun z => absurd z (by decide), fun z => absurd z (by decide), fun z => absurd z (by decide), fun z => absurd z (by decide), fun z => absurd z (by decide), fun z => absurd z (by decide), fun z => absurd z (by decide), fun z => absurd z (by decide), fun z => absurd z (by decide), fun z => absurd z (by decide), fun z => absurd z (by decide), fun z => absurd z (by decide), fun z => absurd z (by decide), fun z => absurd z (by decide), fun z => absurd z (by decide), fun z => absurd z (by decide), fun z => absurd z (by decide), fun z => absurd z (by decide)⟩
  · exact h
theorem r_done_45 {d : Nat} {M : Mem} {K : Int32 → Mem → Prop} {x y : Int32} (h : K (jn (-13) x y) M) : CI (d + 1) μX9_done [.int 45, .int x, .int y] M K := by
  refine sg_X9_done_0 ⟨fun z => absurd z (by decide), fun z => absurd z (by decide), fun z => absurd z (by decide), fun z => absurd z (by decide), fun z => absurd z (by decide), fun z => absurd z (by decide), fun z => absurd z (by decide), fun z => absurd z (by decide), fun _ => ?_, fun z => absurd z (by decide), fun z => absurd z (by decide), fun z => absurd z (by decide), fun z => absurd z (by decide), fun z => absurd z (by decide), fun z => absurd z (by decide), fun z => absurd z (by decide), fun z => absurd z (by decide), fun z => absurd z (by decide), fun z => absurd z (by decide), fun z => absurd z (by decide), fun z => absurd z (by decide), fun z => absurd z (by decide), fun z => absurd z (by decide), fun z => absurd z (by decide), fun z => absurd z (by decide), fun z => absurd z (by decide), fun z => absurd z (by decide)⟩
  · exact h
theorem r_done_43 {d : Nat} {M : Mem} {K : Int32 → Mem → Prop} {x y : Int32} (h : K (jn (-12) x y) M) : CI (d + 1) μX9_done [.int 43, .int x, .int y] M K := by
  refine sg_X9_done_0 ⟨fun z => absurd z (by decide), fun z => absurd z (by decide), fun z => absurd z (by decide), fun z => absurd z (by decide), fun z => absurd z (by decide), fun z => absurd z (by decide), fun _ => ?_, fun z => absurd z (by decide), fun z => absurd z (by decide), fun z => absurd z (by decide), fun z => absurd z (by decide), fun z => absurd z (by decide), fun z => absurd z (by decide), fun z => absurd z (by decide), fun z => absurd z (by decide), fun z => absurd z (by decide), fun z => absurd z (by decide), fun z => absurd z (by decide), fun z => absurd z (by decide), fun z => absurd z (by decide), fun z => absurd z (by decide), fun z => absurd z (by decide), fun z => absurd z (by decide), fun z => absurd z (by decide), fun z => absurd z (by decide), fun z => absurd z (by decide), fun z => absurd z (by decide)⟩
  · exact h
theorem r_done_61 {d : Nat} {M : Mem} {K : Int32 → Mem → Prop} {x y : Int32} (h : K (jn (-11) x y) M) : CI (d + 1) μX9_done [.int 61, .int x, .int y] M K := by
  refine sg_X9_done_0 ⟨fun z => absurd z (by decide), fun z => absurd z (by decide), fun z => absurd z (by decide), fun z => absurd z (by decide), fun z => absurd z (by decide), fun z => absurd z (by decide), fun z => absurd z (by decide), fun z => absurd z (by decide), fun z => absurd z (by decide), fun z => absurd z (by decide), fun z => absurd z (by decide), fun z => absurd z (by decide), fun z => absurd z (by decide), fun z => absurd z (by decide), fun z => absurd z (by decide), fun z => absurd z (by decide), fun z => absurd z (by decide), fun z => absurd z (by decide), fun z => absurd z (by decide), fun z => absurd z (by decide), fun z => absurd z (by decide), fun z => absurd z (by decide), fun z => absurd z (by decide), fun z => absurd z (by decide), fun _ => ?_, fun z => absurd z (by decide), fun z => absurd z (by decide)⟩
  · by_cases c : x = y
    · rw [if_pos c]; simp only [jn, if_pos c] at h; exact r_t1 h
    · rw [if_neg c]; simp only [jn, if_neg c] at h; exact r_t0 h
theorem r_done_62 {d : Nat} {M : Mem} {K : Int32 → Mem → Prop} {x y : Int32} (h : K (jn (-10) x y) M) : CI (d + 1) μX9_done [.int 62, .int x, .int y] M K := by
  refine sg_X9_done_0 ⟨fun z => absurd z (by decide), fun z => absurd z (by decide), fun z => absurd z (by decide), fun z => absurd z (by decide), fun z => absurd z (by decide), fun z => absurd z (by decide), fun z => absurd z (by decide), fun z => absurd z (by decide), fun z => absurd z (by decide), fun z => absurd z (by decide), fun z => absurd z (by decide), fun z => absurd z (by decide), fun z => absurd z (by decide), fun z => absurd z (by decide), fun z => absurd z (by decide), fun z => absurd z (by decide), fun z => absurd z (by decide), fun z => absurd z (by decide), fun z => absurd z (by decide), fun z => absurd z (by decide), fun z => absurd z (by decide), fun z => absurd z (by decide), fun z => absurd z (by decide), fun z => absurd z (by decide), fun z => absurd z (by decide), fun _ => ?_, fun z => absurd z (by decide)⟩
  · by_cases c : x ≤ y
    · rw [if_pos c]; simp only [jn, if_pos c] at h; exact r_t0 h
    · rw [if_neg c]; simp only [jn, if_neg c] at h; exact r_t1 h
theorem r_done_60 {d : Nat} {M : Mem} {K : Int32 → Mem → Prop} {x y : Int32} (h : K (jn (-9) x y) M) : CI (d + 1) μX9_done [.int 60, .int x, .int y] M K := by
  refine sg_X9_done_0 ⟨fun z => absurd z (by decide), fun z => absurd z (by decide), fun z => absurd z (by decide), fun z => absurd z (by decide), fun z => absurd z (by decide), fun z => absurd z (by decide), fun z => absurd z (by decide), fun z => absurd z (by decide), fun z => absurd z (by decide), fun z => absurd z (by decide), fun z => absurd z (by decide), fun z => absurd z (by decide), fun z => absurd z (by decide), fun z => absurd z (by decide), fun z => absurd z (by decide), fun z => absurd z (by decide), fun z => absurd z (by decide), fun z => absurd z (by decide), fun z => absurd z (by decide), fun z => absurd z (by decide), fun z => absurd z (by decide), fun z => absurd z (by decide), fun z => absurd z (by decide), fun _ => ?_, fun z => absurd z (by decide), fun z => absurd z (by decide), fun z => absurd z (by decide)⟩
  · by_cases c : y ≤ x
    · rw [if_pos c]; simp only [jn, if_pos c] at h; exact r_t0 h
    · rw [if_neg c]; simp only [jn, if_neg c] at h; exact r_t1 h
theorem r_done_38 {d : Nat} {M : Mem} {K : Int32 → Mem → Prop} {x y : Int32} (h : K (jn (-8) x y) M) : CI (d + 1) μX9_done [.int 38, .int x, .int y] M K := by
  refine sg_X9_done_0 ⟨fun z => absurd z (by decide), fun _ => ?_, fun z => absurd z (by decide), fun z => absurd z (by decide), fun z => absurd z (by decide), fun z => absurd z (by decide), fun z => absurd z (by decide), fun z => absurd z (by decide), fun z => absurd z (by decide), fun z => absurd z (by decide), fun z => absurd z (by decide), fun z => absurd z (by decide), fun z => absurd z (by decide), fun z => absurd z (by decide), fun z => absurd z (by decide), fun z => absurd z (by decide), fun z => absurd z (by decide), fun z => absurd z (by decide), fun z => absurd z (by decide), fun z => absurd z (by decide), fun z => absurd z (by decide), fun z => absurd z (by decide), fun z => absurd z (by decide), fun z => absurd z (by decide), fun z => absurd z (by decide), fun z => absurd z (by decide), fun z => absurd z (by decide)⟩
  · by_cases c : x = 0
    · rw [if_pos c]; simp only [jn, if_pos c] at h; exact r_t0 h
    · rw [if_neg c]
      by_cases c2 : y = 0
      · rw [if_pos c2]; simp only [jn, if_neg c, if_pos c2] at h; exact r_t0 h
      · rw [if_neg c2]; simp only [jn, if_neg c, if_neg c2] at h; exact r_t1 h
theorem r_done_124 {d : Nat} {M : Mem} {K : Int32 → Mem → Prop} {x y : Int32} (h : K (jn (-7) x y) M) : CI (d + 1) μX9_done [.int 124, .int x, .int y] M K := by
  refine sg_X9_done_0 ⟨fun z => absurd z (by decide), fun z => absurd z (by decide), fun z => absurd z (by decide), fun z => absurd z (by decide), fun z => absurd z (by decide), fun z => absurd z (by decide), fun z => absurd z (by decide), fun z => absurd z (by decide), fun z => absurd z (by decide), fun z => absurd z (by decide), fun z => absurd z (by decide), fun z => absurd z (by decide), fun z => absurd z (by decide), fun z => absurd z (by decide), fun z => absurd z (by decide), fun z => absurd z (by decide), fun z => absurd z (by decide), fun z => absurd z (by decide), fun z => absurd z (by decide), fun z => absurd z (by decide), fun z => absurd z (by decide), fun z => absurd z (by decide), fun z => absurd z (by decide), fun z => absurd z (by decide), fun z => absurd z (by decide), fun z => absurd z (by decide), fun _ => ?_⟩
  · exact r_or h
theorem r_done {d : Nat} {M : Mem} {K : Int32 → Mem → Prop} {op x y : Int32} (h1 : op < -6) (h2 : -16 ≤ op.toInt) (h : K (jn op x y) M) : CI (d + 1) μX9_done [.int (sgc op), .int x, .int y] M K := by
  have k1 : op.toInt < -6 := by have := Int32.lt_iff_toInt_lt.mp h1; simpa using this
  have : op = -16 ∨ op = -15 ∨ op = -14 ∨ op = -13 ∨ op = -12 ∨ op = -11 ∨ op = -10 ∨ op = -9 ∨ op = -8 ∨ op = -7 := by
    have : op.toInt = -16 ∨ op.toInt = -15 ∨ op.toInt = -14 ∨ op.toInt = -13 ∨ op.toInt = -12 ∨ op.toInt = -11 ∨ op.toInt = -10 ∨ op.toInt = -9 ∨ op.toInt = -8 ∨ op.toInt = -7 := by omega
    rcases this with z | z | z | z | z | z | z | z | z | z
    · exact Or.inl (Int32.toInt_inj.mp z)
    · exact Or.inr (Or.inl (Int32.toInt_inj.mp z))
    · exact Or.inr (Or.inr (Or.inl (Int32.toInt_inj.mp z)))
    · exact Or.inr (Or.inr (Or.inr (Or.inl (Int32.toInt_inj.mp z))))
    · exact Or.inr (Or.inr (Or.inr (Or.inr (Or.inl (Int32.toInt_inj.mp z)))))
    · exact Or.inr (Or.inr (Or.inr (Or.inr (Or.inr (Or.inl (Int32.toInt_inj.mp z))))))
    · exact Or.inr (Or.inr (Or.inr (Or.inr (Or.inr (Or.inr (Or.inl (Int32.toInt_inj.mp z)))))))
    · exact Or.inr (Or.inr (Or.inr (Or.inr (Or.inr (Or.inr (Or.inr (Or.inl (Int32.toInt_inj.mp z))))))))
    · exact Or.inr (Or.inr (Or.inr (Or.inr (Or.inr (Or.inr (Or.inr (Or.inr (Or.inl (Int32.toInt_inj.mp z)))))))))
    · exact Or.inr (Or.inr (Or.inr (Or.inr (Or.inr (Or.inr (Or.inr (Or.inr (Or.inr (Int32.toInt_inj.mp z)))))))))
  rcases this with rfl | rfl | rfl | rfl | rfl | rfl | rfl | rfl | rfl | rfl
  · exact r_done_37 h
  · exact r_done_47 h
  · exact r_done_42 h
  · exact r_done_45 h
  · exact r_done_43 h
  · exact r_done_61 h
  · exact r_done_62 h
  · exact r_done_60 h
  · exact r_done_38 h
  · exact r_done_124 h
