/-! how one grows: a row of numbers and ops, each op behind what it is of -/
def jn (op x y : Int32) : Int32 :=
  if op = -16 then (if y = 0 then 0 else x - x / y * y) else if op = -15 then (if y = 0 then 0 else x / y) else if op = -14 then x * y else if op = -13 then x - y else if op = -12 then x + y
  else if op = -11 then (if x = y then 1 else 0) else if op = -10 then (if x ≤ y then 0 else 1) else if op = -9 then (if y ≤ x then 0 else 1)
  else if op = -8 then (if x = 0 then 0 else if y = 0 then 0 else 1) else if op = -7 then (if x = 0 then (if y = 0 then 0 else 1) else 1) else 0
theorem c_joined {d : Nat} {M : Mem} {K : Int32 → Mem → Prop} {op x y : Int32} (h : K (jn op x y) M) : CI d μX1_joined [.int op, .int x, .int y] M K := by
  refine sg_X1_joined_0 ⟨?_, ?_, ?_, ?_, ?_, ?_, ?_, ?_, ?_, ?_, ?_⟩
  · rintro rfl
    by_cases c : y = 0
    · rw [if_pos c]; simp only [jn, c] at h; exact h
    · rw [if_neg c]; refine ⟨c, ?_⟩; simp only [jn, if_neg c] at h; exact h
  · rintro rfl
    by_cases c : y = 0
    · rw [if_pos c]; simp only [jn, c] at h; exact h
    · rw [if_neg c]; refine ⟨c, ?_⟩; simp only [jn, if_neg c] at h; exact h
  · rintro rfl; exact h
  · rintro rfl; exact h
  · rintro rfl; exact h
  · rintro rfl
    by_cases c : x = y
    · rw [if_pos c]; simp only [jn, if_pos c] at h; exact h
    · rw [if_neg c]; simp only [jn, if_neg c] at h; exact h
  · rintro rfl
    by_cases c : x ≤ y
    · rw [if_pos c]; simp only [jn, if_pos c] at h; exact h
    · rw [if_neg c]; simp only [jn, if_neg c] at h; exact h
  · rintro rfl
    by_cases c : y ≤ x
    · rw [if_pos c]; simp only [jn, if_pos c] at h; exact h
    · rw [if_neg c]; simp only [jn, if_neg c] at h; exact h
  · rintro rfl
    by_cases c : x = 0
    · rw [if_pos c]; simp only [jn, if_pos c] at h; exact h
    · rw [if_neg c]
      by_cases c2 : y = 0
      · rw [if_pos c2]; simp only [jn, if_neg c, if_pos c2] at h; exact h
      · rw [if_neg c2]; simp only [jn, if_neg c, if_neg c2] at h; exact h
  · rintro rfl
    by_cases c : x = 0
    · rw [if_pos c]
      by_cases c2 : y = 0
      · rw [if_pos c2]; simp only [jn, if_pos c, if_pos c2] at h; exact h
      · rw [if_neg c2]; simp only [jn, if_pos c, if_neg c2] at h; exact h
    · rw [if_neg c]; simp only [jn, if_neg c] at h; exact h
  · intro hr
    have hne : ∀ k : Int32, -16 ≤ k.toInt → k.toInt ≤ -7 → ¬ op = k := fun k h1 h2 e => by rw [e] at hr; omega
    unfold jn at h
    rw [if_neg (hne _ (by decide) (by decide)), if_neg (hne _ (by decide) (by decide)), if_neg (hne _ (by decide) (by decide)), if_neg (hne _ (by decide) (by decide)), if_neg (hne _ (by decide) (by decide)), if_neg (hne _ (by decide) (by decide)), if_neg (hne _ (by decide) (by decide)), if_neg (hne _ (by decide) (by decide)), if_neg (hne _ (by decide) (by decide)), if_neg (hne _ (by decide) (by decide))] at h
    exact h
/-- one op over the stack (its top first); q: what is given -/
def pst (q : Nat → Int32) (op : Int32) (st : List Int32) : List Int32 :=
  if op = -6 then (match st with | x :: t => (if x = 0 then 1 else 0) :: t | [] => [])
  else if op < -6 then (match st with | y :: x :: t => jn op x y :: t | l => l)
  else if st.length < 31 then (if op < 0 then q (nx (-op)) else op) :: st else st
def prun (q : Nat → Int32) (F : List Int32) (st : List Int32) : List Int32 := F.foldl (fun st op => pst q op st) st
/-- a Formula object holds the row F -/
def Fm (M : Mem) (g : Nat) (F : List Int32) : Prop := F.length ≤ 270 ∧ ri M g 3 = nI F.length ∧ (∀ i, i < F.length → ri M (g + 1) i = F[i]?.getD 0) ∧ ∀ x ∈ F, -16 ≤ x.toInt ∧ ¬ (-6 < x.toInt ∧ x.toInt < -5)
/-- the stack in memory -/
def Stk (M : Mem) (g : Nat) (st : List Int32) : Prop := ∀ i, i < st.length → ri M (g + 2) i = st.reverse[i]?.getD 0
theorem pst_len {q : Nat → Int32} {op : Int32} {st : List Int32} (h : st.length ≤ 31) : (pst q op st).length ≤ 31 := by
  unfold pst
  split
  · cases st with
    | nil => simp
    | cons x t => simpa using h
  · split
    · split
      · simp at h ⊢; omega
      · exact h
    · split
      · simp; omega
      · exact h
theorem rev_top (x : Int32) (t : List Int32) : (x :: t).reverse[t.length]?.getD 0 = x := by
  rw [List.reverse_cons, List.getElem?_append_right (by simp)]; simp
theorem rev_low (x : Int32) (t : List Int32) {i : Nat} (h : i < t.length) : (x :: t).reverse[i]?.getD 0 = t.reverse[i]?.getD 0 := by
  rw [List.reverse_cons, List.getElem?_append_left (by simpa using h)]
theorem Stk.tail {M : Mem} {g : Nat} {x : Int32} {t : List Int32} (h : Stk M g (x :: t)) : Stk M g t := fun i hi => by
  rw [h i (by simp; omega), rev_low x t hi]
theorem Stk.top {M : Mem} {g : Nat} {x : Int32} {t : List Int32} (h : Stk M g (x :: t)) : ri M (g + 2) t.length = x := by
  rw [h t.length (by simp), rev_top]
theorem Stk.push {M : Mem} {g : Nat} {t : List Int32} (h : Stk M g t) (x : Int32) : Stk (wi M (g + 2) t.length x) g (x :: t) := fun i hi => by
  rw [ri_wi]
  by_cases c : i = t.length
  · subst c; rw [if_pos ⟨rfl, rfl⟩, rev_top]
  · have hi' : i < t.length := by simp at hi; omega
    rw [if_neg (fun z => c z.2), rev_low x t hi']
    exact h i hi'
/-- only the rows of the stack and of what is given may change -/
def Sg (M M' : Mem) (g : Nat) : Prop := (∀ k, k ≠ g + 2 → k ≠ g + 3 → ∀ j, ri M' k j = ri M k j) ∧ ∀ k j, rl M' k j = rl M k j
theorem Sg.rf {M : Mem} {g : Nat} : Sg M M g := ⟨fun _ _ _ _ => rfl, fun _ _ => rfl⟩
theorem Sg.trans {M M' M'' : Mem} {g : Nat} (h : Sg M M' g) (h2 : Sg M' M'' g) : Sg M M'' g := ⟨fun k h3 h4 j => (h2.1 k h3 h4 j).trans (h.1 k h3 h4 j), fun k j => (h2.2 k j).trans (h.2 k j)⟩
theorem Sg.wi2 {M : Mem} {g j : Nat} {x : Int32} : Sg M (wi M (g + 2) j x) g := ⟨fun k h3 h4 b => by rw [ri_wi, if_neg (fun q => h3 q.1)], fun _ _ => rfl⟩
theorem Sg.wi3 {M : Mem} {g j : Nat} {x : Int32} : Sg M (wi M (g + 3) j x) g := ⟨fun k h3 h4 b => by rw [ri_wi, if_neg (fun q => h4 q.1)], fun _ _ => rfl⟩
theorem Fm.keep {M M' : Mem} {g : Nat} {F : List Int32} (h : Fm M g F) (hs : Sg M M' g) : Fm M' g F := ⟨h.1, (hs.1 g (by omega) (by omega) 3).trans h.2.1, fun i hi => (hs.1 (g + 1) (by omega) (by omega) i).trans (h.2.2.1 i hi), h.2.2.2⟩
theorem c_run_loop {d g : Nat} (hg : kd g = (0, 1)) {K : Int32 → Mem → Prop} {F : List Int32} {q : Nat → Int32} (M0 : Mem) (hF : Fm M0 g F) (hK : ∀ M', Sg M0 M' g → K ((prun q F []).reverse[0]?.getD 0) M') :
    ∀ (f i : Nat) (st : List Int32) (M : Mem), f + i = F.length → st = prun q (F.take i) [] → st.length ≤ 31 → Sg M0 M g → (∀ j, 1 ≤ j → j ≤ 5 → ri M (g + 3) j = q j) → Stk M g st → RI (d + 1) μX1_run 4 [(0, .ref g), (1, .int (nI st.length)), (2, .int (nI i))] [] M K := by
  have h270 := hF.1
  intro f
  induction f with
  | zero =>
    intro i st M hi hst hl hs hq hStk
    have hi : i = F.length := by omega
    subst hi
    rw [List.take_length] at hst
    refine sg_X1_run_4 hg ?_
    rw [(hF.keep hs).2.1, if_pos (by rw [nI_leI (by omega) (by omega)]; omega)]
    cases hst' : st with
    | nil =>
      rw [if_pos (by rw [l_0, nI_leI (by simp) (by omega)]; simp)]
      have := hK M hs
      rw [← hst, hst'] at this
      exact this
    | cons x t =>
      rw [if_neg (by rw [l_0, nI_leI (by rw [hst'] at hl; omega) (by omega)]; simp)]
      have e := hStk 0 (by rw [hst']; simp)
      have hh := hK M hs
      rw [← hst] at hh
      rw [show nx 0 = 0 from rfl, e]
      exact hh
  | succ f ih =>
    intro i st M hi hst hl hs hq hStk
    have hlt : i < F.length := by omega
    have hF1 := hF.keep hs
    refine sg_X1_run_4 hg ?_
    rw [hF1.2.1, if_neg (by rw [nI_leI (by omega) (by omega)]; omega)]
    refine ⟨n_in (by omega) (by decide), ?_⟩
    have hop : ri M (g + 1) (nx (nI i)) = F[i]?.getD 0 := by rw [show nx (nI i) = i from nI_clamp (by omega)]; exact hF1.2.2.1 i hlt
    have hmem : F[i]?.getD 0 ∈ F := by rw [List.getElem?_eq_getElem hlt]; exact List.getElem_mem _
    have hrange := hF.2.2.2 _ hmem
    rw [hop]
    generalize hopv : F[i]?.getD 0 = op at hrange ⊢
    have hnext : prun q (F.take (i + 1)) [] = pst q op st := by
      rw [List.take_add_one, List.getElem?_eq_getElem hlt]
      unfold prun
      rw [List.foldl_append]
      show pst q (F[i]) (prun q (F.take i) []) = _
      rw [← hst, ← hopv, List.getElem?_eq_getElem hlt]
      rfl
    have hlen' := pst_len (q := q) (op := op) hl
    -- what comes next
    have go : ∀ M', Sg M M' g → (∀ j, 1 ≤ j → j ≤ 5 → ri M' (g + 3) j = q j) → Stk M' g (pst q op st) → RI (d + 1) μX1_run 4 [(0, .ref g), (1, .int (nI (pst q op st).length)), (2, .int (nI i + 1))] [] M' K := by
      intro M' h1 h2 h3
      rw [nI_1]
      exact ih (i + 1) _ M' (by omega) hnext.symm hlen' (hs.trans h1) h2 h3
    have hq2 : ∀ (M' : Mem) (t : Nat) (x : Int32), M' = wi M (g + 2) t x → ∀ j, 1 ≤ j → j ≤ 5 → ri M' (g + 3) j = q j := by
      intro M' t x e j h1 h2
      rw [e, ri_wi, if_neg (fun z => by omega)]
      exact hq j h1 h2
    have last : op < -6 ∧ st.length ≤ 1 ∨ -6 < op ∨ op = -6 ∧ st = [] → RI (d + 1) μX1_run 99 [(0, .ref g), (1, .int (nI st.length)), (2, .int (nI i)), (3, .int op)] [] M K := by
      intro hcase
      refine sg_X1_run_99 hg ?_
      by_cases c1 : op ≤ -6
      · rw [if_pos c1]
        have e : pst q op st = st := by
          rcases hcase with ⟨h1, h2⟩ | h1 | ⟨h1, h2⟩
          · unfold pst
            rw [if_neg (fun z => by rw [z] at h1; exact absurd h1 (by decide)), if_pos h1]
            match st, h2 with
            | [], _ => rfl
            | [x], _ => rfl
          · exact absurd c1 (i_nle.mpr h1)
          · rw [h2]; unfold pst; rw [if_pos h1]
        have := go M Sg.rf hq (by rw [e]; exact hStk)
        rw [e] at this
        exact this
      · rw [if_neg c1]
        have c1' := i_nle.mp c1
        have ne6 : ¬ op = -6 := fun z => by rw [z] at c1; exact c1 (by decide)
        have nl6 : ¬ op < -6 := fun z => c1 (Int32.le_of_lt z)
        by_cases c2 : st.length < 31
        · rw [if_neg (by rw [show Int32.ofNat 31 = nI 31 from rfl, nI_leI (by omega) (by omega)]; omega)]
          have ev : pst q op st = (if op < 0 then q (nx (-op)) else op) :: st := by
            unfold pst; rw [if_neg ne6, if_neg nl6, if_pos c2]
          have el : nI (pst q op st).length = nI st.length + 1 := by rw [ev, List.length_cons, nI_1]
          have hnx : nx (nI st.length) = st.length := nI_clamp (by omega)
          by_cases c3 : op < 0
          · rw [if_pos c3]
            have hop5 : ∃ j, 1 ≤ j ∧ j ≤ 5 ∧ -op = nI j := by
              have k1 : op.toInt < 0 := Int32.lt_iff_toInt_lt.mp c3
              have k2 : (-6 : Int) < op.toInt := by
                have := Int32.lt_iff_toInt_lt.mp c1'
                simpa using this
              have : op = -5 ∨ op = -4 ∨ op = -3 ∨ op = -2 ∨ op = -1 := by
                have : op.toInt = -5 ∨ op.toInt = -4 ∨ op.toInt = -3 ∨ op.toInt = -2 ∨ op.toInt = -1 := by omega
                rcases this with h | h | h | h | h
                · left; exact Int32.toInt_inj.mp h
                · right; left; exact Int32.toInt_inj.mp h
                · right; right; left; exact Int32.toInt_inj.mp h
                · right; right; right; left; exact Int32.toInt_inj.mp h
                · right; right; right; right; exact Int32.toInt_inj.mp h
              rcases this with rfl | rfl | rfl | rfl | rfl
              · exact ⟨5, by decide, by decide, by decide⟩
              · exact ⟨4, by decide, by decide, by decide⟩
              · exact ⟨3, by decide, by decide, by decide⟩
              · exact ⟨2, by decide, by decide, by decide⟩
              · exact ⟨1, by decide, by decide, by decide⟩
            obtain ⟨j, hj1, hj5, hj⟩ := hop5
            rw [hj]
            refine ⟨n_in (by omega) (by decide), n_in (by omega) (by decide), ?_⟩
            intro M1 h1
            rw [hnx, show nx (nI j) = j from nI_clamp (by omega), hq j hj1 hj5] at h1
            have := go M1 (by rw [h1]; exact Sg.wi2) (hq2 M1 _ _ h1) (by
              rw [ev, if_pos c3, hj, show nx (nI j) = j from nI_clamp (by omega), h1]; exact hStk.push _)
            rw [el] at this
            exact this
          · rw [if_neg c3]
            refine ⟨n_in (by omega) (by decide), ?_⟩
            intro M1 h1
            rw [hnx] at h1
            have := go M1 (by rw [h1]; exact Sg.wi2) (hq2 M1 _ _ h1) (by rw [ev, if_neg c3, h1]; exact hStk.push _)
            rw [el] at this
            exact this
        · rw [if_pos (by rw [show Int32.ofNat 31 = nI 31 from rfl, nI_leI (by omega) (by omega)]; omega)]
          have ev : pst q op st = st := by unfold pst; rw [if_neg ne6, if_neg nl6, if_neg c2]
          have := go M Sg.rf hq (by rw [ev]; exact hStk)
          rw [ev] at this
          exact this
    have mid : ¬ (op = -6 ∧ st ≠ []) → RI (d + 1) μX1_run 56 [(0, .ref g), (1, .int (nI st.length)), (2, .int (nI i)), (3, .int op)] [] M K := by
      intro hno
      refine sg_X1_run_56 hg ?_
      by_cases c1 : -6 ≤ op
      · rw [if_pos c1]
        by_cases c0 : op = -6
        · refine last (Or.inr (Or.inr ⟨c0, ?_⟩))
          cases hs : st with
          | nil => rfl
          | cons x t => exact absurd ⟨c0, by rw [hs]; simp⟩ hno
        · refine last (Or.inr (Or.inl ?_))
          rcases fa_three op (-6) with z | z | z
          · exact absurd c1 (i_nle.mpr z)
          · exact absurd z c0
          · exact z
      · rw [if_neg c1]
        have c1' := i_nle.mp c1
        by_cases c2 : st.length ≤ 1
        · rw [if_pos (by rw [l_1, nI_leI (by omega) (by omega)]; omega)]
          exact last (Or.inl ⟨c1', c2⟩)
        · rw [if_neg (by rw [l_1, nI_leI (by omega) (by omega)]; omega)]
          match hst2 : st with
          | [] => simp at c2
          | [x] => simp at c2
          | y :: x :: t =>
            have el : nI (y :: x :: t).length + -1 = nI (t.length + 1) := by rw [nI_m1]; exact nI_pred (t.length + 1)
            have el2 : nI (t.length + 1) - 1 = nI t.length := nI_pred t.length
            simp only [List.length_cons] at hl
            rw [el, el2]
            have ht1 : ri M (g + 2) (nx (nI t.length)) = x := by rw [show nx (nI t.length) = t.length from nI_clamp (by omega)]; exact hStk.tail.top
            have ht2 : ri M (g + 2) (nx (nI (t.length + 1))) = y := by rw [show nx (nI (t.length + 1)) = t.length + 1 from nI_clamp (by omega)]; exact hStk.top
            refine ⟨n_in (by omega) (by decide), n_in (by omega) (by decide), ?_⟩
            rw [ht1, ht2]
            refine c_joined ?_
            refine ⟨n_in (by omega) (by decide), ?_⟩
            intro M3 h3
            rw [show nx (nI t.length) = t.length from nI_clamp (by omega)] at h3
            have ev : pst q op (y :: x :: t) = jn op x y :: t := by
              unfold pst
              rw [if_neg (fun z => by rw [z] at c1'; exact absurd c1' (by decide)), if_pos c1']
            have := go M3 (by rw [h3]; exact Sg.wi2) (hq2 M3 _ _ h3) (by rw [ev, h3]; exact hStk.tail.tail.push _)
            rw [ev, List.length_cons] at this
            exact this
    by_cases c0 : op = -6
    · rw [if_pos c0, l_0]
      match hst2 : st with
      | [] =>
        rw [if_pos (by decide)]
        exact mid (fun z => z.2 rfl)
      | x :: t =>
        simp only [List.length_cons] at hl
        rw [if_neg (by rw [nI_leI (by simp; omega) (by omega)]; simp)]
        have el : nI (x :: t).length - 1 = nI t.length := nI_pred t.length
        rw [el]
        have ht1 : ri M (g + 2) (nx (nI t.length)) = x := by rw [show nx (nI t.length) = t.length from nI_clamp (by omega)]; exact hStk.top
        refine ⟨n_in (by omega) (by decide), ?_⟩
        rw [ht1]
        have ev : pst q op (x :: t) = (if x = 0 then 1 else 0) :: t := by unfold pst; rw [if_pos c0]
        by_cases cx : x = 0
        · rw [if_pos (by rw [cx]; rfl)]
          refine ⟨n_in (by omega) (by decide), ?_⟩
          intro M1 h1
          rw [show nx (nI t.length) = t.length from nI_clamp (by omega)] at h1
          have := go M1 (by rw [h1]; exact Sg.wi2) (hq2 M1 _ _ h1) (by rw [ev, if_pos cx, h1]; exact hStk.tail.push _)
          rw [ev, List.length_cons] at this
          exact this
        · rw [if_neg (by intro z; exact cx (by rw [z]; rfl))]
          refine ⟨n_in (by omega) (by decide), ?_⟩
          intro M1 h1
          rw [show nx (nI t.length) = t.length from nI_clamp (by omega)] at h1
          have := go M1 (by rw [h1]; exact Sg.wi2) (hq2 M1 _ _ h1) (by rw [ev, if_neg cx, h1]; exact hStk.tail.push _)
          rw [ev, List.length_cons] at this
          exact this
    · rw [if_neg c0]
      exact mid (fun z => c0 z.1)
/-- by how much: sides, size, near, lords, season -/
def gq (a b c e f : Int32) : Nat → Int32 := fun j => if j = 1 then a else if j = 2 then b else if j = 3 then c else if j = 4 then e else f
def cl99 (r : Int32) : Int32 := if (-99) < (if r < 99 then r else 99) then (if r < 99 then r else 99) else (-99)
def grF (F : List Int32) (a b c e f : Int32) : Int32 := if F = [] then a - 4 else cl99 ((prun (gq a b c e f) F []).reverse[0]?.getD 0)
theorem c_growth {d g : Nat} (hg : kd g = (0, 1)) {K : Int32 → Mem → Prop} {F : List Int32} {M : Mem} {a b c e f : Int32} (hF : Fm M g F) (hK : ∀ M', Sg M M' g → K (grF F a b c e f) M') : CI (d + 2) μX1_growth [.ref g, .int a, .int b, .int c, .int e, .int f] M K := by
  have h270 := hF.1
  refine sg_X1_growth_0 hg ?_
  rw [hF.2.1]
  by_cases h0 : F = []
  · rw [h0, if_pos (by decide)]
    have := hK M Sg.rf
    unfold grF at this
    rw [if_pos h0] at this
    exact this
  · have hl : F.length ≠ 0 := fun z => h0 (List.length_eq_zero_iff.mp z)
    rw [if_neg (by rw [l_0, nI_eq (by omega) (by omega)]; exact hl)]
    intro M1 h1 M2 h2 M3 h3 M4 h4 M5 h5
    have hs : Sg M M5 g := by
      rw [h5, h4, h3, h2, h1]
      exact ((((Sg.wi3.trans Sg.wi3).trans Sg.wi3).trans Sg.wi3).trans Sg.wi3)
    have hq : ∀ j, 1 ≤ j → j ≤ 5 → ri M5 (g + 3) j = gq a b c e f j := by
      intro j hj1 hj5
      have : j = 1 ∨ j = 2 ∨ j = 3 ∨ j = 4 ∨ j = 5 := by omega
      rw [h5, h4, h3, h2, h1]
      simp only [ri_wi, show nx 1 = 1 from rfl, show nx 2 = 2 from rfl, show nx 3 = 3 from rfl, show nx 4 = 4 from rfl, show nx 5 = 5 from rfl]
      rcases this with rfl | rfl | rfl | rfl | rfl <;> simp [gq]
    refine sg_X1_run_0 hg ?_
    refine c_run_loop hg M5 (hF.keep hs) (fun M' hs' => ?_) F.length 0 [] M5 rfl rfl (by simp) Sg.rf hq (fun i hi => absurd hi (Nat.not_lt_zero _))
    have := hK M' (hs.trans hs')
    unfold grF at this
    rw [if_neg h0] at this
    exact this
