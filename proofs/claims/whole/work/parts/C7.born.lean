/-! births -/
def adF (m n : Nat) : Nat → List Nat
  | 0 => []
  | q + 1 => if m.testBit q = true then adF m n q ++ [clr m (2 ^ q) ||| 2 ^ n] else adF m n q
def adC (m n : Nat) : List Nat := adF m n n
theorem ad_tab : ((List.range 8).all fun n => (List.range n).all fun a => (List.range n).all fun b => (List.range n).all fun c => a == b || a == c || b == c || (adC (tri a b c) n).isPerm [tri a b n, tri a c n, tri b c n]) = true := by decide +kernel
theorem ad_perm {n a b c : Nat} (hn : n < 8) (ha : a < n) (hb : b < n) (hc : c < n) (h1 : a ≠ b) (h2 : a ≠ c) (h3 : b ≠ c) : (adC (tri a b c) n).Perm [tri a b n, tri a c n, tri b c n] := by
  have h := List.all_eq_true.mp ad_tab n (List.mem_range.mpr hn)
  have h := List.all_eq_true.mp h a (List.mem_range.mpr ha)
  have h := List.all_eq_true.mp h b (List.mem_range.mpr hb)
  have h := List.all_eq_true.mp h c (List.mem_range.mpr hc)
  rw [Bool.or_eq_true, Bool.or_eq_true, Bool.or_eq_true] at h
  rcases h with ((h | h) | h) | h
  · exact absurd (by simpa using h) h1
  · exact absurd (by simpa using h) h2
  · exact absurd (by simpa using h) h3
  · exact List.isPerm_iff.mp h
theorem adF_mono (m n : Nat) : ∀ (k q : Nat), (adF m n q).length ≤ (adF m n (q + k)).length
  | 0, _ => Nat.le_refl _
  | k + 1, q => by
    have h := adF_mono m n k q
    rw [show q + (k + 1) = (q + k) + 1 by omega]
    show _ ≤ (if m.testBit (q + k) = true then adF m n (q + k) ++ [clr m (2 ^ (q + k)) ||| 2 ^ n] else adF m n (q + k)).length
    split
    · rw [List.length_append]; omega
    · exact h
theorem three_bits : ((List.range 256).all fun m => !(pc8 m == 3) || (m == tri (bx m) (bY m) (bz m) && (bx m != bY m) && (bx m != bz m) && (bY m != bz m) && m.testBit (bx m) && m.testBit (bY m) && m.testBit (bz m) && decide (bx m < 8) && decide (bY m < 8) && decide (bz m < 8))) = true := by decide +kernel
theorem T3.bits {m : Nat} (h : T3 m) : ∃ x y z, m = tri x y z ∧ x ≠ y ∧ x ≠ z ∧ y ≠ z ∧ m.testBit x = true ∧ m.testBit y = true ∧ m.testBit z = true ∧ x < 8 ∧ y < 8 ∧ z < 8 := by
  have ht := List.all_eq_true.mp three_bits m (List.mem_range.mpr h.1)
  rw [h.2] at ht
  simp only [beq_self_eq_true, Bool.not_true, Bool.false_or, Bool.and_eq_true, bne_iff_ne, beq_iff_eq, decide_eq_true_eq] at ht
  obtain ⟨⟨⟨⟨⟨⟨⟨⟨⟨h1, h2⟩, h3⟩, h4⟩, h5⟩, h6⟩, h7⟩, h8⟩, h9⟩, h10⟩ := ht
  exact ⟨bx m, bY m, bz m, h1, h2, h3, h4, h5, h6, h7, h8, h9, h10⟩
/-- the shire behind a birth: of size v, at the corner m (from the fourth on) -/
def bornC (S : Sh) (m : Nat) : List Nat := if sn S < 2 then [] else if sn S = 2 then sortC [7, 7] else sortC (tk m (sc S) ++ adC m (sn S))
def bornS (S : Sh) (v m : Nat) : Sh := (sn S + 1, sb S ||| 2 ^ sn S, sy S, sd S, bornC S m, fun j => if j = sn S then v else sz S j)
/-- all who are told are there -/
def AllT (S : Sh) : Prop := sb S = 2 ^ sn S - 1
theorem all_tab : ((List.range 8).all fun n => decide ((2 ^ n - 1) ||| 2 ^ n = 2 ^ (n + 1) - 1) && decide (pc8 (2 ^ n - 1) = n)) = true := by decide +kernel
theorem all_n {n : Nat} (h : n < 8) : (2 ^ n - 1) ||| 2 ^ n = 2 ^ (n + 1) - 1 ∧ pc8 (2 ^ n - 1) = n := by
  have := List.all_eq_true.mp all_tab n (List.mem_range.mpr h)
  rw [Bool.and_eq_true] at this
  exact ⟨of_decide_eq_true this.1, of_decide_eq_true this.2⟩
theorem set_perm {m z : Nat} : ∀ (D : List Nat) (i : Nat), D[i]? = some m → (m :: D.set i z).Perm (z :: D)
  | [], i, h => by simp at h
  | x :: D, 0, h => by
    have h : x = m := by simpa using h
    subst h
    exact List.Perm.swap z x D
  | x :: D, i + 1, h => by
    have h : D[i]? = some m := by simpa using h
    show (m :: x :: D.set i z).Perm (z :: x :: D)
    exact ((List.Perm.swap x m _).trans (List.Perm.cons x (set_perm D i h))).trans (List.Perm.swap z x D)
def rmv (C : List Nat) (i : Nat) : List Nat := (C.set i (C[C.length - 1]?.getD 0)).take (C.length - 1)
theorem rmv_perm {C : List Nat} {i m : Nat} (h : C[i]? = some m) : (m :: rmv C i).Perm C := by
  have hi : i < C.length := (List.getElem?_eq_some_iff.mp h).1
  have hC : C = C.take (C.length - 1) ++ [C[C.length - 1]?.getD 0] := by
    have h1 : C.length - 1 < C.length := by omega
    conv => lhs; rw [← List.take_append_drop (C.length - 1) C]
    congr 1
    rw [List.getElem?_eq_getElem h1, List.drop_eq_getElem_cons h1, show C.length - 1 + 1 = C.length by omega, List.drop_length]
    rfl
  unfold rmv
  by_cases hl : i = C.length - 1
  · have e : (C.set i (C[C.length - 1]?.getD 0)).take (C.length - 1) = C.take (C.length - 1) := by
      rw [List.take_set_of_le (by omega)]
    rw [e]
    have hm : C[C.length - 1]?.getD 0 = m := by rw [← hl, h]; rfl
    conv => rhs; rw [hC]
    rw [hm]
    exact List.perm_append_comm (l₁ := [m])
  · have e : (C.set i (C[C.length - 1]?.getD 0)).take (C.length - 1) = (C.take (C.length - 1)).set i (C[C.length - 1]?.getD 0) := by
      rw [List.take_set]
    rw [e]
    have hd : (C.take (C.length - 1))[i]? = some m := by rw [List.getElem?_take, if_pos (by omega)]; exact h
    refine (set_perm _ i hd).trans ?_
    conv => rhs; rw [hC]
    exact List.perm_append_comm (l₁ := [C[C.length - 1]?.getD 0])
theorem rmv_len {C : List Nat} {i : Nat} : (rmv C i).length = C.length - 1 := by
  unfold rmv; rw [List.length_take, List.length_set]; omega
theorem c_dropOne {d o : Nat} (ho : kd o = (0, 2)) {K : Mem → Prop} {S : Sh} {M : Mem} {m : Nat} (hF : FB M o S) (hS : SOk S) (hm : m ∈ sc S) (hm2 : m < 256) (hK : ∀ M' C, Sm2 M M' o → (m :: C).Perm (sc S) → FB M' o (setC S C) → K M') : CV d μX2_dropOneCorner [.ref o, .int (nI m)] M K := by
  have h12 := hS.2.2.1
  refine sg_X2_dropOneCorner_0 ho ?_
  have loop : ∀ (k i : Nat), k + i = (sc S).length → (∃ q, i ≤ q ∧ (sc S)[q]? = some m) → RV d μX2_dropOneCorner 2 [(0, .ref o), (1, .int (nI m)), (2, .int (nI i))] [] M K := by
    intro k
    induction k with
    | zero =>
      intro i hi ⟨q, hq, hqm⟩
      have := (List.getElem?_eq_some_iff.mp hqm).1
      omega
    | succ k ih =>
      intro i hi ⟨q, hq, hqm⟩
      have hil : i < (sc S).length := by omega
      have hT := hS.2.2.2.1 _ (List.getElem_mem hil)
      refine sg_X2_dropOneCorner_2 ho ?_
      rw [hF.2.2.2.2.1, if_neg (by rw [nI_leI (by omega) (by omega)]; omega), show nx (nI i) = i from nI_clamp (by omega), hF.2.2.2.2.2.2 i hil, List.getElem?_eq_getElem hil]
      refine ⟨n_in (by omega) (by decide), ?_⟩
      show if nI (sc S)[i] = nI m then _ else _
      by_cases hc : (sc S)[i] = m
      · rw [if_pos (by rw [hc])]
        intro M1 g1
        rw [show nI (sc S).length - 1 = nI ((sc S).length - 1) by rw [show (sc S).length = ((sc S).length - 1) + 1 by omega, nI_pred]; rfl] at g1
        have r1 : ∀ k j, ri M1 k j = if k = o ∧ j = 4 then nI ((sc S).length - 1) else ri M k j := by intro k j; rw [g1, ri_wi]
        rw [show ri M1 o 4 = nI ((sc S).length - 1) by rw [r1, if_pos ⟨rfl, rfl⟩], show nx (nI ((sc S).length - 1)) = (sc S).length - 1 from nI_clamp (by omega)]
        refine ⟨n_in (by omega) (by decide), n_in (by omega) (by decide), fun M2 g2 => ?_⟩
        rw [r1 (o + 2), if_neg (by omega), hF.2.2.2.2.2.2 _ (show (sc S).length - 1 < (sc S).length by omega)] at g2
        have r2 : ∀ k j, ri M2 k j = if k = o + 2 ∧ j = i then nI ((sc S)[(sc S).length - 1]?.getD 0) else ri M1 k j := by intro k j; rw [g2, ri_wi]
        have hSm : Sm2 M M2 o := ⟨fun k hk j hj => by rw [r2, if_neg (fun q => hk q.1), r1, if_neg hj], fun k j => by rw [g2, g1]; rfl⟩
        refine hK M2 (rmv (sc S) i) hSm (rmv_perm (by rw [List.getElem?_eq_getElem hil, hc])) (hSm.FB hF ?_ (fun j hj => ?_))
        · rw [r2, if_neg (by omega), r1, if_pos ⟨rfl, rfl⟩, rmv_len]
        · rw [rmv_len] at hj
          unfold rmv
          rw [List.getElem?_take, if_pos hj, List.getElem?_set]
          by_cases hji : i = j
          · rw [r2, if_pos ⟨rfl, hji.symm⟩, if_pos hji, if_pos hil]; rfl
          · rw [r2, if_neg (fun q => hji q.2.symm), r1, if_neg (by omega), if_neg hji]
            exact hF.2.2.2.2.2.2 j (by omega)
      · rw [if_neg (fun q => hc (nI_inj (by have := hT.1; omega) (by omega) q)), nI_1]
        refine ih (i + 1) (by omega) ⟨q, ?_, hqm⟩
        rcases Nat.lt_or_ge i q with z | z
        · omega
        · have : q = i := by omega
          rw [this, List.getElem?_eq_getElem hil] at hqm
          exact absurd (Option.some.inj hqm) hc
  obtain ⟨q, hq⟩ := List.mem_iff_getElem?.mp hm
  exact loop (sc S).length 0 rfl ⟨q, Nat.zero_le _, hq⟩
theorem born_T3 {S : Sh} {m : Nat} (hS : SOk S) (h4 : N4 S) (hn : sn S < 8) (hm : 3 ≤ sn S → m ∈ sc S) : ∀ x ∈ bornC S m, T3 x := by
  intro x hx
  unfold bornC at hx
  split at hx
  · cases hx
  · split at hx
    · have := (sortC_mem _).mp hx
      have : x = 7 := by simpa using this
      rw [this]; exact ⟨by decide, by decide⟩
    · have hn3 : 3 ≤ sn S := by omega
      have hT := hS.2.2.2.1 m (hm hn3)
      obtain ⟨a, b, c, e, ab, ac, bc, ta, tb, tc, a8, b8, c8⟩ := hT.bits
      have la := h4.2 a (h4.1 m (hm hn3) a ta)
      have lb := h4.2 b (h4.1 m (hm hn3) b tb)
      have lc := h4.2 c (h4.1 m (hm hn3) c tc)
      rcases List.mem_append.mp ((sortC_mem _).mp hx) with h | h
      · exact tk_T3 hS.2.2.2.1 x h
      · rw [e] at h
        have := (ad_perm hn la lb lc ab ac bc).mem_iff.mp h
        simp only [List.mem_cons, List.not_mem_nil, or_false] at this
        rcases this with h | h | h <;> rw [h]
        · exact (tri_ok (a := a) (b := b) (c := sn S) (by omega) (by omega) hn ab (by omega) (by omega)).2
        · exact (tri_ok (a := a) (b := c) (c := sn S) (by omega) (by omega) hn ac (by omega) (by omega)).2
        · exact (tri_ok (a := b) (b := c) (c := sn S) (by omega) (by omega) hn bc (by omega) (by omega)).2
theorem ad_len {S : Sh} {m : Nat} (hS : SOk S) (h4 : N4 S) (hn : sn S < 8) (hm : m ∈ sc S) : (adC m (sn S)).length = 3 := by
  obtain ⟨a, b, c, e, ab, ac, bc, ta, tb, tc, a8, b8, c8⟩ := (hS.2.2.2.1 m hm).bits
  have la := h4.2 a (h4.1 m hm a ta)
  have lb := h4.2 b (h4.1 m hm b tb)
  have lc := h4.2 c (h4.1 m hm c tc)
  rw [e]
  exact (ad_perm hn la lb lc ab ac bc).length_eq
theorem GS.len {S : Sh} (h : GS S) (ha : AllT S) (hn : sn S < 8) : (sc S).length = 2 * sn S - 4 := by
  rw [h.2.2.2.2.2.1.1, ha, (all_n hn).2]
