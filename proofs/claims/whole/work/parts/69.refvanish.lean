/-! the reference's vanish -/
def vS (m : Nat) : Nat → Int32 × Int32 × Int32
  | 0 => (-1, -1, -1)
  | k + 1 => if m.testBit k then ((vS m k).2.1, (vS m k).2.2, nI k) else vS m k
theorem vS_8 : ∀ m, m < 256 → pc8 m = 3 → vS m 8 = (nI (bx m), nI (bY m), nI (bz m)) := by decide +kernel
theorem tk_keep {x m : Nat} (h : x ≠ m) : ∀ {C : List Nat}, x ∈ C → x ∈ tk m C := by
  intro C
  induction C with
  | nil => intro h; exact h
  | cons y t ih =>
    intro hx
    by_cases q : y = m
    · have : tk m (y :: t) = t := by show (if y = m then t else _) = _; rw [if_pos q]
      rw [this]
      rcases List.mem_cons.mp hx with z | z
      · exact absurd (z.trans q) h
      · exact z
    · rw [tk_skip q]
      rcases List.mem_cons.mp hx with z | z
      · rw [z]; exact List.mem_cons_self
      · exact List.mem_cons_of_mem _ (ih z)
theorem r_vanish {d : Nat} {M : Mem} {K : Mem → Prop} {S : Sh} {p : Nat} (hp : p < 8) (hS : SOk S) (hs : srt (sc S)) (h1 : N1 (sc S)) (h3 : dgm (sc S) p = 3) (hA : Ar M 69 S) (hK : ∀ M', Sa M M' → Ar M' 69 (vanS S p) → K M') : CV (d + 3) μX9_vanish [.ref 58, .int (nI p)] M K := by
  have h12 := hS.2.2.1
  obtain ⟨hT, k1, k2, k3, -⟩ := three_at hS.2.2.2.1 h1 hp h3
  have hdr := vanS_ref hS hs h1 hp h3
  obtain ⟨x8, y8, z8, xy, xz, yz, htri, bx1, by1, bz1⟩ := bxyz _ hT.1 hT.2
  have hpn : ∀ j, (nbm (sc S) p).testBit j = true → j ≠ p := by
    intro j hj z
    rw [z] at hj
    unfold nbm at hj
    rw [clr_tb, Nat.testBit_two_pow] at hj
    simp at hj
  have px := hpn _ bx1
  have py := hpn _ by1
  have pz := hpn _ bz1
  have hvs := vS_8 _ hT.1 hT.2
  refine sg_X9_vanish_0 ?_
  refine r_bordersOf (d := d + 1) hp hS hA ?_
  have na := hT.1
  generalize hnb : nbm (sc S) p = m at *
  generalize hx : bx m = x at *
  generalize hy : bY m = y at *
  generalize hz : bz m = z at *
  have loop : ∀ (f k : Nat), f + k = 8 → RV (d + 3) μX9_vanish 17 [(0, .ref 58), (1, .int (nI p)), (2, .int (nI m)), (3, .int (vS m k).1), (4, .int (vS m k).2.1), (5, .int (vS m k).2.2), (6, .int (nI k))] [] M K := by
    intro f
    induction f with
    | zero =>
      intro k hk
      have hk : k = 8 := by omega
      subst hk
      rw [hvs]
      refine sg_X9_vanish_17 ?_
      rw [if_pos (by rw [l_8, nI_leI (by omega) (by omega)]; omega)]
      have nd : ∀ u v w q : Nat, q ≠ p → q ≠ u → q ≠ v → tri p w q ≠ tri p u v := by
        intro u v w q a1 a2 a3 e
        have : (tri p w q).testBit q = (tri p u v).testBit q := by rw [e]
        rw [tri_tb, tri_tb] at this
        simp at this
        omega
      have m2 : tri p x z ∈ tk (tri p x y) (sc S) := tk_keep (nd _ _ _ _ pz (fun q => xz q.symm) (fun q => yz q.symm)) k2
      have m3a : tri p y z ∈ tk (tri p x y) (sc S) := tk_keep (nd _ _ _ _ pz (fun q => xz q.symm) (fun q => yz q.symm)) k3
      have yz' : tri p y z ≠ tri p x z := fun e => by
        have : (tri p y z).testBit y = (tri p x z).testBit y := by rw [e]
        rw [tri_tb, tri_tb] at this
        simp at this
        omega
      have m3 : tri p y z ∈ tk (tri p x z) (tk (tri p x y) (sc S)) := tk_keep yz' m3a
      have len1 := tk_len k1
      have len2 := tk_len m2
      have len3 := tk_len m3
      refine r_cornerOf (d := d + 1) (a := p) (b := x) (c := y) hp x8 y8 (fun q => px q.symm) (fun q => py q.symm) xy ?_
      refine r_takeCorner hS k1 hA (fun M3 s3 A3 => ?_)
      refine r_cornerOf (d := d + 1) (a := p) (b := x) (c := z) hp x8 z8 (fun q => px q.symm) (fun q => pz q.symm) xz ?_
      have ok3 : SOk (setC S (tk (tri p x y) (sc S))) := hS.set (by omega) (tk_T3 hS.2.2.2.1)
      refine r_takeCorner ok3 m2 A3 (fun M6 s6 A6 => ?_)
      refine r_cornerOf (d := d + 1) (a := p) (b := y) (c := z) hp y8 z8 (fun q => py q.symm) (fun q => pz q.symm) yz ?_
      have ok6 : SOk (setC S (tk (tri p x z) (tk (tri p x y) (sc S)))) := hS.set (by omega) (tk_T3 (tk_T3 hS.2.2.2.1))
      refine r_takeCorner (S := setC S (tk (tri p x z) (tk (tri p x y) (sc S)))) ok6 m3 A6 (fun M9 s9 A9 => ?_)
      have ok9 : SOk (setC S (tk (tri p y z) (tk (tri p x z) (tk (tri p x y) (sc S))))) := hS.set (by omega) (tk_T3 (tk_T3 (tk_T3 hS.2.2.2.1)))
      have srt9 : srt (tk (tri p y z) (tk (tri p x z) (tk (tri p x y) (sc S)))) := tk_srt m3 (tk_srt m2 (tk_srt k1 hs))
      refine r_addCorner (d := d) (a := x) (b := y) (c := z) x8 y8 z8 xy xz yz (S := setC S (tk (tri p y z) (tk (tri p x z) (tk (tri p x y) (sc S))))) ok9 srt9 (by rw [sc_setC]; omega) A9 (fun M10 s10 A10 => ?_)
      rw [sc_setC, htri] at A10
      have T2 : ∀ u ∈ ins m (tk (tri p y z) (tk (tri p x z) (tk (tri p x y) (sc S)))), T3 u := by
        intro u hu
        rcases ins_mem.mp hu with q | q
        · rw [q]; exact hT
        · exact tk_T3 (tk_T3 (tk_T3 hS.2.2.2.1)) u q
      have ok10 : SOk (setC S (ins m (tk (tri p y z) (tk (tri p x z) (tk (tri p x y) (sc S)))))) := hS.set (by rw [ins_len]; omega) T2
      refine r_leave (S := setC S (ins m (tk (tri p y z) (tk (tri p x z) (tk (tri p x y) (sc S)))))) hp ok10 A10 (fun M11 s11 A11 => ?_)
      refine hK M11 ((((s3.trans s6).trans s9).trans s10).trans s11) ?_
      have e : vanS S p = lvS (setC S (ins m (tk (tri p y z) (tk (tri p x z) (tk (tri p x y) (sc S)))))) p := by
        unfold vanS
        rw [sortC_snoc, sortC_id (drp_srt hs), hdr, hnb]
        rfl
      rw [e]
      exact A11
    | succ f ih =>
      intro k hk
      have hrec := ih (k + 1) (by omega)
      refine sg_X9_vanish_17 ?_
      rw [if_neg (by rw [l_8, nI_leI (by omega) (by omega)]; omega), n_bit (by omega) (by omega), nI_1]
      unfold vS at hrec
      by_cases ht : m.testBit k = true
      · rw [if_pos ht, if_neg (by decide)]
        rw [if_pos ht] at hrec
        exact hrec
      · rw [if_neg ht, if_pos rfl]
        rw [if_neg ht] at hrec
        exact hrec
  exact loop 8 0 rfl
