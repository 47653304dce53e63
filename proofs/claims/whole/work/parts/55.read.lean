/-! readFrom, empty, hasCorner, dropOneCorner, howManyWalls -/
theorem ins_end {m : Nat} : ∀ {A : List Nat}, (∀ x ∈ A, ¬ cdm m < cdm x) → ins m A = A ++ [m] := by
  intro A
  induction A with
  | nil => intro _; rfl
  | cons x t ih =>
    intro h
    unfold ins
    rw [if_neg (h x List.mem_cons_self), ih (fun y hy => h y (List.mem_cons_of_mem _ hy))]
    rfl
theorem sortC_id {C : List Nat} (h : srt C) : sortC C = C := by
  have key : ∀ n, n ≤ C.length → sortC (C.take n) = C.take n := by
    intro n
    induction n with
    | zero => intro _; rfl
    | succ n ih =>
      intro hn
      have e4 : C.take (n + 1) = C.take n ++ [C[n]?.getD 0] := by
        rw [List.take_add_one, List.getElem?_eq_getElem (by omega)]; rfl
      rw [e4, sortC_snoc, ih (by omega)]
      refine ins_end (fun x hx => ?_)
      obtain ⟨i, hi⟩ := List.mem_iff_getElem?.mp hx
      have hi2 : i < n := by
        have := (List.getElem?_eq_some_iff.mp hi).1
        rw [List.length_take] at this; omega
      rw [List.getElem?_take, if_pos hi2] at hi
      have := h i n hi2 (by omega)
      rw [hi] at this
      simp at this
      omega
  have := key C.length (Nat.le_refl _)
  rw [List.take_length] at this
  exact this
theorem sortC_sortC (C : List Nat) : sortC (sortC C) = sortC C := sortC_id (sortC_srt C)
theorem c_readFrom {d o w nw f : Nat} (ho : kd o = (0, 2)) (hw : kd w = (1, nw)) (hf : f + 24 ≤ nw) (hnw : nw < 2000) (hap : w < o ∨ o + 5 < w) {K : Mem → Prop} {S : Sh} {M : Mem} (hR : Rw M w f S) (hn : ri M o 0 = nI (sn S)) (hS : SOk S) (hs : srt (sc S)) (hK : ∀ M', Sm M M' o → Fr M' o S → K M') : CV (d + 2) μX2_readFrom [.ref o, .ref w, .int (nI f)] M K := by
  have h12 := hS.2.2.1
  refine sg_X2_readFrom_0 ho hw ?_
  have e4 : (4 : Int32) = nI 4 := rfl
  rw [if_neg (nI_pos (by omega)), l_24, l_2, l_3, e4, l_8, l_12, nI_1, nI_add, nI_add, nI_add, nI_add, nI_add, if_pos (by rw [show Int32.ofNat nw = nI nw from rfl, nI_leI (by omega) (by omega)]; exact hf)]
  have c : ∀ i, i < 2 ^ 31 → nx (nI i) = i := fun i hi => nI_clamp hi
  rw [c f (by omega), c (f + 1) (by omega), c (f + 2) (by omega), c (f + 3) (by omega), c (f + 4) (by omega), c (f + 4 + 8) (by omega), c 8 (by omega), c 12 (by omega), x_0]
  refine ⟨n_in (by omega) (by omega), ?_⟩
  intro M1 h1
  refine ⟨n_in (by omega) (by omega), ?_⟩
  intro M2 h2
  refine ⟨n_in (by omega) (by omega), ?_⟩
  intro M3 h3
  refine ⟨n_in (by omega) (by omega), ?_⟩
  intro M4 h4
  refine ⟨⟨nI_pos (by omega), by decide, by decide, by omega, by omega⟩, ?_⟩
  intro M5 h5
  refine ⟨⟨nI_pos (by omega), by decide, by decide, by omega, by omega⟩, ?_⟩
  intro M6 h6
  have o1 : ∀ k, k ≠ o → ∀ j, ri M1 k j = ri M k j := fun k hk j => by rw [h1, ri_wi, if_neg (fun z => hk z.1)]
  have o2 : ∀ k, k ≠ o → ∀ j, ri M2 k j = ri M k j := fun k hk j => by rw [h2, ri_wi, if_neg (fun z => hk z.1)]; exact o1 k hk j
  have o3 : ∀ k, k ≠ o → ∀ j, ri M3 k j = ri M k j := fun k hk j => by rw [h3, ri_wi, if_neg (fun z => hk z.1)]; exact o2 k hk j
  have o4 : ∀ k, k ≠ o → ∀ j, ri M4 k j = ri M k j := fun k hk j => by rw [h4, ri_wi, if_neg (fun z => hk z.1)]; exact o3 k hk j
  have f4 : ri M4 o 0 = nI (sn S) ∧ ri M4 o 1 = nI (sb S) ∧ ri M4 o 2 = sy S ∧ ri M4 o 3 = nI (sd S) ∧ ri M4 o 4 = nI (sc S).length := by
    rw [o3 w (by omega), hR.2.2.2.1] at h4
    rw [o2 w (by omega), hR.2.2.1] at h3
    rw [o1 w (by omega), hR.2.1] at h2
    rw [hR.1] at h1
    rw [h4, h3, h2, h1]
    simp only [ri_wi]
    simp [hn]
  have r5 : ∀ k j, ri M5 k j = if k = o + 1 ∧ 0 ≤ j ∧ j < 0 + 8 then ri M w (f + 4 + (j - 0)) else ri M4 k j := by intro k j; rw [h5, ri_cpi, o4 w (by omega)]
  have o5 : ∀ k, k ≠ o + 1 → ∀ j, ri M5 k j = ri M4 k j := fun k hk j => by rw [r5, if_neg (fun z => hk z.1)]
  have r6 : ∀ k j, ri M6 k j = if k = o + 2 ∧ 0 ≤ j ∧ j < 0 + 12 then ri M w (f + 4 + 8 + (j - 0)) else ri M5 k j := by intro k j; rw [h6, ri_cpi, o5 w (by omega), o4 w (by omega)]
  have ro : ∀ j, ri M6 o j = ri M4 o j := fun j => by rw [r6, if_neg (fun z => by omega), o5 o (by omega)]
  have hFB : FB M6 o S := by
    refine ⟨(ro 0).trans f4.1, (ro 1).trans f4.2.1, (ro 2).trans f4.2.2.1, (ro 3).trans f4.2.2.2.1, (ro 4).trans f4.2.2.2.2, fun j hj => ?_, fun i hi => ?_⟩
    · rw [r6, if_neg (fun z => by omega), r5, if_pos ⟨rfl, by omega, by omega⟩, Nat.sub_zero]; exact hR.2.2.2.2.1 j hj
    · rw [r6, if_pos ⟨rfl, by omega, by omega⟩, Nat.sub_zero]; exact hR.2.2.2.2.2 i hi
  refine c_settle ho hFB hS (fun M7 g7 f7 => hK M7 (Sm.trans ⟨fun k hk j => ?_, fun k j => by rw [h6, h5, h4, h3, h2, h1]; rfl⟩ g7) ?_)
  · rw [r6, if_neg (fun z => by omega), o5 k (by omega), o4 k (by omega)]
  · have : setC S (sortC (sc S)) = S := by rw [sortC_id hs]; rfl
    rw [this] at f7
    exact f7
/-- the empty shire -/
def S0 : Sh := (0, 0, 0, 0, [], fun _ => 0)
theorem S0_ok : SOk S0 := ⟨by decide, by decide, by decide, (fun m hm => by cases hm), by decide, fun _ => Nat.zero_le _⟩
theorem c_empty {d o : Nat} (ho : kd o = (0, 2)) {K : Mem → Prop} {M : Mem} (hK : ∀ M', Sm M M' o → Fr M' o S0 → K M') : CV (d + 2) μX2_empty [.ref o] M K := by
  refine sg_X2_empty_0 ho ?_
  intro M1 h1 M2 h2 M3 h3 M4 h4 M5 h5
  have s5 : Sm M M5 o := by
    rw [h5, h4, h3, h2, h1]
    exact ((((Sm.wi (by omega) (by omega)).trans (Sm.wi (by omega) (by omega))).trans (Sm.wi (by omega) (by omega))).trans (Sm.wi (by omega) (by omega))).trans (Sm.wi (by omega) (by omega))
  have f5 : ∀ j, j < 5 → ri M5 o j = 0 := by
    intro j hj
    have : j = 0 ∨ j = 1 ∨ j = 2 ∨ j = 3 ∨ j = 4 := by omega
    rw [h5, h4, h3, h2, h1]
    simp only [ri_wi]
    rcases this with rfl | rfl | rfl | rfl | rfl <;> simp
  have loop : ∀ (f i : Nat) (M' : Mem), f + i = 8 → Sm M M' o → (∀ j, j < 5 → ri M' o j = 0) → (∀ j, j < i → ri M' (o + 1) j = 0) → RV (d + 2) μX2_empty 27 [(0, .ref o), (1, .int (nI i))] [] M' K := by
    intro f
    induction f with
    | zero =>
      intro i M' hi hs hf hz
      have : i = 8 := by omega
      subst this
      refine sg_X2_empty_27 ho ?_
      rw [if_pos (by rw [l_8, nI_leI (by omega) (by omega)]; omega)]
      refine c_settle (S := S0) ho ⟨hf 0 (by decide), hf 1 (by decide), hf 2 (by decide), hf 3 (by decide), hf 4 (by decide), fun j hj => hz j hj, fun i hi => absurd hi (Nat.not_lt_zero _)⟩ S0_ok (fun M7 g7 f7 => hK M7 (hs.trans g7) f7)
    | succ f ih =>
      intro i M' hi hs hf hz
      refine sg_X2_empty_27 ho ?_
      rw [if_neg (by rw [l_8, nI_leI (by omega) (by omega)]; omega)]
      refine ⟨n_in (by omega) (by decide), ?_⟩
      intro M2 h2
      rw [show nx (nI i) = i from nI_clamp (by omega)] at h2
      rw [nI_1]
      refine ih (i + 1) M2 (by omega) (hs.trans (by rw [h2]; exact Sm.wi (by omega) (by omega))) (fun j hj => by rw [h2, ri_wi, if_neg (fun z => by omega)]; exact hf j hj) (fun j hj => ?_)
      rw [h2, ri_wi]
      by_cases hz' : j = i
      · rw [if_pos ⟨rfl, hz'⟩]
      · rw [if_neg (fun z => hz' z.2)]; exact hz j (by omega)
  exact loop 8 0 M5 rfl s5 f5 (fun j h => absurd h (Nat.not_lt_zero _))
theorem c_hasCorner {d o : Nat} (ho : kd o = (0, 2)) {K : Int32 → Mem → Prop} {S : Sh} {M : Mem} {b : Nat} (hb : b < 256) (hF : FB M o S) (hS : SOk S) (hK : K (bI (decide (b ∈ sc S))) M) : CI d μX2_hasCorner [.ref o, .int (nI b)] M K := by
  have h12 := hS.2.2.1
  refine sg_X2_hasCorner_0 ho ?_
  have loop : ∀ (f i : Nat), f + i = (sc S).length → (∀ u, u < i → (sc S)[u]?.getD 0 ≠ b) → RI d μX2_hasCorner 2 [(0, .ref o), (1, .int (nI b)), (2, .int (nI i))] [] M K := by
    intro f
    induction f with
    | zero =>
      intro i hi hno
      refine sg_X2_hasCorner_2 ho ?_
      rw [hF.2.2.2.2.1, if_pos (by rw [nI_leI (by omega) (by omega)]; omega)]
      have : ¬ b ∈ sc S := by
        intro hm
        obtain ⟨u, hu⟩ := List.mem_iff_getElem?.mp hm
        have hlt := (List.getElem?_eq_some_iff.mp hu).1
        exact hno u (by omega) (by rw [hu]; rfl)
      rw [show decide (b ∈ sc S) = false by simp [this]] at hK
      exact hK
    | succ f ih =>
      intro i hi hno
      have hlt : i < (sc S).length := by omega
      refine sg_X2_hasCorner_2 ho ?_
      rw [hF.2.2.2.2.1, if_neg (by rw [nI_leI (by omega) (by omega)]; omega)]
      refine ⟨n_in (by omega) (by decide), ?_⟩
      rw [show nx (nI i) = i from nI_clamp (by omega), hF.2.2.2.2.2.2 i hlt]
      have hmem : (sc S)[i]?.getD 0 ∈ sc S := by rw [List.getElem?_eq_getElem hlt]; exact List.getElem_mem _
      have hm := (hS.2.2.2.1 _ hmem).1
      by_cases hc : (sc S)[i]?.getD 0 = b
      · rw [if_pos (by rw [hc])]
        rw [hc] at hmem
        rw [show decide (b ∈ sc S) = true by simp [hmem]] at hK
        exact hK
      · rw [if_neg (by rw [nI_eq (by omega) (by omega)]; exact hc), nI_1]
        refine ih (i + 1) (by omega) (fun u hu => ?_)
        rcases Nat.eq_or_lt_of_le (Nat.le_of_lt_succ hu) with q | q
        · rw [q]; exact hc
        · exact hno u q
  exact loop (sc S).length 0 rfl (fun u h => absurd h (Nat.not_lt_zero _))
/-- half of all who border, together -/
def wlF (S : Sh) : Nat → Nat
  | 0 => 0
  | p + 1 => wlF S p + pc8 (nbm (sc S) p)
theorem wlF_le (S : Sh) : ∀ p, wlF S p ≤ 8 * p := by
  intro p
  induction p with
  | zero => exact Nat.le_refl _
  | succ p ih => have := pc8_le (nbm (sc S) p); unfold wlF; omega
theorem n_half {a : Nat} (h : a < 2 ^ 31) : nI a / 2 = nI (a / 2) := by
  rw [l_2]; exact pk_div h (by omega) (by omega)
theorem c_howManyWalls {d o : Nat} (ho : kd o = (0, 2)) {K : Int32 → Mem → Prop} {S : Sh} {M : Mem} (hF : Fr M o S) (hK : K (nI (wlF S (sn S) / 2)) M) : CI (d + 1) μX2_howManyWalls [.ref o] M K := by
  have hS := hF.2.2
  have h8 := hS.1
  refine sg_X2_howManyWalls_0 ho ?_
  have loop : ∀ (f p : Nat), f + p = sn S → RI (d + 1) μX2_howManyWalls 4 [(0, .ref o), (1, .int (nI (wlF S p))), (2, .int (nI p))] [] M K := by
    intro f
    induction f with
    | zero =>
      intro p hp
      have hp : p = sn S := by omega
      subst hp
      refine sg_X2_howManyWalls_4 ho ?_
      have := wlF_le S (sn S)
      rw [hF.1.1, if_pos (by rw [nI_leI (by omega) (by omega)]; omega), n_half (by omega)]
      exact hK
    | succ f ih =>
      intro p hp
      refine sg_X2_howManyWalls_4 ho ?_
      rw [hF.1.1, if_neg (by rw [nI_leI (by omega) (by omega)]; omega)]
      refine ⟨n_in (by omega) (by decide), ?_⟩
      rw [show nx (nI p) = p from nI_clamp (by omega), hF.2.1.1 p (by omega)]
      refine c_bitCount (nbm_lt (n := 8) (fun m hm => (hS.2.2.2.1 m hm).1)) ?_
      rw [nI_add, nI_1]
      exact ih (p + 1) (by omega)
  exact loop (sn S) 0 rfl
