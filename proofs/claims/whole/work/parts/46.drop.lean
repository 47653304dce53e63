/-! corners come and go -/
/-- only how many corners there are, and their row, may change -/
def Sm2 (M M' : Mem) (o : Nat) : Prop := (∀ k, k ≠ o + 2 → ∀ j, ¬ (k = o ∧ j = 4) → ri M' k j = ri M k j) ∧ ∀ k j, rl M' k j = rl M k j
theorem Sm2.rf {M : Mem} {o : Nat} : Sm2 M M o := ⟨fun _ _ _ _ => rfl, fun _ _ => rfl⟩
theorem Sm2.trans {M M' M'' : Mem} {o : Nat} (h : Sm2 M M' o) (h2 : Sm2 M' M'' o) : Sm2 M M'' o := ⟨fun k hk j hj => (h2.1 k hk j hj).trans (h.1 k hk j hj), fun k j => (h2.2 k j).trans (h.2 k j)⟩
theorem Sm2.sm {M M' : Mem} {o : Nat} (h : Sm2 M M' o) : Sm M M' o := ⟨fun k hk j => h.1 k (by omega) j (by omega), h.2⟩
theorem Sm2.FB {M M' : Mem} {o : Nat} {S : Sh} (h : Sm2 M M' o) (hF : FB M o S) {C : List Nat} (hl : ri M' o 4 = nI C.length) (h2 : ∀ i, i < C.length → ri M' (o + 2) i = nI (C[i]?.getD 0)) : FB M' o (setC S C) :=
  ⟨(h.1 o (by omega) 0 (by omega)).trans hF.1, (h.1 o (by omega) 1 (by omega)).trans hF.2.1, (h.1 o (by omega) 2 (by omega)).trans hF.2.2.1, (h.1 o (by omega) 3 (by omega)).trans hF.2.2.2.1, hl, fun j hj => (h.1 (o + 1) (by omega) j (by omega)).trans (hF.2.2.2.2.2.1 j hj), h2⟩
theorem c_addCorner {d o : Nat} (ho : kd o = (0, 2)) {K : Mem → Prop} {S : Sh} {M : Mem} {x : Nat} (hF : FB M o S) (hl : (sc S).length < 12) (hK : ∀ M', Sm2 M M' o → FB M' o (setC S (sc S ++ [x])) → K M') : CV d μX2_addCorner [.ref o, .int (nI x)] M K := by
  refine sg_X2_addCorner_0 ho ?_
  rw [hF.2.2.2.2.1, if_neg (by rw [l_12, nI_leI (by omega) (by omega)]; omega)]
  refine ⟨n_in (by omega) (by decide), ?_⟩
  intro M1 h1 M2 h2
  rw [show nx (nI (sc S).length) = (sc S).length from nI_clamp (by omega)] at h1
  have e4 : ri M1 o 4 = nI (sc S).length := by rw [h1, ri_wi, if_neg (fun q => by omega)]; exact hF.2.2.2.2.1
  rw [e4, nI_1] at h2
  have r : ∀ k j, ri M2 k j = if k = o ∧ j = 4 then nI ((sc S).length + 1) else if k = o + 2 ∧ j = (sc S).length then nI x else ri M k j := by
    intro k j; rw [h2, ri_wi, h1, ri_wi]
  have hSm : Sm2 M M2 o := ⟨fun k hk j hj => by rw [r, if_neg hj, if_neg (fun q => hk q.1)], fun k j => by rw [h2, h1]; rfl⟩
  refine hK M2 hSm (hSm.FB hF (by rw [r, if_pos ⟨rfl, rfl⟩, List.length_append]; rfl) (fun i hi => ?_))
  rw [r, if_neg (fun q => by omega)]
  rw [List.length_append] at hi
  by_cases hz : i = (sc S).length
  · subst hz
    rw [if_pos ⟨rfl, rfl⟩]; simp
  · have : i < (sc S).length := by simp at hi; omega
    rw [if_neg (fun q => hz q.2), List.getElem?_append_left this]
    exact hF.2.2.2.2.2.2 i this
/-- the corners that don't hold all of b -/
def drp (b : Nat) (C : List Nat) : List Nat := C.filter (fun m => !decide (m &&& b = b))
theorem drp_take_succ {b : Nat} {C : List Nat} {i : Nat} (hi : i < C.length) : drp b (C.take (i + 1)) = if (C[i]?.getD 0) &&& b = b then drp b (C.take i) else drp b (C.take i) ++ [C[i]?.getD 0] := by
  unfold drp
  rw [List.take_add_one, List.getElem?_eq_getElem hi, List.filter_append]
  by_cases h : C[i] &&& b = b <;> simp [h]
theorem drp_len_le (b : Nat) (C : List Nat) : (drp b C).length ≤ C.length := List.length_filter_le _ _
theorem drop_loop {d o : Nat} (ho : kd o = (0, 2)) {K : Mem → Prop} {S : Sh} {M0 : Mem} {b : Nat} (hb : b < 256) (hF : FB M0 o S) (hS : SOk S) (hK : ∀ M', Sm2 M0 M' o → FB M' o (setC S (drp b (sc S))) → K M') :
    ∀ (f i : Nat) (M : Mem), f + i = (sc S).length → (∀ k, k ≠ o + 2 → ∀ j, ri M k j = ri M0 k j) → (∀ k j, rl M k j = rl M0 k j) → (∀ u, u < (drp b ((sc S).take i)).length → ri M (o + 2) u = nI ((drp b ((sc S).take i))[u]?.getD 0)) → (∀ u, i ≤ u → u < (sc S).length → ri M (o + 2) u = nI ((sc S)[u]?.getD 0)) →
      RV d μX2_dropCornersOf 4 [(0, .ref o), (1, .int (nI b)), (2, .int (nI (drp b ((sc S).take i)).length)), (3, .int (nI i))] [] M K := by
  have h12 : (sc S).length ≤ 12 := hS.2.2.1
  intro f
  induction f with
  | zero =>
    intro i M hi hoth hlng hlow hhigh
    have hi : i = (sc S).length := by omega
    subst hi
    rw [List.take_length] at hlow ⊢
    refine sg_X2_dropCornersOf_4 ho ?_
    rw [hoth o (by omega) 4, hF.2.2.2.2.1, if_pos (by rw [nI_leI (by omega) (by omega)]; omega)]
    intro M1 h1
    have r : ∀ k j, ri M1 k j = if k = o ∧ j = 4 then nI (drp b (sc S)).length else ri M k j := by
      intro k j; rw [h1, ri_wi]
    have hSm : Sm2 M0 M1 o := ⟨fun k hk j hj => by rw [r, if_neg hj]; exact hoth k hk j, fun k j => by rw [h1]; exact hlng k j⟩
    refine hK M1 hSm (hSm.FB hF (by rw [r, if_pos ⟨rfl, rfl⟩]) (fun u hu => ?_))
    rw [r, if_neg (fun q => by omega)]
    exact hlow u hu
  | succ f ih =>
    intro i M hi hoth hlng hlow hhigh
    have hlt : i < (sc S).length := by omega
    have hkl : (drp b ((sc S).take i)).length ≤ i := Nat.le_trans (drp_len_le _ _) (by rw [List.length_take]; omega)
    refine sg_X2_dropCornersOf_4 ho ?_
    rw [hoth o (by omega) 4, hF.2.2.2.2.1, if_neg (by rw [nI_leI (by omega) (by omega)]; omega)]
    have hin : vp_in (nI i) 12 := n_in (by omega) (by decide)
    have hrd : ri M (o + 2) (nx (nI i)) = nI ((sc S)[i]?.getD 0) := by
      rw [show nx (nI i) = i from nI_clamp (by omega)]; exact hhigh i (Nat.le_refl _) hlt
    refine ⟨hin, ?_⟩
    rw [hrd, n_and]
    have hm : (sc S)[i]?.getD 0 < 256 := by
      rw [List.getElem?_eq_getElem hlt]; exact (hS.2.2.2.1 _ (List.getElem_mem _)).1
    have hmb : ((sc S)[i]?.getD 0) &&& b < 2 ^ 31 := Nat.lt_of_le_of_lt Nat.and_le_left (by omega)
    have hrec := ih (i + 1)
    rw [drp_take_succ hlt] at hrec
    by_cases hc : ((sc S)[i]?.getD 0) &&& b = b
    · rw [if_pos (by rw [nI_eq hmb (by omega)]; exact hc), nI_1]
      rw [if_pos hc] at hrec
      exact hrec M (by omega) hoth hlng hlow (fun u h1 h2 => hhigh u (by omega) h2)
    · rw [if_neg (by rw [nI_eq hmb (by omega)]; exact hc)]
      refine ⟨hin, n_in (by omega) (by decide), ?_⟩
      intro M2 h2
      rw [show nx (nI (drp b ((sc S).take i)).length) = (drp b ((sc S).take i)).length from nI_clamp (by omega)] at h2
      rw [if_neg hc] at hrec
      rw [nI_1, nI_1]
      have r : ∀ k j, ri M2 k j = if k = o + 2 ∧ j = (drp b ((sc S).take i)).length then nI ((sc S)[i]?.getD 0) else ri M k j := by
        intro k j; rw [h2, ri_wi]
      have hlen : (drp b ((sc S).take i) ++ [(sc S)[i]?.getD 0]).length = (drp b ((sc S).take i)).length + 1 := by simp
      rw [hlen] at hrec
      refine hrec M2 (by omega) (fun k hk j => by rw [r, if_neg (fun q => hk q.1)]; exact hoth k hk j) (fun k j => by rw [h2]; exact hlng k j) (fun u hu => ?_) (fun u h1 h3 => ?_)
      · rw [r]
        by_cases hz : u = (drp b ((sc S).take i)).length
        · rw [if_pos ⟨rfl, hz⟩, hz]; simp
        · rw [if_neg (fun q => hz q.2), List.getElem?_append_left (by omega)]
          exact hlow u (by omega)
      · rw [r, if_neg (fun q => by omega)]
        exact hhigh u (by omega) h3
theorem c_dropCornersOf {d o : Nat} (ho : kd o = (0, 2)) {K : Mem → Prop} {S : Sh} {M : Mem} {b : Nat} (hb : b < 256) (hF : FB M o S) (hS : SOk S) (hK : ∀ M', Sm2 M M' o → FB M' o (setC S (drp b (sc S))) → K M') : CV d μX2_dropCornersOf [.ref o, .int (nI b)] M K := by
  refine sg_X2_dropCornersOf_0 ho ?_
  exact drop_loop ho hb hF hS hK (sc S).length 0 M rfl (fun _ _ _ => rfl) (fun _ _ => rfl) (fun u hu => absurd hu (by simp [drp])) (fun u _ h => hF.2.2.2.2.2.2 u h)
