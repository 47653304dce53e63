/-! the reference's corners: doBorder, sizesOf, isCorner, addCorner, takeCorner -/
theorem r_doBorder {d : Nat} {M : Mem} {K : Int32 → Mem → Prop} {S : Sh} {a b : Nat} (ha : a < 8) (hb : b < 31) (hS : SOk S) (hA : Ar M 69 S) (h : K (bI ((nbm (sc S) a).testBit b)) M) : CI (d + 2) μX9_doBorder [.ref 58, .int (nI a), .int (nI b)] M K := by
  refine sg_X9_doBorder_0 ?_
  refine r_bordersOf ha hS hA ?_
  have hlt : nbm (sc S) a < 256 := nbm_lt (n := 8) (fun m hm => (hS.2.2.2.1 m hm).1)
  rw [n_bit (by omega) hb]
  by_cases ht : (nbm (sc S) a).testBit b = true
  · rw [if_pos ht, if_pos rfl]; rw [ht] at h; exact h
  · rw [if_neg ht, if_neg (by decide)]; rw [Bool.not_eq_true] at ht; rw [ht] at h; exact h
def szF (S : Sh) (x : Nat) : Nat → Nat
  | 0 => 0
  | k + 1 => szF S x k + if x.testBit k then sz S k else 0
theorem r_sizesOf {d : Nat} {M : Mem} {K : Int32 → Mem → Prop} {S : Sh} {x : Nat} (hx : x < 256) (hA : Ar M 69 S) (h : K (nI (szF S x 8)) M) : CI d μX9_sizesOf [.ref 58, .int (nI x)] M K := by
  refine sg_X9_sizesOf_0 ?_
  have loop : ∀ (f k : Nat), f + k = 8 → RI d μX9_sizesOf 4 [(0, .ref 58), (1, .int (nI x)), (2, .int (nI (szF S x k))), (3, .int (nI k))] [] M K := by
    intro f
    induction f with
    | zero =>
      intro k hk
      have : k = 8 := by omega
      subst this
      refine sg_X9_sizesOf_4 ?_
      rw [if_pos (by rw [l_8, nI_leI (by omega) (by omega)]; omega)]
      exact h
    | succ f ih =>
      intro k hk
      refine sg_X9_sizesOf_4 ?_
      rw [if_neg (by rw [l_8, nI_leI (by omega) (by omega)]; omega), n_bit (by omega) (by omega)]
      have hrec := ih (k + 1) (by omega)
      unfold szF at hrec
      have e14 : (14 : Int32) + nI k = nI (14 + k) := by rw [show (14 : Int32) = nI 14 from rfl, nI_add]
      rw [nI_1, e14]
      by_cases ht : x.testBit k = true
      · rw [if_pos ht, if_pos rfl]
        rw [if_pos ht] at hrec
        refine ⟨n_in (by omega) (by decide), ?_⟩
        rw [show nx (nI (14 + k)) = 14 + k from nI_clamp (by omega), hA.2.2.2.1 k (by omega), nI_add]
        exact hrec
      · rw [if_neg ht, if_neg (by decide)]
        rw [if_neg ht] at hrec
        rw [l_0, nI_add]
        exact hrec
  exact loop 8 0 rfl
/-- only the row 'air' may change -/
def Sa (M M' : Mem) : Prop := (∀ k, k ≠ 69 → ∀ j, ri M' k j = ri M k j) ∧ ∀ k j, rl M' k j = rl M k j
theorem Sa.rf {M : Mem} : Sa M M := ⟨fun _ _ _ => rfl, fun _ _ => rfl⟩
theorem Sa.trans {M M' M'' : Mem} (h : Sa M M') (h2 : Sa M' M'') : Sa M M'' := ⟨fun k hk j => (h2.1 k hk j).trans (h.1 k hk j), fun k j => (h2.2 k j).trans (h.2 k j)⟩
theorem Sa.wi {M : Mem} {j : Nat} {x : Int32} : Sa M (wi M 69 j x) := ⟨fun k hk b => by rw [ri_wi, if_neg (fun q => hk q.1)], fun _ _ => rfl⟩
theorem cdm_inj : ((List.range 256).all fun x => !(pc8 x == 3) || (List.range 256).all fun y => !(pc8 y == 3) || !(cdm x == cdm y) || x == y) = true := by decide +kernel
theorem cdm_eq {x y : Nat} (hx : T3 x) (hy : T3 y) (h : cdm x = cdm y) : x = y := by
  have h1 := List.all_eq_true.mp cdm_inj x (List.mem_range.mpr hx.1)
  rw [show (pc8 x == 3) = true by simp [hx.2], Bool.not_true, Bool.false_or] at h1
  have h2 := List.all_eq_true.mp h1 y (List.mem_range.mpr hy.1)
  rw [show (pc8 y == 3) = true by simp [hy.2], show (cdm x == cdm y) = true by simp [h]] at h2
  simpa using h2
theorem Ar.frame {M M' : Mem} {S : Sh} {C : List Nat} (h : Ar M 69 S) (h2 : ∀ j, 13 ≤ j → ri M' 69 j = ri M 69 j) (hl : ri M' 69 12 = nI C.length) (hc : ∀ i, i < C.length → ri M' 69 i = nI (cdm (C[i]?.getD 0))) : Ar M' 69 (setC S C) :=
  ⟨hc, hl, (h2 13 (by decide)).trans h.2.2.1, fun j hj => (h2 (14 + j) (by omega)).trans (h.2.2.2.1 j hj), (h2 22 (by decide)).trans h.2.2.2.2.1, (h2 23 (by decide)).trans h.2.2.2.2.2⟩
/-- a corner is put in at its place -/
theorem r_addCorner {d : Nat} {M0 : Mem} {K : Mem → Prop} {S : Sh} {a b c : Nat} (ha : a < 8) (hb : b < 8) (hc : c < 8) (h1 : a ≠ b) (h2 : a ≠ c) (h3 : b ≠ c) (hS : SOk S) (hs : srt (sc S)) (hl : (sc S).length < 12) (hA : Ar M0 69 S) (hK : ∀ M', Sa M0 M' → Ar M' 69 (setC S (ins (tri a b c) (sc S))) → K M') : CV (d + 2) μX9_addCorner [.ref 58, .int (nI a), .int (nI b), .int (nI c)] M0 K := by
  have hT3 := (tri_ok ha hb hc h1 h2 h3).2
  refine sg_X9_addCorner_0 ?_
  refine r_cornerOf ha hb hc h1 h2 h3 ?_
  rw [x_12, hA.2.1]
  generalize tri a b c = m at hT3 hK
  have hPT : ∀ u, u < (sc S).length → T3 ((sc S)[u]?.getD 0) := fun u hu => by
    rw [List.getElem?_eq_getElem hu]; exact hS.2.2.2.1 _ (List.getElem_mem _)
  have hcm := cdm_lt m hT3.1
  -- the end
  have fin : ∀ (t : Nat) (M : Mem), t ≤ (sc S).length → Sa M0 M → (∀ j, 12 ≤ j → ri M 69 j = ri M0 69 j) → (∀ u, u ≤ (sc S).length → u ≠ t → ri M 69 u = nI (cdm (if t < u then (sc S)[u - 1]?.getD 0 else (sc S)[u]?.getD 0))) → (∀ u, t ≤ u → u < (sc S).length → cdm m < cdm ((sc S)[u]?.getD 0)) → (∀ u, u < t → ¬ cdm m < cdm ((sc S)[u]?.getD 0)) →
      (vp_in (nI t) 24 ∧ ∀ M1, M1 = wi M 69 (nx (nI t)) (nI (cdm m)) → (∀ M2, M2 = wi M1 69 12 ((ri M1 69 12) + 1) → K M2)) := by
    intro t M ht hSa h13 harr hge hlt
    refine ⟨n_in (by omega) (by decide), ?_⟩
    intro M1 hm1 M2 hm2
    rw [show nx (nI t) = t from nI_clamp (by omega)] at hm1
    have e12 : ri M1 69 12 = nI (sc S).length := by rw [hm1, ri_wi, if_neg (fun z => by omega), h13 12 (by omega)]; exact hA.2.1
    rw [e12, nI_1] at hm2
    have r : ∀ j, ri M2 69 j = if j = 12 then nI ((sc S).length + 1) else if j = t then nI (cdm m) else ri M 69 j := by
      intro j; rw [hm2, ri_wi, hm1, ri_wi]; simp
    have hin := ins_at (sc S) t ht hlt hge
    refine hK M2 (hSa.trans ⟨fun k hk j => by rw [hm2, ri_wi, if_neg (fun z => hk z.1), hm1, ri_wi, if_neg (fun z => hk z.1)], fun k j => by rw [hm2, hm1]; rfl⟩) (Ar.frame hA (fun j hj => ?_) ?_ (fun i hi => ?_))
    · rw [r, if_neg (by omega), if_neg (by omega)]; exact h13 j (by omega)
    · rw [r, if_pos rfl, ins_len]
    · rw [ins_len] at hi
      rw [r, if_neg (by omega), ins_get hin ht i]
      by_cases hz : i = t
      · rw [if_pos hz, if_neg (by omega), if_pos hz]
      · rw [if_neg hz, harr i (by omega) hz]
        by_cases hlt' : i < t
        · rw [if_neg (by omega), if_pos hlt']
        · rw [if_pos (by omega), if_neg hlt', if_neg hz]
  have loop : ∀ (t : Nat) (M : Mem), t ≤ (sc S).length → Sa M0 M → (∀ j, 12 ≤ j → ri M 69 j = ri M0 69 j) → (∀ u, u ≤ (sc S).length → u ≠ t → ri M 69 u = nI (cdm (if t < u then (sc S)[u - 1]?.getD 0 else (sc S)[u]?.getD 0))) → (∀ u, t ≤ u → u < (sc S).length → cdm m < cdm ((sc S)[u]?.getD 0)) →
      RV (d + 2) μX9_addCorner 17 [(0, .ref 58), (1, .int (nI a)), (2, .int (nI b)), (3, .int (nI c)), (4, .int (nI (cdm m))), (5, .int (nI t))] [] M K := by
    intro t
    induction t with
    | zero =>
      intro M ht hSa h13 harr hge
      refine sg_X9_addCorner_17 ?_
      rw [if_pos (by rw [l_0, nI_leI (by omega) (by omega)]; omega)]
      exact fin 0 M ht hSa h13 harr hge (fun u hu => absurd hu (Nat.not_lt_zero _))
    | succ t ih =>
      intro M ht hSa h13 harr hge
      refine sg_X9_addCorner_17 ?_
      have ep : nI (t + 1) - 1 = nI t := nI_pred t
      rw [if_neg (by rw [l_0, nI_leI (by omega) (by omega)]; omega), ep]
      have hin : vp_in (nI t) 24 := n_in (by omega) (by decide)
      refine ⟨hin, ?_⟩
      have hrd : ri M 69 (nx (nI t)) = nI (cdm ((sc S)[t]?.getD 0)) := by
        rw [show nx (nI t) = t from nI_clamp (by omega), harr t (by omega) (by omega), if_neg (by omega)]
      have hct := cdm_lt _ (hPT t (by omega)).1
      rw [hrd]
      by_cases hcc : cdm m < cdm ((sc S)[t]?.getD 0)
      · rw [if_neg (by rw [nI_leI (by omega) (by omega)]; omega)]
        refine ⟨hin, n_in (by omega) (by decide), ?_⟩
        intro M5 hm5
        rw [show nx (nI (t + 1)) = t + 1 from nI_clamp (by omega)] at hm5
        rw [nI_m1, ep]
        refine ih M5 (by omega) (hSa.trans (by rw [hm5]; exact Sa.wi)) (fun j hj => by rw [hm5, ri_wi, if_neg (fun z => by omega)]; exact h13 j hj) (fun u hu hne => ?_) (fun u hu1 hu2 => ?_)
        · rw [hm5, ri_wi]
          by_cases c2 : u = t + 1
          · rw [if_pos ⟨rfl, c2⟩, c2, if_pos (by omega)]; rfl
          · rw [if_neg (fun z => c2 z.2), harr u hu c2]
            by_cases c3 : t + 1 < u
            · rw [if_pos c3, if_pos (by omega)]
            · rw [if_neg c3, if_neg (by omega)]
        · rcases Nat.eq_or_lt_of_le hu1 with q | q
          · rw [← q]; exact hcc
          · exact hge u q hu2
      · rw [if_pos (by rw [nI_leI (by omega) (by omega)]; omega)]
        refine fin (t + 1) M ht hSa h13 harr hge (fun u hu => ?_)
        rcases Nat.eq_or_lt_of_le (Nat.le_of_lt_succ hu) with q | q
        · rw [q]; exact hcc
        · have := hs u t q (by omega)
          omega
  refine loop (sc S).length M0 (Nat.le_refl _) Sa.rf (fun _ _ => rfl) (fun u hu hne => ?_) (fun u h1 h2 => by omega)
  rw [if_neg (by omega)]
  exact hA.1 u (by omega)
