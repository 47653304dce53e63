/-! settle, over the machine -/
theorem nI_m1 (t : Nat) : nI t + (-1) = nI t - 1 := by
  rw [Int32.sub_eq_add_neg]
theorem z_neg : (nI 0 - 1 : Int32) < 0 := by decide +kernel
theorem FB.frame {M M' : Mem} {o : Nat} {S : Sh} (h : FB M o S) (h0 : ∀ j, ri M' o j = ri M o j) (h1 : ∀ j, ri M' (o + 1) j = ri M (o + 1) j) {C : List Nat} (hl : C.length = (sc S).length) (h2 : ∀ i, i < C.length → ri M' (o + 2) i = nI (C[i]?.getD 0)) : FB M' o (setC S C) :=
  ⟨(h0 0).trans h.1, (h0 1).trans h.2.1, (h0 2).trans h.2.2.1, (h0 3).trans h.2.2.2.1, (h0 4).trans (by rw [h.2.2.2.2.1, sc_setC, hl]), fun j hj => (h1 j).trans (h.2.2.2.2.2.1 j hj), h2⟩
/-- the inner loop: m goes down among the first i -/
theorem settle_inner {d o : Nat} (ho : kd o = (0, 2)) {K : Mem → Prop} {P : List Nat} {n i m : Nat} (hn : P.length = n) (hn12 : n ≤ 12) (hi : i < n) (hm : P[i]?.getD 0 = m) (hT : ∀ x ∈ P, T3 x) (hs : ∀ u v, u < v → v < i → cdm (P[u]?.getD 0) ≤ cdm (P[v]?.getD 0)) (M0 : Mem) :
    ∀ (t : Nat) (M : Mem), t ≤ i → Sm M0 M o → (∀ k, k ≠ o + 2 → ∀ j, ri M k j = ri M0 k j) → (∀ u, u < n → u ≠ t → ri M (o + 2) u = nI (if t < u ∧ u ≤ i then P[u - 1]?.getD 0 else P[u]?.getD 0)) → (∀ u, t ≤ u → u < i → cdm m < cdm (P[u]?.getD 0)) →
      (∀ M', Sm M0 M' o → (∀ k, k ≠ o + 2 → ∀ j, ri M' k j = ri M0 k j) → (∀ u, u < n → ri M' (o + 2) u = nI ((ins m (P.take i) ++ P.drop (i + 1))[u]?.getD 0)) → RV (d + 1) μX2_settle 2 [(0, .ref o), (1, .int (nI (i + 1)))] [] M' K) →
      RV (d + 1) μX2_settle 24 [(0, .ref o), (1, .int (nI i)), (2, .int (nI m)), (3, .int (nI t)), (4, .int (nI t - 1))] [] M K := by
  have hmT : T3 m := by
    rw [← hm, List.getElem?_eq_getElem (by omega)]
    exact hT _ (List.getElem_mem _)
  have hPT : ∀ u, u < n → T3 (P[u]?.getD 0) := fun u hu => by
    rw [List.getElem?_eq_getElem (by omega)]
    exact hT _ (List.getElem_mem _)
  have tlen : (P.take i).length = i := by rw [List.length_take]; omega
  -- the end: m is written at its place
  have fin : ∀ (t : Nat) (M : Mem), t ≤ i → Sm M0 M o → (∀ k, k ≠ o + 2 → ∀ j, ri M k j = ri M0 k j) → (∀ u, u < n → u ≠ t → ri M (o + 2) u = nI (if t < u ∧ u ≤ i then P[u - 1]?.getD 0 else P[u]?.getD 0)) → (∀ u, t ≤ u → u < i → cdm m < cdm (P[u]?.getD 0)) → (∀ u, u < t → ¬ cdm m < cdm (P[u]?.getD 0)) →
      (∀ M', Sm M0 M' o → (∀ k, k ≠ o + 2 → ∀ j, ri M' k j = ri M0 k j) → (∀ u, u < n → ri M' (o + 2) u = nI ((ins m (P.take i) ++ P.drop (i + 1))[u]?.getD 0)) → RV (d + 1) μX2_settle 2 [(0, .ref o), (1, .int (nI (i + 1)))] [] M' K) →
      (vp_in (nI t) 12 ∧ ∀ M1, M1 = wi M (o + 2) (nx (nI t)) (nI m) → RV (d + 1) μX2_settle 2 [(0, .ref o), (1, .int (nI i + 1))] [] M1 K) := by
    intro t M ht hSm hoth harr hge hlt hK
    refine ⟨n_in (by omega) (by decide), ?_⟩
    intro M1 hM1
    rw [nI_1]
    have e2 : (wi M (o + 2) (nx (nI t)) (nI m)) = wi M (o + 2) t (nI m) := by rw [show nx (nI t) = t from nI_clamp (by omega)]
    rw [e2] at hM1
    subst hM1
    refine hK _ (hSm.trans (Sm.wi (by omega) (by omega))) (fun k hk j => ?_) (fun u hu => ?_)
    · rw [ri_wi, if_neg (fun q => hk q.1)]; exact hoth k hk j
    · have e : ins m (P.take i) = (P.take i).take t ++ m :: (P.take i).drop t := by
        refine ins_at _ t (by omega) (fun u hu => ?_) (fun u h1 h2 => ?_)
        · rw [List.getElem?_take, if_pos (by omega)]; exact hlt u hu
        · rw [List.getElem?_take, if_pos (by omega)]; exact hge u h1 (by omega)
      have g := ins_get e (by omega) u
      rw [List.getElem?_append, ins_len, tlen]
      rw [ri_wi]
      by_cases c1 : u < i + 1
      · rw [if_pos c1, g]
        by_cases c2 : u = t
        · subst c2
          rw [if_pos ⟨rfl, rfl⟩, if_neg (Nat.lt_irrefl _), if_pos rfl]
        · rw [if_neg (fun q => c2 q.2), harr u hu c2, if_neg c2]
          by_cases c3 : u < t
          · rw [if_neg (by omega), if_pos c3, List.getElem?_take, if_pos (by omega)]
          · rw [if_pos (by omega), if_neg c3, List.getElem?_take, if_pos (by omega)]
      · rw [if_neg c1, if_neg (fun q => by omega), harr u hu (by omega), if_neg (by omega), List.getElem?_drop, show i + 1 + (u - (i + 1)) = u by omega]
  intro t
  induction t with
  | zero =>
    intro M ht hSm hoth harr hge hK
    refine sg_X2_settle_24 ho ?_
    rw [if_pos z_neg]
    exact fin 0 M ht hSm hoth harr hge (fun u hu => absurd hu (Nat.not_lt_zero _)) hK
  | succ t ih =>
    intro M ht hSm hoth harr hge hK
    refine sg_X2_settle_24 ho ?_
    have ex4 : nI (t + 1) - 1 = nI t := nI_pred t
    rw [ex4, if_neg (nI_pos (by omega))]
    refine ⟨n_in (by omega) (by decide), ?_⟩
    have hrd : ri M (o + 2) (nx (nI t)) = nI (P[t]?.getD 0) := by
      rw [show nx (nI t) = t from nI_clamp (by omega), harr t (by omega) (by omega), if_neg (by omega)]
    rw [hrd]
    refine c_comesBefore hmT (hPT t (by omega)) ?_
    by_cases hc : cdm m < cdm (P[t]?.getD 0)
    · rw [show decide (cdm m < cdm (P[t]?.getD 0)) = true by simp [hc], if_neg (by decide)]
      refine ⟨n_in (by omega) (by decide), by rw [nI_1]; exact n_in (by omega) (by decide), ?_⟩
      intro M5 hM5
      rw [hrd, nI_1, show nx (nI (t + 1)) = t + 1 from nI_clamp (by omega)] at hM5
      rw [nI_m1]
      subst hM5
      refine ih _ (by omega) (hSm.trans (Sm.wi (by omega) (by omega))) (fun k hk j => ?_) (fun u hu hne => ?_) (fun u h1 h2 => ?_) hK
      · rw [ri_wi, if_neg (fun q => hk q.1)]; exact hoth k hk j
      · rw [ri_wi]
        by_cases c2 : u = t + 1
        · subst c2
          rw [if_pos ⟨rfl, rfl⟩, if_pos (by omega)]
          rfl
        · rw [if_neg (fun q => c2 q.2), harr u hu c2]
          by_cases c3 : t + 1 < u ∧ u ≤ i
          · rw [if_pos c3, if_pos (by omega)]
          · rw [if_neg c3, if_neg (by omega)]
      · rcases Nat.eq_or_lt_of_le h1 with q | q
        · subst q; exact hc
        · exact hge u q h2
    · rw [show decide (cdm m < cdm (P[t]?.getD 0)) = false by simp [hc], if_pos (by decide)]
      refine fin (t + 1) M ht hSm hoth harr hge (fun u hu => ?_) hK
      rcases Nat.eq_or_lt_of_le (Nat.le_of_lt_succ hu) with q | q
      · subst q; exact hc
      · have := hs u t q (by omega)
        omega
/-- the outer loop: the first i are in order -/
theorem settle_outer {d o : Nat} (ho : kd o = (0, 2)) {K : Mem → Prop} {S : Sh} {C : List Nat} (hC : sc S = C) (hS : SOk S) (M0 : Mem) (hF0 : FB M0 o S) (hK : ∀ M', Sm M0 M' o → FB M' o (setC S (sortC C)) → RV (d + 1) μX2_settle 83 [(0, .ref o), (1, .int 0)] [] M' K) :
    ∀ (f i : Nat) (M : Mem), f + i = C.length + 1 → 1 ≤ i → Sm M0 M o → (∀ k, k ≠ o + 2 → ∀ j, ri M k j = ri M0 k j) → (∀ u, u < C.length → ri M (o + 2) u = nI ((sortC (C.take i) ++ C.drop i)[u]?.getD 0)) → RV (d + 1) μX2_settle 2 [(0, .ref o), (1, .int (nI i))] [] M K := by
  have h12 : C.length ≤ 12 := by rw [← hC]; exact hS.2.2.1
  have hT : ∀ x ∈ C, T3 x := by rw [← hC]; exact hS.2.2.2.1
  have stop : ∀ (i : Nat) (M : Mem), C.length ≤ i → i < 100 → Sm M0 M o → (∀ k, k ≠ o + 2 → ∀ j, ri M k j = ri M0 k j) → (∀ u, u < C.length → ri M (o + 2) u = nI ((sortC (C.take i) ++ C.drop i)[u]?.getD 0)) → RV (d + 1) μX2_settle 2 [(0, .ref o), (1, .int (nI i))] [] M K := by
    intro i M hi h100 hSm hoth harr
    refine sg_X2_settle_2 ho ?_
    rw [hoth o (by omega) 4, hF0.2.2.2.2.1, hC, if_pos (by rw [nI_leI (by omega) (by omega)]; omega)]
    refine hK M hSm (FB.frame hF0 (fun j => hoth o (by omega) j) (fun j => hoth (o + 1) (by omega) j) (by rw [sortC_len, hC]) (fun u hu => ?_))
    rw [sortC_len] at hu
    rw [harr u hu, List.take_of_length_le hi, List.drop_of_length_le hi, List.append_nil]
  intro f
  induction f with
  | zero =>
    intro i M hf h1 hSm hoth harr
    exact stop i M (by omega) (by omega) hSm hoth harr
  | succ f ih =>
    intro i M hf h1 hSm hoth harr
    rcases Nat.lt_or_ge i C.length with hlt | hge
    · refine sg_X2_settle_2 ho ?_
      rw [hoth o (by omega) 4, hF0.2.2.2.2.1, hC, if_neg (by rw [nI_leI (by omega) (by omega)]; omega)]
      refine ⟨n_in (by omega) (by decide), ?_⟩
      have tl : (sortC (C.take i)).length = i := by rw [sortC_len, List.length_take]; omega
      rw [show nx (nI i) = i from nI_clamp (by omega), harr i hlt]
      refine settle_inner ho (P := sortC (C.take i) ++ C.drop i) (n := C.length) (by rw [List.length_append, tl, List.length_drop]; omega) h12 hlt rfl (fun x hx => ?_) (fun u v huv hv => ?_) M0 i M (Nat.le_refl _) hSm hoth (fun u hu hne => ?_) (fun u a b => by omega) (fun M' g1 g2 g3 => ?_)
      · rcases List.mem_append.mp hx with h | h
        · exact hT x (List.mem_of_mem_take ((sortC_mem _).mp h))
        · exact hT x (List.mem_of_mem_drop h)
      · rw [List.getElem?_append_left (by omega), List.getElem?_append_left (by omega)]
        exact sortC_srt (C.take i) u v huv (by omega)
      · rw [harr u hu, if_neg (by omega)]
      · refine ih (i + 1) M' (by omega) (by omega) g1 g2 (fun u hu => ?_)
        rw [g3 u hu]
        congr 3
        have e1 : (sortC (C.take i) ++ C.drop i)[i]?.getD 0 = C[i]?.getD 0 := by
          rw [List.getElem?_append_right (by omega), tl, Nat.sub_self, List.getElem?_drop]; rfl
        have e2 : (sortC (C.take i) ++ C.drop i).take i = sortC (C.take i) := by
          rw [List.take_append_of_le_length (by omega), List.take_of_length_le (by omega)]
        have e3 : (sortC (C.take i) ++ C.drop i).drop (i + 1) = C.drop (i + 1) := by
          rw [List.drop_append, List.drop_of_length_le (by omega), List.nil_append, tl, List.drop_drop]
          congr 1; omega
        have e4 : C.take (i + 1) = C.take i ++ [C[i]?.getD 0] := by
          rw [List.take_add_one, List.getElem?_eq_getElem hlt]; rfl
        rw [e1, e2, e3, e4, sortC_snoc]
    · exact stop i M hge (by omega) hSm hoth harr
