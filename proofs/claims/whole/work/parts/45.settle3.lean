/-! settle: what follows from the corners -/
theorem orm_take_succ {C : List Nat} {p i : Nat} (hi : i < C.length) : orm p (C.take (i + 1)) = if (C[i]?.getD 0).testBit p then orm p (C.take i) ||| C[i]?.getD 0 else orm p (C.take i) := by
  have app : ∀ (A : List Nat) (m : Nat), orm p (A ++ [m]) = if m.testBit p then orm p A ||| m else orm p A := by
    intro A m
    induction A with
    | nil => simp only [List.nil_append, orm]; split <;> simp
    | cons a l ih =>
      simp only [List.cons_append, orm, ih]
      by_cases h1 : a.testBit p <;> by_cases h2 : m.testBit p <;> simp [h1, h2, Nat.or_assoc]
  rw [List.take_add_one, List.getElem?_eq_getElem hi]
  exact app _ _
theorem dgm_take_succ {C : List Nat} {p i : Nat} (hi : i < C.length) : dgm (C.take (i + 1)) p = dgm (C.take i) p + if (C[i]?.getD 0).testBit p then 1 else 0 := by
  unfold dgm
  rw [List.take_add_one, List.getElem?_eq_getElem hi, List.countP_append]
  simp [List.countP_cons]
theorem dgm_le (C : List Nat) (p : Nat) : dgm C p ≤ C.length := List.countP_le_length
theorem n_and_bit {m p : Nat} (hp : p < 31) : (nI m &&& nI (2 ^ p) = 0) ↔ ¬ m.testBit p = true := by
  rw [fa_bit hp, Bool.not_eq_true]
/-- for one lord: his corners are gone through -/
theorem settle_one {d o : Nat} (ho : kd o = (0, 2)) {K : Mem → Prop} {S : Sh} {M : Mem} (hF : FB M o S) (hS : SOk S) {p : Nat} (hp : p < 8)
    (hK : ∀ M', M' = wi (wi M (o + 3) p (nI (nbm (sc S) p))) (o + 4) p (nI (dgm (sc S) p)) → RV (d + 1) μX2_settle 83 [(0, .ref o), (1, .int (nI (p + 1)))] [] M' K) :
    ∀ (f i : Nat), f + i = (sc S).length → RV (d + 1) μX2_settle 101 [(0, .ref o), (1, .int (nI p)), (2, .int (nI (2 ^ p))), (3, .int (nI (orm p ((sc S).take i)))), (4, .int (nI (dgm ((sc S).take i) p))), (5, .int (nI i))] [] M K := by
  have h12 : (sc S).length ≤ 12 := hS.2.2.1
  have hnx : nx (nI p) = p := nI_clamp (by omega)
  intro f
  induction f with
  | zero =>
    intro i hi
    have hi : i = (sc S).length := by omega
    subst hi
    refine sg_X2_settle_101 ho ?_
    rw [hF.2.2.2.2.1, if_pos (by rw [nI_leI (by omega) (by omega)]; omega)]
    refine ⟨n_in (by omega) (by decide), ?_⟩
    intro M1 h1
    refine ⟨n_in (by omega) (by decide), ?_⟩
    intro M2 h2
    rw [hnx, n_clr, List.take_length] at h1
    rw [hnx, List.take_length] at h2
    rw [nI_1]
    refine hK M2 ?_
    rw [h2, h1]
    rfl
  | succ f ih =>
    intro i hi
    refine sg_X2_settle_101 ho ?_
    have hlt : i < (sc S).length := by omega
    rw [hF.2.2.2.2.1, if_neg (by rw [nI_leI (by omega) (by omega)]; omega)]
    have hin : vp_in (nI i) 12 := n_in (by omega) (by decide)
    refine ⟨hin, ?_⟩
    have hrd : ri M (o + 2) (nx (nI i)) = nI ((sc S)[i]?.getD 0) := by
      rw [show nx (nI i) = i from nI_clamp (by omega)]; exact hF.2.2.2.2.2.2 i hlt
    rw [hrd]
    have hrec := ih (i + 1) (by omega)
    rw [orm_take_succ hlt, dgm_take_succ hlt] at hrec
    by_cases ht : ((sc S)[i]?.getD 0).testBit p = true
    · rw [if_neg (fun q => (n_and_bit (by omega)).mp q ht)]
      refine ⟨hin, ?_⟩
      rw [if_pos ht, if_pos ht] at hrec
      rw [n_or, nI_1, nI_1]
      exact hrec
    · rw [if_pos ((n_and_bit (by omega)).mpr ht)]
      rw [if_neg ht, if_neg ht] at hrec
      rw [nI_1]
      exact hrec
/-- for all lords -/
theorem settle_all {d o : Nat} (ho : kd o = (0, 2)) {K : Mem → Prop} {S : Sh} (hS : SOk S) (M0 : Mem) (hK : ∀ M', Sm M0 M' o → Fr M' o S → K M') :
    ∀ (f p : Nat) (M : Mem), f + p = 8 → Sm M0 M o → FB M o S → (∀ q, q < p → ri M (o + 3) q = nI (nbm (sc S) q) ∧ ri M (o + 4) q = nI (dgm (sc S) q)) → RV (d + 1) μX2_settle 83 [(0, .ref o), (1, .int (nI p))] [] M K := by
  intro f
  induction f with
  | zero =>
    intro p M hp hSm hF hq
    have : p = 8 := by omega
    subst this
    refine sg_X2_settle_83 ho ?_
    rw [if_pos (by rw [l_8, nI_leI (by omega) (by omega)]; omega)]
    exact hK M hSm ⟨hF, ⟨fun q h => (hq q h).1, fun q h => (hq q h).2⟩, hS⟩
  | succ f ih =>
    intro p M hp hSm hF hq
    refine sg_X2_settle_83 ho ?_
    rw [if_neg (by rw [l_8, nI_leI (by omega) (by omega)]; omega), n_shl (by omega)]
    refine settle_one ho hF hS (p := p) (by omega) ?_ _ 0 rfl
    intro M' hM'
    have r : ∀ k j, ri M' k j = if k = o + 4 ∧ j = p then nI (dgm (sc S) p) else if k = o + 3 ∧ j = p then nI (nbm (sc S) p) else ri M k j := by
      intro k j; rw [hM', ri_wi, ri_wi]
    have e0 : ∀ k, k ≠ o + 3 → k ≠ o + 4 → ∀ j, ri M' k j = ri M k j := fun k h3 h4 j => by
      rw [r, if_neg (fun q => h4 q.1), if_neg (fun q => h3 q.1)]
    refine ih (p + 1) M' (by omega) (hSm.trans ⟨fun k hk j => e0 k (by omega) (by omega) j, fun k j => by rw [hM']; rfl⟩) (FB.frame (S := S) (C := sc S) hF (fun j => e0 o (by omega) (by omega) j) (fun j => e0 (o + 1) (by omega) (by omega) j) rfl (fun i hi => by rw [e0 (o + 2) (by omega) (by omega)]; exact hF.2.2.2.2.2.2 i hi)) (fun q hqp => ?_)
    constructor
    · rw [r, if_neg (fun z => by omega)]
      by_cases hz : q = p
      · subst hz; rw [if_pos ⟨rfl, rfl⟩]
      · rw [if_neg (fun z => hz z.2)]; exact (hq q (by omega)).1
    · rw [r]
      by_cases hz : q = p
      · subst hz; rw [if_pos ⟨rfl, rfl⟩]
      · rw [if_neg (fun z => hz z.2), if_neg (fun z => by omega)]; exact (hq q (by omega)).2
theorem SOk.set {S : Sh} {C : List Nat} (h : SOk S) (hl : C.length ≤ 12) (hT : ∀ m ∈ C, T3 m) : SOk (setC S C) := ⟨h.1, h.2.1, hl, hT, h.2.2.2.2⟩
/-- settle: the corners in order, and what follows from them -/
theorem c_settle {d o : Nat} (ho : kd o = (0, 2)) {K : Mem → Prop} {S : Sh} {M : Mem} (hF : FB M o S) (hS : SOk S) (hK : ∀ M', Sm M M' o → Fr M' o (setC S (sortC (sc S))) → K M') : CV (d + 1) μX2_settle [.ref o] M K := by
  refine sg_X2_settle_0 ho ?_
  have hS' : SOk (setC S (sortC (sc S))) := hS.set (by rw [sortC_len]; exact hS.2.2.1) (fun m hm => hS.2.2.2.1 m ((sortC_mem _).mp hm))
  refine settle_outer ho rfl hS M hF (fun M' hSm hF' => ?_) ((sc S).length) 1 M rfl (Nat.le_refl _) Sm.rf (fun _ _ _ => rfl) (fun u hu => ?_)
  · exact settle_all ho hS' M hK 8 0 M' rfl hSm hF' (fun q h => absurd h (Nat.not_lt_zero _))
  · rw [hF.2.2.2.2.2.2 u hu]
    congr 3
    cases hC : sc S with
    | nil => rfl
    | cons a l => rfl
