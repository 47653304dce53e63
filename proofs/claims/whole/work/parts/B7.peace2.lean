/-! peace: the model -/
def rwT (p : Nat) (T : Nat → Option Nat) (q : Nat) : Int32 := match T q with
  | some u => nI u
  | none => if p ≤ q then -2 else -1
def RowM (M : Mem) (n p : Nat) (T : Nat → Option Nat) : Prop := ∀ q, q < n → ri M 74 q = rwT p T q
def LiM (M : Mem) (n : Nat) (b : Bst) : Prop := ∀ q, q < n → ri M 73 q = b.2 q
def EM (M M' : Mem) : Prop := (∀ k j, k ≠ 73 → k ≠ 74 → ri M' k j = ri M k j) ∧ ∀ k j, rl M' k j = rl M k j
theorem EM.rf {M : Mem} : EM M M := ⟨fun _ _ _ _ => rfl, fun _ _ => rfl⟩
theorem EM.trans {M M' M'' : Mem} (h : EM M M') (h2 : EM M' M'') : EM M M'' := ⟨fun k j a b => (h2.1 k j a b).trans (h.1 k j a b), fun k j => (h2.2 k j).trans (h.2 k j)⟩
theorem EM.l {M M' : Mem} (h : EM M M') : QL 1 M M' := ⟨fun k j a _ _ c _ => h.1 k j (fun q => c ⟨rfl, q⟩) (scr_ne a rfl), h.2⟩
theorem em_w73 {M : Mem} {j : Nat} {x : Int32} : EM M (wi M 73 j x) := ⟨fun k j a _ => by rw [ri_wi, if_neg (fun q => a q.1)], fun _ _ => rfl⟩
theorem em_w74 {M : Mem} {j : Nat} {x : Int32} : EM M (wi M 74 j x) := ⟨fun k j _ a => by rw [ri_wi, if_neg (fun q => a q.1)], fun _ _ => rfl⟩
def tkn (T : Nat → Option Nat) (q : Nat) : Bool := match T q with
  | some u => decide (u < q)
  | none => false
def ahV (T : Nat → Option Nat) : Nat → Int32
  | 0 => -1
  | p + 1 => if tkn T p = true then ahV T p else nI p
theorem rwT_lt {p : Nat} {T : Nat → Option Nat} {q : Nat} (h : q < p) : rwT p T q = oI (T q) := by
  unfold rwT
  cases T q with
  | some u => rfl
  | none => show (if p ≤ q then (-2 : Int32) else -1) = -1; rw [if_neg (by omega)]
theorem m_isTaken {d p : Nat} {M : Mem} {K : Int32 → Mem → Prop} {T : Nat → Option Nat} (hp : p < 8) (hu : ∀ u, T p = some u → u < 8) (hv : ri M 74 p = oI (T p) ∨ (T p = none ∧ ri M 74 p < 0)) (hK : K (bI (tkn T p)) M) : CI d μX9_isTaken [.ref 58, .int (nI p)] M K := by
  refine sg_X9_isTaken_0 ?_
  rw [show nx (nI p) = p from nI_clamp (by omega)]
  refine ⟨n_in hp (by decide), ?_⟩
  unfold tkn at hK
  cases hT : T p with
  | none =>
    have : ri M 74 p < 0 := by
      rcases hv with h | h
      · rw [h, hT]; decide
      · exact h.2
    rw [if_pos this]
    rw [hT] at hK; exact hK
  | some u =>
    have hv : ri M 74 p = nI u := by
      rcases hv with h | h
      · rw [h, hT]; rfl
      · rw [hT] at h; cases h.1
    have hu := hu u hT
    rw [hT] at hK
    rw [hv, if_neg (i_nlt.mpr (nI_nn (by omega)))]
    refine ⟨n_in hp (by decide), ?_⟩
    by_cases hc : u < p
    · rw [if_neg (by rw [nI_leI (by omega) (by omega)]; omega)]
      have hK : K (bI (decide (u < p))) M := hK
      rw [decide_eq_true hc] at hK; exact hK
    · rw [if_pos (by rw [nI_leI (by omega) (by omega)]; omega)]
      have hK : K (bI (decide (u < p))) M := hK
      rw [decide_eq_false hc] at hK; exact hK
theorem m_ahead {d p : Nat} {M : Mem} {K : Int32 → Mem → Prop} {T : Nat → Option Nat} (hp : p ≤ 8) (hu : ∀ q u, T q = some u → u < 8) (hv : ∀ q, q < p → ri M 74 q = oI (T q)) (hK : K (ahV T p) M) : CI (d + 1) μX9_ahead [.ref 58, .int (nI p)] M K := by
  refine sg_X9_ahead_0 ?_
  have loop : ∀ (q : Nat), q ≤ p → K (ahV T q) M → RI (d + 1) μX9_ahead 4 [(0, .ref 58), (1, .int (nI p)), (2, .int (nI q - 1))] [] M K := by
    intro q
    induction q with
    | zero =>
      intro _ hk
      refine sg_X9_ahead_4 ?_
      rw [if_pos (by decide)]
      exact hk
    | succ q ih =>
      intro hq hk
      rw [nI_pred]
      refine sg_X9_ahead_4 ?_
      rw [if_neg (i_nlt.mpr (nI_nn (by omega))), nI_m1]
      refine m_isTaken (T := T) (by omega) (hu q) (Or.inl (hv q (by omega))) ?_
      have hk : K (if tkn T q = true then ahV T q else nI q) M := hk
      cases hc : tkn T q with
      | false => rw [if_pos (by decide)]; rw [hc, if_neg (by decide)] at hk; exact hk
      | true => rw [if_neg (by decide)]; rw [hc, if_pos rfl] at hk; exact ih (by omega) hk
  exact loop p (Nat.le_refl _) hK
def cgT (T : Nat → Option Nat) : Nat → Nat
  | 0 => 0
  | q + 1 => cgT T q + match T q with
    | some u => if q < u then 1 else 0
    | none => 0
theorem cgT_le (T : Nat → Option Nat) : ∀ p, cgT T p ≤ p
  | 0 => Nat.le_refl _
  | p + 1 => by
    have := cgT_le T p
    unfold cgT
    split
    · split <;> omega
    · omega
theorem cgT_same {T T' : Nat → Option Nat} : ∀ p, (∀ q, q < p → T q = T' q) → cgT T p = cgT T' p
  | 0, _ => rfl
  | p + 1, h => by
    unfold cgT
    rw [cgT_same p (fun q hq => h q (by omega)), h p (by omega)]
def IvT (n : Nat) (T : Nat → Option Nat) (p w : Nat) : Prop := (∀ q u, T q = some u → u < n) ∧ (∀ q u, p ≤ q → T q = some u → u < p) ∧ w = cgT T p
/-- the next who may be taken by p -/
def nxT (n : Nat) (nb : Nat → Bool) (T : Nat → Option Nat) : Nat → Option Nat
  | 0 => none
  | k + 1 => if nb (n - (k + 1)) = true ∧ T (n - (k + 1)) = none then some (n - (k + 1)) else nxT n nb T k
theorem nxT_none {n : Nat} {nb : Nat → Bool} {T : Nat → Option Nat} {g : Nat → Bst → Bst} : ∀ (k : Nat) (b : Bst), nxT n nb T k = none → pfL n nb T g k b = b
  | 0, _, _ => rfl
  | k + 1, b, h => by
    unfold nxT at h
    show pfL n nb T g k (if nb (n - (k + 1)) = true ∧ T (n - (k + 1)) = none then g (n - (k + 1)) b else b) = b
    split at h
    · cases h
    · rename_i hc
      rw [if_neg hc]; exact nxT_none k b h
theorem nxT_some {n : Nat} {nb : Nat → Bool} {T : Nat → Option Nat} {g : Nat → Bst → Bst} {q : Nat} : ∀ (k : Nat) (b : Bst), k ≤ n → nxT n nb T k = some q → n - k ≤ q ∧ q < n ∧ nb q = true ∧ T q = none ∧ pfL n nb T g k b = pfL n nb T g (n - (q + 1)) (g q b)
  | 0, _, _, h => by cases h
  | k + 1, b, hk, h => by
    unfold nxT at h
    have e : pfL n nb T g (k + 1) b = pfL n nb T g k (if nb (n - (k + 1)) = true ∧ T (n - (k + 1)) = none then g (n - (k + 1)) b else b) := rfl
    split at h
    · rename_i hc
      cases h
      rw [e, if_pos hc, show n - (n - (k + 1) + 1) = k by omega]
      exact ⟨by omega, by omega, hc.1, hc.2, rfl⟩
    · rename_i hc
      obtain ⟨a1, a2, a3, a4, a5⟩ := nxT_some (g := g) k b (by omega) h
      rw [e, if_neg hc]
      exact ⟨by omega, a2, a3, a4, a5⟩
theorem m_next {d p : Nat} {M : Mem} {K : Int32 → Mem → Prop} {S : Sh} {T : Nat → Option Nat} {x2 : Int32} (hS : SOk S) (h35 : ri M 58 35 = nI (sn S)) (hN : Nx M S) (hp : p < sn S) (hu : ∀ q u, T q = some u → u < 8) (hv : ∀ q, p < q → q < sn S → ri M 74 q = rwT p T q) (k q : Nat) (hkq : k + q = sn S) (hpq : p < q) (hK : K (oI (nxT (sn S) (fun q => (nbm (sc S) p).testBit q) T k)) M) : RI d μX9_nextChoice 24 [(0, .ref 58), (1, .int (nI p)), (2, .int x2), (3, .int (nI q))] [] M K := by
  have h8 := hS.1
  induction k generalizing q with
  | zero =>
    refine sg_X9_nextChoice_24 ?_
    rw [h35, if_pos (by rw [nI_leI (by omega) (by omega)]; omega), if_pos (by rw [nI_leI (by omega) (by omega)]; omega)]
    exact hK
  | succ k ih =>
    have e : nxT (sn S) (fun q => (nbm (sc S) p).testBit q) T (k + 1) = if (nbm (sc S) p).testBit q = true ∧ T q = none then some q else nxT (sn S) (fun q => (nbm (sc S) p).testBit q) T k := by
      show (if (nbm (sc S) p).testBit (sn S - (k + 1)) = true ∧ T (sn S - (k + 1)) = none then some (sn S - (k + 1)) else nxT (sn S) (fun q => (nbm (sc S) p).testBit q) T k) = _
      rw [show sn S - (k + 1) = q by omega]
    rw [e] at hK
    refine sg_X9_nextChoice_24 ?_
    rw [h35, if_neg (by rw [nI_leI (by omega) (by omega)]; omega), show nx (nI p) = p from nI_clamp (by omega), show nx (nI q) = q from nI_clamp (by omega), hN p hp]
    rw [show nI q + 1 = nI (q + 1) by rw [nI_1]]
    refine ⟨n_in (by omega) (by decide), ?_⟩
    have hlt := nbm_lt8 hS p
    cases hb : (nbm (sc S) p).testBit q with
    | false =>
      rw [if_pos ((n_bitz hlt (by omega)).mpr hb)]
      rw [if_neg (fun z => by rw [hb] at z; cases z.1)] at hK
      exact ih (q + 1) (by omega) (by omega) hK
    | true =>
      rw [if_neg (fun z => by have := (n_bitz hlt (by omega)).mp z; rw [hb] at this; cases this), hv q hpq (by omega)]
      refine ⟨n_in (by omega) (by decide), ?_⟩
      unfold rwT
      cases hT : T q with
      | some u =>
        rw [if_neg (i_nlt.mpr (nI_nn (by have := hu q u hT; omega)))]
        rw [if_neg (fun z => by rw [hT] at z; cases z.2)] at hK
        exact ih (q + 1) (by omega) (by omega) hK
      | none =>
        rw [if_pos (by show (if p ≤ q then (-2 : Int32) else -1) < 0; split <;> decide), if_neg (by rw [nI_leI (by omega) (by omega)]; omega)]
        rw [if_pos ⟨hb, hT⟩] at hK
        exact hK
