/-! go: n seasons of the model -/
def goS (F : List Int32) (straw : Nat) (b : Bool) : Nat → Sh → Sh
  | 0, S => S
  | n + 1, S => goS F straw b n (if b then seaS S F straw else sea0 S F)
theorem sn_sea0 (S : Sh) (F : List Int32) : sn (sea0 S F) = sn S := by
  unfold sea0
  show sn (wlsS _ _ _) = _
  rw [sn_wlsS]
  rfl
theorem r_go {d : Nat} {M : Mem} {K : Mem → Prop} {G : Sh → Prop} (hG : Clo G) (hG2 : G2 G) {S : Sh} {F : List Int32} {straw n : Nat} (hst : straw ≤ 100) (hn : n < 1000) (b : Bool) (hGS : G S) (hW : WfF F) (hA : Ar M 69 S) (hF : Rf M F) (h35 : ri M 58 35 = nI (sn S)) (h36 : ri M 58 36 = nI straw) (hK : ∀ M', Sq M M' → Ar M' 69 (goS F straw b n S) → G (goS F straw b n S) → K M') : CV (d + 6) μX9_go [.ref 58, .int (nI n), .int (bI b)] M K := by
  refine sg_X9_go_0 ?_
  have loop : ∀ (f i : Nat) (S1 : Sh) (M1 : Mem), f + i = n → Sq M M1 → Ar M1 69 S1 → G S1 → sn S1 = sn S → goS F straw b f S1 = goS F straw b n S → RV (d + 6) μX9_go 2 [(0, .ref 58), (1, .int (nI n)), (2, .int (bI b)), (3, .int (nI i))] [] M1 K := by
    intro f
    induction f with
    | zero =>
      intro i S1 M1 hi s1 A1 G1 _ e
      refine sg_X9_go_2 ?_
      rw [if_pos (by rw [nI_leI (by omega) (by omega)]; omega)]
      have e : S1 = goS F straw b n S := e
      subst e
      exact hK M1 s1 A1 G1
    | succ f ih =>
      intro i S1 M1 hi s1 A1 G1 hsn e
      refine sg_X9_go_2 ?_
      rw [if_neg (by rw [nI_leI (by omega) (by omega)]; omega), nI_1]
      have k : ∀ j, ri M1 58 j = ri M 58 j := fun j => s1.1 58 (by decide) (by decide) (by decide) (by decide) j
      refine r_goSeason hG hG2 hst b G1 hW A1 (hF.keepQ s1) (by rw [k, hsn]; exact h35) (by rw [k]; exact h36) (fun M2 s2 A2 G2' => ?_)
      refine ih (i + 1) _ M2 (by omega) (s1.trans s2) A2 G2' ?_ e
      cases b with
      | true => show sn (seaS S1 F straw) = _; rw [sn_seaS]; exact hsn
      | false => show sn (sea0 S1 F) = _; rw [sn_sea0]; exact hsn
  exact loop n 0 S M (by omega) Sq.rf hA hGS rfl rfl
