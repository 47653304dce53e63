theorem szF_near {S : Sh} (hS : SOk S) {p : Nat} (hp : p < sn S) : ∀ k, k ≤ sn S → szF S (nbm (sc S) p) k = nearF S p k := by
  intro k
  induction k with
  | zero => intro _; rfl
  | succ k ih =>
    intro hk
    unfold szF nearF
    rw [ih (by omega), mtI_nat hS hp (by omega)]
theorem nbm_there {S : Sh} (h4 : N4 S) {p j : Nat} (h : (nbm (sc S) p).testBit j = true) : j < sn S := by
  unfold nbm at h
  rw [clr_tb, Bool.and_eq_true] at h
  obtain ⟨m, hm, -, ht⟩ := (orm_tb (sc S)).mp h.1
  exact h4.2 j (h4.1 m hm j ht)
theorem szF_high {S : Sh} (h4 : N4 S) {p : Nat} : ∀ k, szF S (nbm (sc S) p) (sn S + k) = szF S (nbm (sc S) p) (sn S) := by
  intro k
  induction k with
  | zero => rfl
  | succ k ih =>
    show szF S (nbm (sc S) p) (sn S + k) + (if (nbm (sc S) p).testBit (sn S + k) then sz S (sn S + k) else 0) = _
    rw [ih, if_neg (fun z => by have := nbm_there h4 z; omega), Nat.add_zero]
theorem near_eq {S : Sh} (hS : SOk S) (h4 : N4 S) {p : Nat} (hp : p < sn S) : szF S (nbm (sc S) p) 8 = nearF S p (sn S) := by
  have h8 := hS.1
  have := szF_high h4 (p := p) (8 - sn S)
  rw [show sn S + (8 - sn S) = 8 by omega] at this
  rw [this]
  exact szF_near hS hp (sn S) (Nat.le_refl _)
theorem cl99_small : ∀ k, k < 13 → cl99 (nI k - 4) = nI k - 4 := by decide +kernel
theorem r_growth {d : Nat} {M : Mem} {K : Int32 → Mem → Prop} {S : Sh} {F : List Int32} {p : Nat} (hp : p < sn S) (hS : SOk S) (h4 : N4 S) (hW : WfF F) (hA : Ar M 69 S) (hF : Rf M F) (hK : ∀ M', Sv M M' → K (grS S F p) M') : CI (d + 2) μX9_growth [.ref 58, .int (nI p)] M K := by
  have h8 := hS.1
  have h12 := hS.2.2.1
  have na : nbm (sc S) p < 256 := nbm_lt (n := 8) (fun m hm => (hS.2.2.2.1 m hm).1)
  refine sg_X9_growth_0 ?_
  refine r_sidesOf (d := d) (by omega) hS hA ?_
  intro M3 h3
  rw [x_0] at h3
  have s3 : Sv M M3 := by rw [h3]; exact Sv.w7
  have A3 := hA.keepV (by decide) (by decide) s3
  rw [n_14]
  refine ⟨n_in (by omega) (by decide), ?_⟩
  intro M4 h4'
  rw [show nx (nI (14 + p)) = 14 + p from nI_clamp (by omega), A3.2.2.2.1 p (by omega), show nx 1 = 1 from rfl] at h4'
  have s4 : Sv M M4 := s3.trans (by rw [h4']; exact Sv.w7)
  have A4 := hA.keepV (by decide) (by decide) s4
  refine r_bordersOf (d := d) (by omega) hS A4 ?_
  refine r_sizesOf na A4 ?_
  intro M9 h9
  rw [show nx 2 = 2 from rfl] at h9
  have s9 : Sv M M9 := s4.trans (by rw [h9]; exact Sv.w7)
  have A9 := hA.keepV (by decide) (by decide) s9
  rw [x_13, A9.2.2.1]
  refine r_members hS.2.1 ?_
  intro M12 h12' M13 h13
  rw [show nx 3 = 3 from rfl] at h12'
  have s12 : Sv M M12 := s9.trans (by rw [h12']; exact Sv.w7)
  have A12 := hA.keepV (by decide) (by decide) s12
  rw [x_22, A12.2.2.2.2.1, show nx 4 = 4 from rfl] at h13
  have s13 : Sv M M13 := s12.trans (by rw [h13]; exact Sv.w7)
  have F13 := hF.keep s13
  have hasks : ∀ j, j < 5 → ri M13 67 j = gq (nI (dgm (sc S) p)) (nI (sz S p)) (nI (nearF S p (sn S))) (nI (pc8 (sb S))) (sy S) (j + 1) := by
    intro j hj
    have : j = 0 ∨ j = 1 ∨ j = 2 ∨ j = 3 ∨ j = 4 := by omega
    rw [near_eq hS h4 hp] at h9
    rw [h13, h12', h9, h4', h3]
    simp only [ri_wi]
    rcases this with rfl | rfl | rfl | rfl | rfl <;> simp [gq]
  rw [F13.1]
  by_cases he : F = []
  · rw [if_pos he, if_pos rfl, x_0, hasks 0 (by decide)]
    show CI (d + 1) μX9_within [.int (nI (dgm (sc S) p) - 4), _, _] M13 _
    refine r_within99 ?_
    have hd12 := Nat.le_trans (dgm_le (sc S) p) h12
    rw [cl99_small _ (by omega)]
    have := hK M13 s13
    unfold grS grF at this
    rw [if_pos he] at this
    exact this
  · rw [if_neg he, if_neg (by decide)]
    refine r_grow_loop (q := gq (nI (dgm (sc S) p)) (nI (sz S p)) (nI (nearF S p (sn S))) (nI (pc8 (sb S))) (sy S)) hW he M13 F13 (fun M' s' => ?_) F.length 0 [] M13 rfl rfl (by simp) Sv.rf hasks (fun i hi => absurd hi (Nat.not_lt_zero _))
    have := hK M' (s13.trans s')
    unfold grS grF at this
    rw [if_neg he] at this
    exact this
