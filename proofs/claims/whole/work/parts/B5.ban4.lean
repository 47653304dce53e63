/-! banners: the model -/
/-- pairs p < q with p from P on lie right -/
def vdM (S : Sh) (m x P : Nat) : Prop := ∀ p, P ≤ p → p < sn S → (sb S).testBit p = true → ∀ q, p < q → q < sn S → (nbm (sc S) p).testBit q = true → col S m x p ≠ col S m x q
theorem vdM_vd {S : Sh} (h : GS S) {m x : Nat} : vdM S m x 0 ↔ vd S m x (sn S) := by
  constructor
  · intro hv p hp ht q hq hb
    have tq := nbm_th h.2.2.2.1 hb
    have := hv q (Nat.zero_le _) tq.2 tq.1 p hq hp (by rw [nbm_sym (by omega)]; exact hb)
    exact fun e => this e.symm
  · intro hv p _ hp ht q hq hqn hb
    have tq := nbm_th h.2.2.2.1 hb
    have := hv q hqn tq.1 p hq (by rw [nbm_sym (by omega)]; exact hb)
    exact fun e => this e.symm
theorem q_w74 {M : Mem} {j : Nat} {x : Int32} : Q M (wi M 74 j x) := Q.wi rfl
theorem m_layColours {d m x : Nat} {M : Mem} {K : Int32 → Mem → Prop} {F : List Int32} {st : Nat} {S S1 : Sh} (hR : CR M F st S S1) (hG : GS S) (hA : Ar M 69 S) (hN : Nx M S) (hm : 1 ≤ m) (hm2 : m ≤ 8) (hx : x < 2 ^ 30) (hK : ∀ (ok : Bool) M', (ok = true ↔ vd S m x (sn S)) → Q M M' → Ar M' 69 S → Nx M' S → (∀ q, q < sn S → ri M' 74 q = col S m x q) → (∀ k j, k ≠ 74 → ri M' k j = ri M k j) → K (bI ok) M') : CI (d + 1) μX9_layColours [.ref 58, .int (nI m), .int (nI x)] M K := by
  have hS := hG.1
  have h8 := hS.1
  refine sg_X9_layColours_0 ?_
  rw [hR.2.2.2.1]
  have xdiv : ∀ k, x / m ^ k < 2 ^ 30 := fun k => Nat.lt_of_le_of_lt (Nat.div_le_self _ _) hx
  have outer : ∀ (p : Nat) (ok : Bool) (M1 : Mem), p ≤ sn S → (∀ k j, k ≠ 74 → ri M1 k j = ri M k j) → (∀ k j, rl M1 k j = rl M k j) → (∀ q, p ≤ q → q < sn S → ri M1 74 q = col S m x q) → (ok = true ↔ vdM S m x p) → RI (d + 1) μX9_layColours 13 [(0, .ref 58), (1, .int (nI m)), (2, .int (nI x)), (3, .int (nI (x / m ^ tcR S (sn S - p)))), (4, .int (bI ok)), (5, .int (nI p - 1))] [] M1 K := by
    intro p
    induction p with
    | zero =>
      intro ok M1 _ e el hc hok
      refine sg_X9_layColours_13 ?_
      rw [if_pos (by decide)]
      refine ⟨bI_01 ok, hK ok M1 (hok.trans (vdM_vd hG)) ⟨fun k j a _ => e k j (scr_ne a rfl), el⟩ (hA.keepE (fun j => e 69 j (by omega))) (fun q hq => by rw [e 75 q (by omega)]; exact hN q hq) (fun q hq => hc q (Nat.zero_le _) hq) e⟩
    | succ p ih =>
      intro ok M1 hp e el hc hok
      have a1 : Ar M1 69 S := hA.keepE (fun j => e 69 j (by omega))
      refine sg_X9_layColours_13 ?_
      rw [nI_pred, if_neg (i_nlt.mpr (nI_nn (by omega)))]
      refine r_isThere (by omega) hS.2.1 a1 ?_
      rw [show nx (nI p) = p from nI_clamp (by omega), nI_m1]
      have ex : tcR S (sn S - p) = tcR S (sn S - (p + 1)) + ((sb S).testBit p).toNat := by
        rw [show sn S - p = (sn S - (p + 1)) + 1 by omega]
        show tcR S (sn S - (p + 1)) + ((sb S).testBit (sn S - ((sn S - (p + 1)) + 1))).toNat = _
        rw [show sn S - ((sn S - (p + 1)) + 1) = p by omega]
      cases hb : (sb S).testBit p with
      | false =>
        rw [if_pos (by decide)]
        refine ⟨n_in (by omega) (by decide), fun M3 g3 => ?_⟩
        have r3 : ∀ k j, ri M3 k j = if k = 74 ∧ j = p then -1 else ri M1 k j := by intro k j; rw [g3, ri_wi]
        rw [hb] at ex
        have ex : tcR S (sn S - p) = tcR S (sn S - (p + 1)) := ex
        rw [← ex]
        refine ih ok M3 (by omega) (fun k j hk => by rw [r3, if_neg (fun q => hk q.1)]; exact e k j hk) (fun k j => by rw [g3]; exact el k j) (fun q hq hqn => ?_) (hok.trans ⟨fun hv p' hp' hpn ht => ?_, fun hv p' hp' => hv p' (by omega)⟩)
        · rw [r3]
          by_cases hqp : q = p
          · rw [if_pos ⟨rfl, hqp⟩, hqp]; unfold col; rw [hb, if_neg (by decide)]
          · rw [if_neg (fun z => hqp z.2)]; exact hc q (by omega) hqn
        · by_cases hpp : p' = p
          · rw [hpp, hb] at ht; cases ht
          · exact hv p' (by omega) hpn ht
      | true =>
        rw [if_neg (by decide)]
        have hmz : ¬ nI m = 0 := by rw [show (0 : Int32) = nI 0 from rfl, nI_eq (by omega) (by omega)]; omega
        have hxd := xdiv (tcR S (sn S - (p + 1)))
        rw [pk_rem (by omega) (by omega) (by omega), pk_div (by omega) (by omega) (by omega), nI_1]
        refine ⟨hmz, n_in (by omega) (by decide), fun M4 g4 => ⟨hmz, ?_⟩⟩
        have r4 : ∀ k j, ri M4 k j = if k = 74 ∧ j = p then nI ((x / m ^ tcR S (sn S - (p + 1))) % m) else ri M1 k j := by intro k j; rw [g4, ri_wi]
        have ecol : col S m x p = nI ((x / m ^ tcR S (sn S - (p + 1))) % m) := by unfold col; rw [if_pos hb]
        rw [hb] at ex
        have ex : tcR S (sn S - p) = tcR S (sn S - (p + 1)) + 1 := ex
        have e4 : ∀ k j, k ≠ 74 → ri M4 k j = ri M k j := fun k j hk => by rw [r4, if_neg (fun q => hk q.1)]; exact e k j hk
        have hc4 : ∀ q, p ≤ q → q < sn S → ri M4 74 q = col S m x q := by
          intro q hq hqn
          rw [r4]
          by_cases hqp : q = p
          · rw [if_pos ⟨rfl, hqp⟩, hqp, ecol]
          · rw [if_neg (fun z => hqp z.2)]; exact hc q (by omega) hqn
        have ediv : x / m ^ tcR S (sn S - (p + 1)) / m = x / m ^ tcR S (sn S - p) := by rw [ex, Nat.pow_succ, Nat.div_div_eq_div_mul]
        rw [ediv]
        have inner : ∀ (r q : Nat) (ok2 : Bool), r + q = sn S → p < q → (ok2 = true ↔ (vdM S m x (p + 1) ∧ ∀ u, p < u → u < q → (nbm (sc S) p).testBit u = true → col S m x p ≠ col S m x u)) → RI (d + 1) μX9_layColours 58 [(0, .ref 58), (1, .int (nI m)), (2, .int (nI x)), (3, .int (nI (x / m ^ tcR S (sn S - p)))), (4, .int (bI ok2)), (5, .int (nI p)), (6, .int (nI q))] [] M4 K := by
          intro r
          induction r with
          | zero =>
            intro q ok2 hq hpq hok2
            have hq : q = sn S := by omega
            subst hq
            refine sg_X9_layColours_58 ?_
            rw [e4 58 35 (by omega), hR.2.2.2.1, if_pos (by rw [nI_leI (by omega) (by omega)]; omega), nI_m1]
            refine ih ok2 M4 (by omega) e4 (fun k j => by rw [g4]; exact el k j) hc4 (hok2.trans ⟨fun hv p' hp' hpn ht u hu hun hbu => ?_, fun hv => ⟨fun p' hp' => hv p' (by omega), fun u hu hun hbu => hv p (Nat.le_refl _) (by omega) hb u hu hun hbu⟩⟩)
            by_cases hpp : p' = p
            · subst hpp; exact hv.2 u hu hun hbu
            · exact hv.1 p' (by omega) hpn ht u hu hun hbu
          | succ r ihr =>
            intro q ok2 hq hpq hok2
            refine sg_X9_layColours_58 ?_
            rw [e4 58 35 (by omega), hR.2.2.2.1, if_neg (by rw [nI_leI (by omega) (by omega)]; omega)]
            rw [show nI q + 1 = nI (q + 1) by rw [nI_1]]
            cases ok2 with
            | false =>
              rw [if_pos (by decide)]
              refine ihr (q + 1) false (by omega) (by omega) ⟨fun z => (by cases z), fun z => hok2.mpr ⟨z.1, fun u h1 h2 => z.2 u h1 (by omega)⟩⟩
            | true =>
              rw [if_neg (by decide), show nx (nI p) = p from nI_clamp (by omega), show nx (nI q) = q from nI_clamp (by omega), e4 75 p (by omega), hN p (by omega)]
              refine ⟨n_in (by omega) (by decide), ?_⟩
              have hlt := nbm_lt8 hS p
              cases hbq : (nbm (sc S) p).testBit q with
              | false =>
                rw [if_neg (fun z => by have := (n_bit0 hlt (by omega)).mp z; rw [hbq] at this; cases this)]
                refine ihr (q + 1) true (by omega) (by omega) ⟨fun _ => ⟨(hok2.mp rfl).1, fun u h1 h2 hbu => ?_⟩, fun _ => rfl⟩
                by_cases huq : u = q
                · rw [huq, hbq] at hbu; cases hbu
                · exact (hok2.mp rfl).2 u h1 (by omega) hbu
              | true =>
                rw [if_pos ((n_bit0 hlt (by omega)).mpr hbq), hc4 p (Nat.le_refl _) (by omega), hc4 q (by omega) (by omega)]
                refine ⟨n_in (by omega) (by decide), n_in (by omega) (by decide), ?_⟩
                by_cases he : col S m x p = col S m x q
                · rw [if_pos he]
                  exact ihr (q + 1) false (by omega) (by omega) ⟨fun z => (by cases z), fun z => absurd he (z.2 q hpq (by omega) hbq)⟩
                · rw [if_neg he]
                  refine ihr (q + 1) true (by omega) (by omega) ⟨fun _ => ⟨(hok2.mp rfl).1, fun u h1 h2 hbu => ?_⟩, fun _ => rfl⟩
                  by_cases huq : u = q
                  · rw [huq]; exact he
                  · exact (hok2.mp rfl).2 u h1 (by omega) hbu
        exact inner (sn S - (p + 1)) (p + 1) ok (by omega) (by omega) (hok.trans ⟨fun hv => ⟨hv, fun u h1 h2 => by omega⟩, fun hv => hv.1⟩)
  have := outer (sn S) true M (Nat.le_refl _) (fun _ _ _ => rfl) (fun _ _ => rfl) (fun q h1 h2 => by omega) ⟨fun _ p h1 h2 => by omega, fun _ => rfl⟩
  rw [Nat.sub_self, show tcR S 0 = 0 from rfl, Nat.pow_zero, Nat.div_one] at this
  exact this
theorem m_banners {d m x : Nat} {M : Mem} {K : Int32 → Mem → Prop} {F : List Int32} {st : Nat} {S S1 : Sh} (hR : CR M F st S S1) (hP : CP F st S S1) (h1 : 1 ≤ pc8 (sb S) → 1 ≤ m ∧ m ≤ pc8 (sb S)) (h00 : pc8 (sb S) = 0 → m = 0 ∧ sn S = 0) (hx : fd S m (sn S) 0 = some x) (hl : ∀ c, c < m → fd S c (sn S) 0 = none) (hK : ∀ M', QL 1 M M' → LyM M' (colL S m x) → K (nI m) M') : CI (d + 3) μX9_banners [.ref 58] M K := by
  have hG := hP.1
  have hS := hG.1
  have h8 := hS.1
  have hpc := pc8_le (sb S)
  have ht := tcR_pc hS hG.2.2.2.1
  refine sg_X9_banners_0 ?_
  refine r_fillS hR hS (fun M1 q1 a1 c1 => ?_)
  refine r_layNexts hS c1 a1 (fun M2 q2 a2 c2 n2 => ?_)
  intro M3 g3
  rw [c2.2.2.2.1] at g3
  have r3 : ∀ k j, ri M3 k j = if k = 58 ∧ j = 45 then nI (sn S) else ri M2 k j := by intro k j; rw [g3, ri_wi]
  have a3 : Ar M3 69 S := a2.keepE (fun j => by rw [r3, if_neg (by omega)])
  have n3 : Nx M3 S := fun p hp => by rw [r3, if_neg (by omega)]; exact n2 p hp
  have q3 : QL 1 M M3 := (q1.trans q2).l.trans (by rw [g3]; exact QL.w58)
  have e45 : ri M3 58 45 = nI (sn S) := by rw [r3, if_pos ⟨rfl, rfl⟩]
  rw [x_13, a3.2.2.1]
  refine r_members hS.2.1 ?_
  -- the row is copied
  have copy : ∀ (r p : Nat) (M4 : Mem) (y c : Nat), r + p = sn S → c = m → QL 1 M M4 → ri M4 58 45 = nI (sn S) → (∀ q, q < sn S → ri M4 74 q = col S m x q) → (∀ q, q < p → ri M4 73 q = col S m x q) → RI (d + 3) μX9_banners 60 [(0, .ref 58), (1, .int (nI (pc8 (sb S)))), (2, .int (nI c)), (3, .int (nI y)), (4, .int (nI p))] [] M4 K := by
    intro r
    induction r with
    | zero =>
      intro p M4 y c hp hc q4 e45 h74 h73
      have hp : p = sn S := by omega
      subst hp hc
      refine sg_X9_banners_60 ?_
      rw [(hR.keepL q4).2.2.2.1, if_pos (by rw [nI_leI (by omega) (by omega)]; omega)]
      have ll : (colL S c x).length = sn S := by unfold colL; simp
      exact hK M4 q4 ⟨by rw [ll]; exact e45, fun i hi => by rw [ll] at hi; rw [h73 i hi, colL_at hi]⟩
    | succ r ih =>
      intro p M4 y c hp hc q4 e45 h74 h73
      refine sg_X9_banners_60 ?_
      rw [(hR.keepL q4).2.2.2.1, if_neg (by rw [nI_leI (by omega) (by omega)]; omega), show nx (nI p) = p from nI_clamp (by omega), nI_1]
      refine ⟨n_in (by omega) (by decide), n_in (by omega) (by decide), fun M5 g5 => ?_⟩
      have r5 : ∀ k j, ri M5 k j = if k = 73 ∧ j = p then ri M4 74 p else ri M4 k j := by intro k j; rw [g5, ri_wi]
      refine ih (p + 1) M5 y c (by omega) hc (q4.trans (by rw [g5]; exact QL.w73)) (by rw [r5, if_neg (by omega)]; exact e45) (fun q hq => by rw [r5, if_neg (by omega)]; exact h74 q hq) (fun q hq => ?_)
      rw [r5]
      by_cases hqp : q = p
      · rw [if_pos ⟨rfl, hqp⟩, hqp]; exact h74 p (by omega)
      · rw [if_neg (fun z => hqp z.2)]; exact h73 q (by omega)
  by_cases hz : pc8 (sb S) = 0
  · obtain ⟨hm0, hn0⟩ := h00 hz
    refine sg_X9_banners_29 ?_
    rw [hz, if_pos (by decide)]
    subst hm0
    refine hK M3 q3 ⟨?_, fun i hi => ?_⟩
    · rw [e45, hn0]; unfold colL; rw [hn0]; rfl
    · unfold colL at hi; rw [hn0] at hi; exact absurd hi (Nat.not_lt_zero _)
  · obtain ⟨m1, m2⟩ := h1 (by omega)
    have pw : ∀ c, 1 ≤ c → c ≤ m → c ^ pc8 (sb S) < 2 ^ 30 := by
      intro c _ hc
      have h1 : c ^ pc8 (sb S) ≤ 8 ^ pc8 (sb S) := Nat.pow_le_pow_left (by omega) _
      have h2 : 8 ^ pc8 (sb S) ≤ 8 ^ 8 := Nat.pow_le_pow_right (by decide) hpc
      have h3 : (8 : Nat) ^ 8 < 2 ^ 30 := by decide
      omega
    have spec : ∀ c, Spec S c 0 (c ^ pc8 (sb S)) (fd S c (sn S) 0) := by
      intro c
      have := fd_spec S c (sn S) 0 0 (by omega) (Nat.zero_mod _) (fun p hp => absurd hp (Nat.not_lt_zero _))
      rw [ht] at this
      exact this
    have outer : ∀ (r c : Nat) (M4 : Mem), r + c = m → 1 ≤ c → QL 1 M M4 → ri M4 58 45 = nI (sn S) → Ar M4 69 S → Nx M4 S → RI (d + 3) μX9_banners 29 [(0, .ref 58), (1, .int (nI (pc8 (sb S)))), (2, .int (nI c))] [] M4 K := by
      intro r
      induction r with
      | zero =>
        intro c M4 hc c1 q4 e45 a4 n4
        have hc : c = m := by omega
        subst hc
        refine sg_X9_banners_29 ?_
        rw [if_neg (by rw [nI_ltI (by omega) (by omega)]; omega)]
        obtain ⟨s1, s2, s3, s4⟩ := (spec c).1 x hx
        have hpw := pw c c1 (Nat.le_refl _)
        have codes : ∀ (k y : Nat) (M5 : Mem), k + y = x → QL 1 M M5 → ri M5 58 45 = nI (sn S) → Ar M5 69 S → Nx M5 S → RI (d + 3) μX9_banners 36 [(0, .ref 58), (1, .int (nI (pc8 (sb S)))), (2, .int (nI c)), (3, .int (nI y))] [] M5 K := by
          intro k
          induction k with
          | zero =>
            intro y M5 hy q5 e45 a5 n5
            have hy : y = x := by omega
            subst hy
            refine sg_X9_banners_36 (m_power (by omega) ?_)
            rw [if_neg (by rw [nI_leI (by omega) (by omega)]; omega)]
            refine m_layColours (hR.keepL q5) hG a5 n5 c1 (by omega) (by omega) (fun ok M6 hok q6 a6 n6 h74 e6 => ?_)
            rw [if_neg (bI_ne (hok.mpr s3))]
            exact copy (sn S) 0 M6 y c (by omega) rfl (q5.trans q6.l) (by rw [e6 58 45 (by omega)]; exact e45) h74 (fun q hq => absurd hq (Nat.not_lt_zero _))
          | succ k ihk =>
            intro y M5 hy q5 e45 a5 n5
            refine sg_X9_banners_36 (m_power (by omega) ?_)
            rw [if_neg (by rw [nI_leI (by omega) (by omega)]; omega), nI_1]
            refine m_layColours (hR.keepL q5) hG a5 n5 c1 (by omega) (by omega) (fun ok M6 hok q6 a6 n6 h74 e6 => ?_)
            have hno : ok = false := by
              cases ok with
              | false => rfl
              | true => have := s4 y (Nat.zero_le _) (by omega) (hok.mp rfl); omega
            rw [if_pos (bI_eq hno)]
            exact ihk (y + 1) M6 (by omega) (q5.trans q6.l) (by rw [e6 58 45 (by omega)]; exact e45) a6 n6
        exact codes x 0 M4 rfl q4 e45 a4 n4
      | succ r ih =>
        intro c M4 hc c1 q4 e45 a4 n4
        refine sg_X9_banners_29 ?_
        rw [if_neg (by rw [nI_ltI (by omega) (by omega)]; omega)]
        have hnone := (spec c).2 (hl c (by omega))
        have hpw := pw c c1 (by omega)
        have codes : ∀ (k y : Nat) (M5 : Mem), k + y = c ^ pc8 (sb S) → QL 1 M M5 → ri M5 58 45 = nI (sn S) → Ar M5 69 S → Nx M5 S → RI (d + 3) μX9_banners 36 [(0, .ref 58), (1, .int (nI (pc8 (sb S)))), (2, .int (nI c)), (3, .int (nI y))] [] M5 K := by
          intro k
          induction k with
          | zero =>
            intro y M5 hy q5 e45 a5 n5
            refine sg_X9_banners_36 (m_power (by omega) ?_)
            rw [if_pos (by rw [nI_leI (by omega) (by omega)]; omega), nI_1]
            exact ih (c + 1) M5 (by omega) (by omega) q5 e45 a5 n5
          | succ k ihk =>
            intro y M5 hy q5 e45 a5 n5
            refine sg_X9_banners_36 (m_power (by omega) ?_)
            rw [if_neg (by rw [nI_leI (by omega) (by omega)]; omega)]
            rw [show nI y + 1 = nI (y + 1) by rw [nI_1]]
            refine m_layColours (hR.keepL q5) hG a5 n5 c1 (by omega) (by omega) (fun ok M6 hok q6 a6 n6 h74 e6 => ?_)
            have hno : ok = false := by
              cases ok with
              | false => rfl
              | true => exact absurd (hok.mp rfl) (hnone y (Nat.zero_le _) (by omega))
            rw [if_pos (bI_eq hno)]
            exact ihk (y + 1) M6 (by omega) (q5.trans q6.l) (by rw [e6 58 45 (by omega)]; exact e45) a6 n6
        exact codes (c ^ pc8 (sb S)) 0 M4 rfl q4 e45 a4 n4
    exact outer (m - 1) 1 M3 (by omega) (Nat.le_refl _) q3 e45 a3 n3
