/-! feed, end, fault; images -/
def sB (b : Nat) : Int32 := if b < 128 then nI b else nI b - 256
theorem sB_tab : ∀ b, b < 256 → vp_nar .byte ((Int8.ofNat b).toInt32) = sB b := by decide +kernel
theorem i8_mod (n : Nat) : Int8.ofNat n = Int8.ofNat (n % 256) := by
  apply Int8.toBitVec_inj.mp
  show BitVec.ofNat 8 n = BitVec.ofNat 8 (n % 256)
  apply BitVec.eq_of_toNat_eq
  rw [BitVec.toNat_ofNat, BitVec.toNat_ofNat]
  omega
theorem i_nat (x : Int32) : x = nI x.toBitVec.toNat := by
  apply Int32.toBitVec_inj.mp
  apply BitVec.eq_of_toNat_eq
  simp [nI, Int32.ofNat]
theorem byte_ok (x : Int32) : ∃ b, b < 256 ∧ x &&& 255 = nI b ∧ vp_nar .byte (x.toInt8.toInt32) = sB b := by
  have e := i_nat x
  generalize x.toBitVec.toNat = n at e
  subst e
  refine ⟨n % 256, Nat.mod_lt _ (by decide), ?_, ?_⟩
  · exact fa_mask n 8
  · have h : (nI n).toInt8 = Int8.ofNat n := by
      first | exact Int32.toInt8_ofNat' n | exact Int32.toInt8_ofNat n | exact Int32.toInt8_ofNat | (apply Int8.toBitVec_inj.mp; show (BitVec.ofNat 32 n).signExtend 8 = BitVec.ofNat 8 n; rw [BitVec.signExtend_eq_setWidth_of_le _ (by decide)]; exact BitVec.setWidth_ofNat_of_le (by decide) n)
    rw [h, i8_mod]
    exact sB_tab _ (Nat.mod_lt _ (by decide))
def bb (x : Int32) (s : Nat) : Nat := nx ((x >>> (nI s &&& 31)) &&& 255)
theorem bb_ok (x : Int32) (s : Nat) : bb x s < 256 ∧ (x >>> (nI s &&& 31)) &&& 255 = nI (bb x s) ∧ vp_nar .byte ((x >>> (nI s &&& 31)).toInt8.toInt32) = sB (bb x s) := by
  obtain ⟨b, hb, e1, e2⟩ := byte_ok (x >>> (nI s &&& 31))
  have : bb x s = b := by unfold bb; rw [e1]; exact nI_clamp (by omega)
  rw [this]; exact ⟨hb, e1, e2⟩
def TX (M : Mem) (L : Nat) (T : Nat → Nat) : Prop := ri M 1 2 = nI L ∧ ∀ i, i < L → ri M 14 i = sB (T i)
def TM (M : Mem) (L : Nat) (T : Nat → Nat) : Prop := ri M 58 1 = nI L ∧ ∀ i, i < L → ri M 59 i = nI (T i)
def TOk (L : Nat) (T : Nat → Nat) : Prop := L ≤ 1600 ∧ ∀ i, i < L → T i < 256
def put1 (T : Nat → Nat) (L b : Nat) : Nat → Nat := fun i => if i = L then b else T i
def put4 (T : Nat → Nat) (L : Nat) (x : Int32) : Nat → Nat := put1 (put1 (put1 (put1 T L (bb x 24)) (L + 1) (bb x 16)) (L + 2) (bb x 8)) (L + 3) (bb x 0)
def QP (s : Nat) (M M' : Mem) : Prop := (∀ k j, ¬ (s = 0 ∧ k = 14) → ¬ (s = 1 ∧ k = 59) → ¬ (s = 0 ∧ k = 1 ∧ j = 2) → ¬ (s = 1 ∧ k = 58 ∧ j = 1) → ri M' k j = ri M k j) ∧ ∀ k j, rl M' k j = rl M k j
theorem QP.rf {s : Nat} {M : Mem} : QP s M M := ⟨fun _ _ _ _ _ _ => rfl, fun _ _ => rfl⟩
theorem QP.trans {s : Nat} {M M' M'' : Mem} (h : QP s M M') (h2 : QP s M' M'') : QP s M M'' := ⟨fun k j a b c e => (h2.1 k j a b c e).trans (h.1 k j a b c e), fun k j => (h2.2 k j).trans (h.2 k j)⟩
theorem TOk.put1 {L : Nat} {T : Nat → Nat} (h : TOk L T) (hl : L < 1600) {b : Nat} (hb : b < 256) : TOk (L + 1) (put1 T L b) := by
  refine ⟨by omega, fun i hi => ?_⟩
  show (if i = L then b else T i) < 256
  by_cases hiL : i = L
  · rw [if_pos hiL]; exact hb
  · rw [if_neg hiL]; exact h.2 i (by omega)
theorem TOk.put4 {L : Nat} {T : Nat → Nat} (h : TOk L T) (hl : L + 4 ≤ 1600) (x : Int32) : TOk (L + 4) (put4 T L x) :=
  (((h.put1 (by omega) (bb_ok x 24).1).put1 (by omega) (bb_ok x 16).1).put1 (by omega) (bb_ok x 8).1).put1 (by omega) (bb_ok x 0).1
theorem x_put1 {d L s : Nat} {M : Mem} {K : Mem → Prop} {T : Nat → Nat} {x : Int32} (hs : s ≤ 24) (hL : L < 1600) (hT : TX M L T) (hK : ∀ M', QP 0 M M' → TX M' (L + 1) (put1 T L (bb x s)) → RV d μX6_putBytes 3 [(0, .ref 1), (1, .int x), (2, .int (nI s + (-8)))] [] M' K) : RV d μX6_putBytes 3 [(0, .ref 1), (1, .int x), (2, .int (nI s))] [] M K := by
  refine sg_X6_putBytes_3 ?_
  rw [if_neg (i_nlt.mpr (nI_nn (by omega))), hT.1, if_neg (by show ¬ nI 1600 ≤ nI L; rw [nI_leI (by omega) (by omega)]; omega), show nx (nI L) = L from nI_clamp (by omega), (bb_ok x s).2.2]
  refine ⟨n_in hL (by decide), fun M1 h1 M2 h2 => ?_⟩
  have r1 : ∀ k j, ri M1 k j = if k = 14 ∧ j = L then sB (bb x s) else ri M k j := by intro k j; rw [h1, ri_wi]
  rw [show ri M1 1 2 = nI L by rw [r1, if_neg (by omega)]; exact hT.1, nI_1] at h2
  have r2 : ∀ k j, ri M2 k j = if k = 1 ∧ j = 2 then nI (L + 1) else ri M1 k j := by intro k j; rw [h2, ri_wi]
  refine hK M2 ⟨fun k j a _ b _ => by rw [r2, if_neg (fun q => b ⟨rfl, q⟩), r1, if_neg (fun q => a ⟨rfl, q.1⟩)], fun k j => by rw [h2, h1]; rfl⟩ ⟨by rw [r2, if_pos ⟨rfl, rfl⟩], fun i hi => ?_⟩
  rw [r2, if_neg (by omega), r1]
  show _ = sB (if i = L then bb x s else T i)
  by_cases hiL : i = L
  · rw [if_pos ⟨rfl, hiL⟩, if_pos hiL]
  · rw [if_neg (fun q => hiL q.2), if_neg hiL]; exact hT.2 i (by omega)
theorem m_put1 {d L s : Nat} {M : Mem} {K : Mem → Prop} {T : Nat → Nat} {x : Int32} (hs : s ≤ 24) (hL : L < 1600) (hT : TM M L T) (hK : ∀ M', QP 1 M M' → TM M' (L + 1) (put1 T L (bb x s)) → RV d μX9_four 3 [(0, .ref 58), (1, .int x), (2, .int (nI s + (-8)))] [] M' K) : RV d μX9_four 3 [(0, .ref 58), (1, .int x), (2, .int (nI s))] [] M K := by
  refine sg_X9_four_3 ?_
  rw [if_neg (i_nlt.mpr (nI_nn (by omega))), hT.1, show nx (nI L) = L from nI_clamp (by omega), (bb_ok x s).2.1]
  refine ⟨n_in hL (by decide), fun M1 h1 M2 h2 => ?_⟩
  have r1 : ∀ k j, ri M1 k j = if k = 59 ∧ j = L then nI (bb x s) else ri M k j := by intro k j; rw [h1, ri_wi]
  rw [show ri M1 58 1 = nI L by rw [r1, if_neg (by omega)]; exact hT.1, nI_1] at h2
  have r2 : ∀ k j, ri M2 k j = if k = 58 ∧ j = 1 then nI (L + 1) else ri M1 k j := by intro k j; rw [h2, ri_wi]
  refine hK M2 ⟨fun k j _ a _ b => by rw [r2, if_neg (fun q => b ⟨rfl, q⟩), r1, if_neg (fun q => a ⟨rfl, q.1⟩)], fun k j => by rw [h2, h1]; rfl⟩ ⟨by rw [r2, if_pos ⟨rfl, rfl⟩], fun i hi => ?_⟩
  rw [r2, if_neg (by omega), r1]
  show _ = nI (if i = L then bb x s else T i)
  by_cases hiL : i = L
  · rw [if_pos ⟨rfl, hiL⟩, if_pos hiL]
  · rw [if_neg (fun q => hiL q.2), if_neg hiL]; exact hT.2 i (by omega)
theorem x_put4 {d L : Nat} {M : Mem} {K : Mem → Prop} {T : Nat → Nat} {x : Int32} (hL : L + 4 ≤ 1600) (hT : TX M L T) (hK : ∀ M', QP 0 M M' → TX M' (L + 4) (put4 T L x) → K M') : CV d μX6_putBytes [.ref 1, .int x] M K := by
  refine sg_X6_putBytes_0 ?_
  refine x_put1 (s := 24) (by omega) (by omega) hT (fun M1 q1 t1 => ?_)
  refine x_put1 (s := 16) (by omega) (by omega) t1 (fun M2 q2 t2 => ?_)
  refine x_put1 (s := 8) (by omega) (by omega) t2 (fun M3 q3 t3 => ?_)
  refine x_put1 (s := 0) (by omega) (by omega) t3 (fun M4 q4 t4 => ?_)
  refine sg_X6_putBytes_3 ?_
  rw [if_pos (by decide)]
  exact hK M4 (((q1.trans q2).trans q3).trans q4) t4
theorem m_put4 {d L : Nat} {M : Mem} {K : Mem → Prop} {T : Nat → Nat} {x : Int32} (hL : L + 4 ≤ 1600) (hT : TM M L T) (hK : ∀ M', QP 1 M M' → TM M' (L + 4) (put4 T L x) → K M') : CV d μX9_four [.ref 58, .int x] M K := by
  refine sg_X9_four_0 ?_
  refine m_put1 (s := 24) (by omega) (by omega) hT (fun M1 q1 t1 => ?_)
  refine m_put1 (s := 16) (by omega) (by omega) t1 (fun M2 q2 t2 => ?_)
  refine m_put1 (s := 8) (by omega) (by omega) t2 (fun M3 q3 t3 => ?_)
  refine m_put1 (s := 0) (by omega) (by omega) t3 (fun M4 q4 t4 => ?_)
  refine sg_X9_four_3 ?_
  rw [if_pos (by decide)]
  exact hK M4 (((q1.trans q2).trans q3).trans q4) t4
def put20 (T : Nat → Nat) (L : Nat) (a b c e f : Int32) : Nat → Nat := put4 (put4 (put4 (put4 (put4 T L a) (L + 4) b) (L + 8) c) (L + 12) e) (L + 16) f
theorem n_20 (L : Nat) : nI L + 20 = nI (L + 20) := by rw [show (20 : Int32) = nI 20 from rfl, nI_add]
theorem x_feed {d L : Nat} {M : Mem} {K : Int32 → Mem → Prop} {T : Nat → Nat} {a b c e f : Int32} (hO : TOk L T) (hT : TX M L T) (h0 : 1600 < L + 20 → K (-1) M) (hK : L + 20 ≤ 1600 → ∀ M', QP 0 M M' → TX M' (L + 20) (put20 T L a b c e f) → K (nI (L + 20)) M') : CI (d + 1) μX8_feed [.ref 0, .int a, .int b, .int c, .int e, .int f] M K := by
  have hl := hO.1
  refine sg_X8_feed_0 ?_
  rw [hT.1, n_20]
  by_cases h : L + 20 ≤ 1600
  · rw [if_pos (by rw [show (1600 : Int32) = nI 1600 from rfl, nI_leI (by omega) (by omega)]; exact h)]
    refine x_put4 (by omega) hT (fun M1 q1 t1 => ?_)
    refine x_put4 (by omega) t1 (fun M2 q2 t2 => ?_)
    refine x_put4 (by omega) t2 (fun M3 q3 t3 => ?_)
    refine x_put4 (by omega) t3 (fun M4 q4 t4 => ?_)
    refine x_put4 (by omega) t4 (fun M5 q5 t5 => ?_)
    rw [t5.1]
    exact hK h M5 ((((q1.trans q2).trans q3).trans q4).trans q5) t5
  · rw [if_neg (by rw [show (1600 : Int32) = nI 1600 from rfl, nI_leI (by omega) (by omega)]; exact h)]
    exact h0 (by omega)
theorem m_feed {d L : Nat} {M : Mem} {K : Int32 → Mem → Prop} {T : Nat → Nat} {a b c e f : Int32} (hO : TOk L T) (hT : TM M L T) (h0 : 1600 < L + 20 → K (-1) M) (hK : L + 20 ≤ 1600 → ∀ M', QP 1 M M' → TM M' (L + 20) (put20 T L a b c e f) → K (nI (L + 20)) M') : CI (d + 1) μX9_feed [.ref 58, .int a, .int b, .int c, .int e, .int f] M K := by
  have hl := hO.1
  refine sg_X9_feed_0 ?_
  rw [hT.1, n_20]
  by_cases h : L + 20 ≤ 1600
  · rw [if_pos (by rw [show (1600 : Int32) = nI 1600 from rfl, nI_leI (by omega) (by omega)]; exact h)]
    refine m_put4 (by omega) hT (fun M1 q1 t1 => ?_)
    refine m_put4 (by omega) t1 (fun M2 q2 t2 => ?_)
    refine m_put4 (by omega) t2 (fun M3 q3 t3 => ?_)
    refine m_put4 (by omega) t3 (fun M4 q4 t4 => ?_)
    refine m_put4 (by omega) t4 (fun M5 q5 t5 => ?_)
    rw [t5.1]
    exact hK h M5 ((((q1.trans q2).trans q3).trans q4).trans q5) t5
  · rw [if_neg (by rw [show (1600 : Int32) = nI 1600 from rfl, nI_leI (by omega) (by omega)]; exact h)]
    exact h0 (by omega)
theorem put20_ok {L : Nat} {T : Nat → Nat} (h : TOk L T) (hl : L + 20 ≤ 1600) (a b c e f : Int32) : TOk (L + 20) (put20 T L a b c e f) :=
  ((((h.put4 (by omega) a).put4 (by omega) b).put4 (by omega) c).put4 (by omega) e).put4 (by omega) f
theorem x_end {d L : Nat} {M : Mem} {K : Int32 → Mem → Prop} {T : Nat → Nat} {x : Int32} (hO : TOk L T) (hT : TX M L T) (h0 : ¬ (0 ≤ x ∧ x ≤ nI L) → K (-1) M) (hK : (0 ≤ x ∧ x ≤ nI L) → ∀ M', QP 0 M M' → TX M' (nx x) T → K x M') : CI d μX8_end [.ref 0, .int x] M K := by
  have hl := hO.1
  refine sg_X8_end_0 ?_
  rw [hT.1]
  by_cases h1 : x < 0
  · rw [if_pos h1]; exact h0 (fun q => absurd h1 (i_nlt.mpr q.1))
  rw [if_neg h1]
  by_cases h2 : x ≤ nI L
  · rw [if_pos h2]
    intro M1 g1
    have r1 : ∀ k j, ri M1 k j = if k = 1 ∧ j = 2 then x else ri M k j := by intro k j; rw [g1, ri_wi]
    obtain ⟨n, hn, rfl⟩ := le_nat (i_nlt.mp h1) h2 (by omega)
    refine hK ⟨i_nlt.mp h1, h2⟩ M1 ⟨fun k j _ _ a _ => by rw [r1, if_neg (fun q => a ⟨rfl, q⟩)], fun k j => by rw [g1]; rfl⟩ ⟨by rw [r1, if_pos ⟨rfl, rfl⟩, show nx (nI n) = n from nI_clamp (by omega)], fun i hi => ?_⟩
    rw [show nx (nI n) = n from nI_clamp (by omega)] at hi
    rw [r1, if_neg (by omega)]; exact hT.2 i (by omega)
  · rw [if_neg h2]; exact h0 (fun q => h2 q.2)
theorem m_end {d L : Nat} {M : Mem} {K : Int32 → Mem → Prop} {T : Nat → Nat} {x : Int32} (hO : TOk L T) (hT : TM M L T) (h0 : ¬ (0 ≤ x ∧ x ≤ nI L) → K (-1) M) (hK : (0 ≤ x ∧ x ≤ nI L) → ∀ M', QP 1 M M' → TM M' (nx x) T → K x M') : CI d μX9_end [.ref 58, .int x] M K := by
  have hl := hO.1
  refine sg_X9_end_0 ?_
  rw [hT.1]
  by_cases h1 : x < 0
  · rw [if_pos h1]; exact h0 (fun q => absurd h1 (i_nlt.mpr q.1))
  rw [if_neg h1]
  by_cases h2 : x ≤ nI L
  · rw [if_pos h2]
    intro M1 g1
    have r1 : ∀ k j, ri M1 k j = if k = 58 ∧ j = 1 then x else ri M k j := by intro k j; rw [g1, ri_wi]
    obtain ⟨n, hn, rfl⟩ := le_nat (i_nlt.mp h1) h2 (by omega)
    refine hK ⟨i_nlt.mp h1, h2⟩ M1 ⟨fun k j _ _ _ a => by rw [r1, if_neg (fun q => a ⟨rfl, q⟩)], fun k j => by rw [g1]; rfl⟩ ⟨by rw [r1, if_pos ⟨rfl, rfl⟩, show nx (nI n) = n from nI_clamp (by omega)], fun i hi => ?_⟩
    rw [show nx (nI n) = n from nI_clamp (by omega)] at hi
    rw [r1, if_neg (by omega)]; exact hT.2 i (by omega)
  · rw [if_neg h2]; exact h0 (fun q => h2 q.2)
/-! images -/
def BX (M : Mem) (B : Nat → Option Sh) : Prop := ∃ m, m < 8 ∧ ri M 0 6 = nI m ∧ ∀ b, b < 3 → m.testBit b = (B b).isSome ∧ ∀ T, B b = some T → Rw M 41 (b * 24) T
def BM (M : Mem) (B : Nat → Option Sh) : Prop := ∀ b, b < 3 → ri M 86 b = bI (B b).isSome ∧ ∀ T, B b = some T → AO M 87 (24 * b) T
def BG (n : Nat) (B : Nat → Option Sh) : Prop := ∀ b T, B b = some T → GK n T
def QB (s : Nat) (M M' : Mem) : Prop := (∀ k j, ¬ (s = 0 ∧ k = 41) → ¬ (s = 1 ∧ k = 86) → ¬ (s = 1 ∧ k = 87) → ¬ (s = 0 ∧ k = 0 ∧ j = 6) → ri M' k j = ri M k j) ∧ ∀ k j, rl M' k j = rl M k j
def setB (B : Nat → Option Sh) (b : Nat) (S : Sh) : Nat → Option Sh := fun i => if i = b then some S else B i
theorem x_image {d n : Nat} {M : Mem} {K : Int32 → Mem → Prop} {S : Sh} {B : Nat → Option Sh} {x : Int32} (hF : Fr M 27 S) (hB : BX M B) (hG : BG n B) (h0 : ¬ (0 ≤ x ∧ x < 3) → K (-1) M) (hK : (0 ≤ x ∧ x < 3) → ∀ M', QB 0 M M' → BX M' (setB B (nx x) S) → K (sy S) M') : CI (d + 2) μX8_image [.ref 0, .int x] M K := by
  refine sg_X8_image_0 ?_
  by_cases h1 : x < 0
  · rw [if_pos h1]; exact h0 (fun q => absurd h1 (i_nlt.mpr q.1))
  rw [if_neg h1]
  by_cases h2 : x < 3
  · rw [if_pos h2]
    obtain ⟨b, hb, rfl⟩ := n_nat (i_nlt.mp h1) (show x < nI 3 from h2) (by omega)
    have hK := hK ⟨i_nlt.mp h1, h2⟩
    rw [show nx (nI b) = b from nI_clamp (by omega)] at hK
    obtain ⟨m, hm, e6, hrow⟩ := hB
    rw [show (24 : Int32) = nI 24 from rfl, n_mul]
    refine c_writeTo (nw := 72) (by decide +kernel) (by decide +kernel) (by omega) (by omega) (by omega) hF (fun M1 s1 w1 => ?_)
    intro M2 g2
    have e1 : ∀ k j, k ≠ 41 → ri M1 k j = ri M k j := fun k j hk => s1.1 k j (fun q => hk q.1)
    rw [e1 0 6 (by omega), e6, n_shl (by omega), n_or] at g2
    have r2 : ∀ k j, ri M2 k j = if k = 0 ∧ j = 6 then nI (m ||| 2 ^ b) else ri M1 k j := by intro k j; rw [g2, ri_wi]
    rw [show ri M2 27 2 = sy S by rw [r2, if_neg (by omega), e1 27 2 (by omega)]; exact hF.1.2.2.1]
    refine hK M2 ⟨fun k j a _ _ c => by rw [r2, if_neg (fun q => c ⟨rfl, q⟩), e1 k j (fun q => a ⟨rfl, q⟩)], fun k j => by rw [g2]; exact s1.2 k j⟩ ⟨m ||| 2 ^ b, Nat.or_lt_two_pow (n := 3) hm (Nat.pow_lt_pow_right (by decide) hb), by rw [r2, if_pos ⟨rfl, rfl⟩], fun b' hb' => ⟨?_, fun T hT => ?_⟩⟩
    · rw [Nat.testBit_or, Nat.testBit_two_pow]
      show _ = (if b' = b then some S else B b').isSome
      by_cases hbb : b' = b
      · rw [if_pos hbb, decide_eq_true hbb.symm]; simp
      · rw [if_neg hbb, decide_eq_false (fun q => hbb q.symm), Bool.or_false]; exact (hrow b' hb').1
    · have hT : (if b' = b then some S else B b') = some T := hT
      have e41 : ∀ j, ri M2 41 j = ri M1 41 j := fun j => by rw [r2, if_neg (by omega)]
      by_cases hbb : b' = b
      · rw [if_pos hbb] at hT
        cases hT
        rw [hbb]
        exact w1.keep hF.2.2.2.2.1 (fun j _ _ => e41 j)
      · rw [if_neg hbb] at hT
        exact ((hrow b' hb').2 T hT).keep (hG b' T hT).1.1.2.2.1 (fun j h1 h2 => by rw [e41, s1.1 41 j (fun q => by omega)])
  · rw [if_neg h2]; exact h0 (fun q => h2 q.2)
theorem m_isBox {d : Nat} {M : Mem} {K : Int32 → Mem → Prop} {x : Int32} (hK : K (bI (decide (0 ≤ x ∧ x < 3))) M) : CI d μX9_isBox [.int x] M K := by
  refine sg_X9_isBox_0 ?_
  by_cases h1 : x < 0
  · rw [if_pos h1]; rw [decide_eq_false (fun q => absurd h1 (i_nlt.mpr q.1))] at hK; exact hK
  rw [if_neg h1]
  by_cases h2 : 3 ≤ x
  · rw [if_pos h2]; rw [decide_eq_false (fun q => absurd h2 (i_nle.mpr q.2))] at hK; exact hK
  · rw [if_neg h2]; rw [decide_eq_true ⟨i_nlt.mp h1, i_nle.mp h2⟩] at hK; exact hK
theorem m_image {d n : Nat} {M : Mem} {K : Int32 → Mem → Prop} {S : Sh} {B : Nat → Option Sh} {x : Int32} (hA : Ar M 68 S) (hS : SOk S) (hB : BM M B) (hG : BG n B) (h0 : ¬ (0 ≤ x ∧ x < 3) → K (-1) M) (hK : (0 ≤ x ∧ x < 3) → ∀ M', QB 1 M M' → BM M' (setB B (nx x) S) → K (sy S) M') : CI (d + 1) μX9_image [.ref 58, .int x] M K := by
  refine sg_X9_image_0 (m_isBox ?_)
  by_cases h1 : 0 ≤ x ∧ x < 3
  · rw [if_neg (bI_ne (decide_eq_true h1))]
    obtain ⟨b, hb, rfl⟩ := n_nat h1.1 (show x < nI 3 from h1.2) (by omega)
    have hK := hK h1
    have e1 : nx (nI b) = b := nI_clamp (by omega)
    rw [e1] at hK
    rw [e1, show vp_nar .boolean 1 = bI true from nar_b true]
    refine ⟨n_in (by omega) (by decide), fun M1 g1 => ?_⟩
    have r1 : ∀ k j, ri M1 k j = if k = 86 ∧ j = b then bI true else ri M k j := by intro k j; rw [g1, ri_wi]
    have loop : ∀ (r i : Nat) (M2 : Mem), r + i = 24 → (∀ k j, k ≠ 87 → ri M2 k j = ri M1 k j) → (∀ k j, rl M2 k j = rl M1 k j) → (∀ j, j < i → ri M2 87 (24 * b + j) = ri M 68 j) → (∀ j, ¬ (24 * b ≤ j ∧ j < 24 * b + i) → ri M2 87 j = ri M 87 j) → RI (d + 1) μX9_image 18 [(0, .ref 58), (1, .int (nI b)), (2, .int (nI i))] [] M2 K := by
      intro r
      induction r with
      | zero =>
        intro i M2 hi e el a1 a2
        have hi : i = 24 := by omega
        subst hi
        refine sg_X9_image_18 ?_
        rw [if_pos (by decide), x_22, e 68 22 (by omega), r1, if_neg (by omega), hA.2.2.2.2.1]
        refine hK M2 ⟨fun k j _ c c2 _ => by rw [e k j (fun q => c2 ⟨rfl, q⟩), r1, if_neg (fun q => c ⟨rfl, q.1⟩)], fun k j => by rw [el, g1]; rfl⟩ (fun b' hb' => ⟨?_, fun T hT => ?_⟩)
        · rw [e 86 b' (by omega), r1]
          show _ = bI (if b' = b then some S else B b').isSome
          by_cases hbb : b' = b
          · rw [if_pos ⟨rfl, hbb⟩, if_pos hbb]; rfl
          · rw [if_neg (fun q => hbb q.2), if_neg hbb]; exact (hB b' hb').1
        · have hT : (if b' = b then some S else B b') = some T := hT
          by_cases hbb : b' = b
          · rw [if_pos hbb] at hT
            cases hT
            rw [hbb]
            exact hA.ao.copy hS.2.2.1 (fun j hj => by rw [Nat.zero_add]; exact a1 j hj)
          · rw [if_neg hbb] at hT
            exact ((hB b' hb').2 T hT).copy (hG b' T hT).1.1.2.2.1 (fun j hj => a2 _ (by omega))
      | succ r ih =>
        intro i M2 hi e el a1 a2
        refine sg_X9_image_18 ?_
        rw [if_neg (by rw [show (24 : Int32) = nI 24 from rfl, nI_leI (by omega) (by omega)]; omega), n_24, nI_1, show nx (nI i) = i from nI_clamp (by omega), show nx (nI (24 * b + i)) = 24 * b + i from nI_clamp (by omega)]
        refine ⟨n_in (by omega) (by decide), n_in (by omega) (by decide), fun M3 g3 => ?_⟩
        have r3 : ∀ k j, ri M3 k j = if k = 87 ∧ j = 24 * b + i then ri M2 68 i else ri M2 k j := by intro k j; rw [g3, ri_wi]
        refine ih (i + 1) M3 (by omega) (fun k j hk => by rw [r3, if_neg (fun q => hk q.1)]; exact e k j hk) (fun k j => by rw [g3]; exact el k j) (fun j hj => ?_) (fun j hj => by rw [r3, if_neg (by omega)]; exact a2 j (by omega))
        rw [r3]
        by_cases hji : j = i
        · rw [if_pos ⟨rfl, by omega⟩, hji, e 68 i (by omega), r1, if_neg (by omega)]
        · rw [if_neg (by omega)]; exact a1 j (by omega)
    exact loop 24 0 M1 rfl (fun _ _ _ => rfl) (fun _ _ => rfl) (fun j h => absurd h (Nat.not_lt_zero _)) (fun j _ => by rw [r1, if_neg (by omega)])
  · rw [if_pos (bI_eq (decide_eq_false h1))]; exact h0 h1
theorem x_back {d n : Nat} {M : Mem} {K : Int32 → Mem → Prop} {S : Sh} {B : Nat → Option Sh} {x : Int32} (hF : Fr M 27 S) (hn : sn S = n) (hB : BX M B) (hG : BG n B) (h0 : ¬ ((0 ≤ x ∧ x < 3) ∧ (B (nx x)).isSome = true) → K (-1) M) (hK : ∀ T, (0 ≤ x ∧ x < 3) → B (nx x) = some T → ∀ M', QH 0 M M' → Fr M' 27 T → HX M' T [] [] → K (sy T) M') : CI (d + 3) μX8_back [.ref 0, .int x] M K := by
  refine sg_X8_back_0 ?_
  by_cases h1 : x < 0
  · rw [if_pos h1]; exact h0 (fun q => absurd h1 (i_nlt.mpr q.1.1))
  rw [if_neg h1]
  by_cases h2 : 3 ≤ x
  · rw [if_pos h2]; exact h0 (fun q => absurd h2 (i_nle.mpr q.1.2))
  rw [if_neg h2]
  obtain ⟨b, hb, rfl⟩ := n_nat (i_nlt.mp h1) (show x < nI 3 from i_nle.mp h2) (by omega)
  have e1 : nx (nI b) = b := nI_clamp (by omega)
  rw [e1] at h0 hK
  obtain ⟨m, hm, e6, hrow⟩ := hB
  have hr := hrow b hb
  rw [e6]
  cases hBb : B b with
  | none =>
    rw [hBb] at hr h0
    rw [if_pos ((n_bitz (by omega) (by omega)).mpr hr.1)]
    exact h0 (fun q => by cases q.2)
  | some T =>
    rw [hBb] at hr
    rw [if_neg (fun q => by have := (n_bitz (s := m) (by omega) (by omega)).mp q; rw [hr.1] at this; cases this)]
    have gT := hG b T hBb
    rw [show (24 : Int32) = nI 24 from rfl, n_mul]
    refine c_readFrom (nw := 72) (by decide +kernel) (by decide +kernel) (by omega) (by omega) (by omega) (hr.2 T rfl) (by rw [hF.1.1, hn, gT.2.1]) gT.1.1 gT.1.2.1 (fun M1 s1 f1 => ?_)
    refine x_start (n := n) f1 (fun M2 q2 f2 hh => ?_)
    rw [f2.1.2.2.1]
    exact hK T ⟨i_nlt.mp h1, i_nle.mp h2⟩ hBb M2 (s1.h.trans q2) f2 hh
theorem m_back {d n : Nat} {M : Mem} {K : Int32 → Mem → Prop} {B : Nat → Option Sh} {x : Int32} (hB : BM M B) (hG : BG n B) (h0 : ¬ ((0 ≤ x ∧ x < 3) ∧ (B (nx x)).isSome = true) → K (-1) M) (hK : ∀ T, (0 ≤ x ∧ x < 3) → B (nx x) = some T → ∀ M', QH 1 M M' → Ar M' 68 T → HM M' [] [] → K (sy T) M') : CI (d + 1) μX9_back [.ref 58, .int x] M K := by
  refine sg_X9_back_0 (m_isBox ?_)
  by_cases h1 : 0 ≤ x ∧ x < 3
  · rw [if_neg (bI_ne (decide_eq_true h1))]
    obtain ⟨b, hb, rfl⟩ := n_nat h1.1 (show x < nI 3 from h1.2) (by omega)
    have e1 : nx (nI b) = b := nI_clamp (by omega)
    rw [e1] at h0 hK ⊢
    have hr := hB b hb
    rw [hr.1]
    refine ⟨n_in (by omega) (by decide), ?_⟩
    cases hBb : B b with
    | none =>
      rw [hBb] at h0
      rw [if_pos (by rfl)]
      exact h0 (fun q => by cases q.2)
    | some T =>
      rw [if_neg (by show ¬ bI true = 0; decide)]
      have gT := hG b T hBb
      have hT := hr.2 T hBb
      have loop : ∀ (r i : Nat) (M2 : Mem), r + i = 24 → (∀ k j, k ≠ 68 → ri M2 k j = ri M k j) → (∀ k j, rl M2 k j = rl M k j) → (∀ j, j < i → ri M2 68 j = ri M 87 (24 * b + j)) → RI (d + 1) μX9_back 20 [(0, .ref 58), (1, .int (nI b)), (2, .int (nI i))] [] M2 K := by
        intro r
        induction r with
        | zero =>
          intro i M2 hi e el a1
          have hi : i = 24 := by omega
          subst hi
          refine sg_X9_back_20 ?_
          rw [if_pos (by decide)]
          intro M3 g3 M4 g4
          have r3 : ∀ k j, ri M3 k j = if k = 58 ∧ j = 40 then 0 else ri M2 k j := by intro k j; rw [g3, ri_wi]
          have r4 : ∀ k j, ri M4 k j = if k = 58 ∧ j = 41 then 0 else ri M3 k j := by intro k j; rw [g4, ri_wi]
          have a4 : Ar M4 68 T := AO.ar (hT.copy gT.1.1.2.2.1 (fun j hj => by rw [Nat.zero_add, r4, if_neg (by omega), r3, if_neg (by omega)]; exact a1 j hj))
          rw [x_22, a4.2.2.2.2.1]
          refine hK T h1 hBb M4 ⟨fun k j _ _ _ _ c _ c2 => by rw [r4, if_neg (fun q => c2 ⟨q.1, by omega⟩), r3, if_neg (fun q => c2 ⟨q.1, by omega⟩), e k j (fun q => c ⟨rfl, q⟩)], fun k j => by rw [g4, g3]; exact el k j⟩ a4 ⟨by rw [r4, if_neg (by omega), r3, if_pos ⟨rfl, rfl⟩]; rfl, by rw [r4, if_pos ⟨rfl, rfl⟩]; rfl, fun i hi => absurd hi (Nat.not_lt_zero _), fun i hi => absurd hi (Nat.not_lt_zero _)⟩
        | succ r ih =>
          intro i M2 hi e el a1
          refine sg_X9_back_20 ?_
          rw [if_neg (by rw [show (24 : Int32) = nI 24 from rfl, nI_leI (by omega) (by omega)]; omega), n_24, nI_1, show nx (nI i) = i from nI_clamp (by omega), show nx (nI (24 * b + i)) = 24 * b + i from nI_clamp (by omega)]
          refine ⟨n_in (by omega) (by decide), n_in (by omega) (by decide), fun M3 g3 => ?_⟩
          have r3 : ∀ k j, ri M3 k j = if k = 68 ∧ j = i then ri M2 87 (24 * b + i) else ri M2 k j := by intro k j; rw [g3, ri_wi]
          refine ih (i + 1) M3 (by omega) (fun k j hk => by rw [r3, if_neg (fun q => hk q.1)]; exact e k j hk) (fun k j => by rw [g3]; exact el k j) (fun j hj => ?_)
          rw [r3]
          by_cases hji : j = i
          · rw [if_pos ⟨rfl, hji⟩, hji]; exact e 87 _ (by omega)
          · rw [if_neg (fun q => hji q.2)]; exact a1 j (by omega)
      exact loop 24 0 M rfl (fun _ _ _ => rfl) (fun _ _ => rfl) (fun j h => absurd h (Nat.not_lt_zero _))
  · rw [if_pos (bI_eq (decide_eq_false h1))]; exact h0 (fun q => h1 q.1)
