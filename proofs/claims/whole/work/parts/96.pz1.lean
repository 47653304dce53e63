/-! puzzles: who is reached, far, hermits, cut: the numbers -/
theorem tb_ext {x y : Nat} (h : ∀ i, x.testBit i = y.testBit i) : x = y := Nat.eq_of_testBit_eq h
theorem clr_or (x y w : Nat) : clr (x ||| y) w = clr x w ||| clr y w := by
  apply tb_ext; intro i
  rw [clr_tb, Nat.testBit_or, Nat.testBit_or, clr_tb, clr_tb]
  cases x.testBit i <;> cases y.testBit i <;> cases w.testBit i <;> rfl
theorem clr_0 (x : Nat) : clr x 0 = x := by
  apply tb_ext; intro i
  rw [clr_tb, Nat.zero_testBit]; simp
theorem clr_z {s m : Nat} : clr s m = 0 ↔ ∀ i, s.testBit i = true → m.testBit i = true := by
  constructor
  · intro h i hi
    have : (clr s m).testBit i = false := by rw [h, Nat.zero_testBit]
    rw [clr_tb, hi, Bool.true_and] at this
    cases q : m.testBit i
    · rw [q] at this; cases this
    · rfl
  · intro h
    apply tb_ext; intro i
    rw [clr_tb, Nat.zero_testBit]
    cases q : s.testBit i
    · rfl
    · rw [h i q]; rfl
theorem clr_le {s m : Nat} (h : clr s m = 0) : s ≤ m := by
  have : s &&& m = s := by
    apply tb_ext; intro i
    rw [Nat.testBit_and]
    cases q : s.testBit i
    · rfl
    · rw [clr_z.mp h i q]; rfl
  rw [← this]; exact Nat.and_le_right
theorem tb_big {x i : Nat} (hx : x < 256) (hi : 8 ≤ i) : x.testBit i = false := Nat.testBit_lt_two_pow (Nat.lt_of_lt_of_le hx (Nat.pow_le_pow_right (n := 2) (by decide) hi))
theorem pcF_sub {a b : Nat} (h : ∀ i, a.testBit i = true → b.testBit i = true) : ∀ k, pcF a k ≤ pcF b k ∧ (pcF a k = pcF b k → ∀ i, i < k → a.testBit i = b.testBit i)
  | 0 => ⟨Nat.le_refl _, fun _ i hi => absurd hi (Nat.not_lt_zero _)⟩
  | k + 1 => by
    have ih := pcF_sub h k
    have e1 : pcF a (k + 1) = pcF a k + if a.testBit k then 1 else 0 := rfl
    have e2 : pcF b (k + 1) = pcF b k + if b.testBit k then 1 else 0 := rfl
    rw [e1, e2]
    cases qa : a.testBit k with
    | true =>
      rw [h k qa]
      refine ⟨by simp; exact ih.1, fun he i hi => ?_⟩
      by_cases hik : i = k
      · rw [hik, qa, h k qa]
      · exact ih.2 (by simp at he; exact he) i (by omega)
    | false =>
      cases qb : b.testBit k with
      | true =>
        refine ⟨by simp; omega, fun he => ?_⟩
        simp at he
        omega
      | false =>
        refine ⟨by simp; exact ih.1, fun he i hi => ?_⟩
        by_cases hik : i = k
        · rw [hik, qa, qb]
        · exact ih.2 (by simp at he; exact he) i (by omega)
theorem pc8_sub {a b : Nat} (ha : a < 256) (hb : b < 256) (h : ∀ i, a.testBit i = true → b.testBit i = true) : pc8 a ≤ pc8 b ∧ (pc8 a = pc8 b → a = b) := by
  have := pcF_sub h 8
  rw [pcF_8 a ha, pcF_8 b hb] at this
  refine ⟨this.1, fun he => tb_ext (fun i => ?_)⟩
  by_cases hi : i < 8
  · exact this.2 he i hi
  · rw [tb_big ha (by omega), tb_big hb (by omega)]
/-- all whom those of the set s border -/
def nbO (S : Sh) (s : Nat) : Nat → Nat
  | 0 => 0
  | k + 1 => nbO S s k ||| if s.testBit k then nbm (sc S) k else 0
theorem nbO_lt {S : Sh} (hS : SOk S) (s : Nat) : ∀ k, nbO S s k < 256
  | 0 => (by decide : (0 : Nat) < 256)
  | k + 1 => by
    show nbO S s k ||| (if s.testBit k then nbm (sc S) k else 0) < 2 ^ 8
    refine Nat.or_lt_two_pow (nbO_lt hS s k) ?_
    split
    · exact nbm_lt8 hS k
    · decide
def stp (S : Sh) (w s : Nat) : Nat := s ||| clr (nbO S s (sn S)) w
def rch (S : Sh) (w : Nat) : Nat → Nat → Nat
  | 0, s => s
  | k + 1, s => rch S w k (stp S w s)
theorem rch_succ (S : Sh) (w : Nat) : ∀ (k s : Nat), rch S w (k + 1) s = stp S w (rch S w k s)
  | 0, _ => rfl
  | k + 1, s => by
    show rch S w (k + 1) (stp S w s) = stp S w (rch S w k (stp S w s))
    exact rch_succ S w k (stp S w s)
theorem stp_lt {S : Sh} (hS : SOk S) (w : Nat) {s : Nat} (hs : s < 256) : stp S w s < 256 := Nat.or_lt_two_pow (n := 8) hs (clr_lt (n := 8) (nbO_lt hS s _))
theorem rch_lt {S : Sh} (hS : SOk S) (w : Nat) : ∀ (k : Nat) {s : Nat}, s < 256 → rch S w k s < 256
  | 0, _, h => h
  | k + 1, _, h => rch_lt hS w k (stp_lt hS w h)
theorem stp_sub (S : Sh) (w s i : Nat) (h : s.testBit i = true) : (stp S w s).testBit i = true := by
  unfold stp; rw [Nat.testBit_or, h]; rfl
theorem grow8 {S : Sh} (hS : SOk S) {l : Nat} (hl : l < 8) : ∀ k, k + 1 ≤ pc8 (rch S 0 k (2 ^ l)) ∨ rch S 0 (k + 1) (2 ^ l) = rch S 0 k (2 ^ l)
  | 0 => by
    left
    have : ∀ l, l < 8 → 0 + 1 ≤ pc8 (2 ^ l) := by decide +kernel
    exact this l hl
  | k + 1 => by
    have hlt : ∀ j, rch S 0 j (2 ^ l) < 256 := fun j => rch_lt hS 0 j (Nat.pow_lt_pow_right (n := 8) (a := 2) (by decide) hl)
    have e := rch_succ S 0 k (2 ^ l)
    have e2 := rch_succ S 0 (k + 1) (2 ^ l)
    rcases grow8 hS hl k with h | h
    · by_cases hq : rch S 0 (k + 1) (2 ^ l) = rch S 0 k (2 ^ l)
      · right; rw [e2, hq, ← e, hq]
      · left
        have := pc8_sub (hlt k) (hlt (k + 1)) (fun i hi => by rw [e]; exact stp_sub S 0 _ i hi)
        have h3 : pc8 (rch S 0 k (2 ^ l)) ≠ pc8 (rch S 0 (k + 1) (2 ^ l)) := fun q => hq (this.2 q).symm
        omega
    · right; rw [e2, h, ← e, h]
theorem pc8_full : ∀ s, s < 256 → 8 ≤ pc8 s → s = 255 := by decide +kernel
theorem tb255 : ∀ o, o < 8 → (255 : Nat).testBit o = true := by decide
/-- seven steps reach all that eight do -/
theorem far7 {S : Sh} (hS : SOk S) {l o : Nat} (hl : l < 8) (ho : o < 8) (h : (rch S 0 7 (2 ^ l)).testBit o = false) : (rch S 0 8 (2 ^ l)).testBit o = false := by
  rcases grow8 hS hl 7 with q | q
  · have := pc8_full _ (rch_lt hS 0 7 (Nat.pow_lt_pow_right (n := 8) (a := 2) (by decide) hl)) q
    rw [this, tb255 o ho] at h; cases h
  · rw [q]; exact h
/-- those of whom none border: the most, the first by number -/
def hpS (S : Sh) (s : Nat) : Bool := decide (clr s (sb S) = 0) && decide (nbO S s (sn S) &&& s = 0)
def hmF (S : Sh) : Nat → Nat → Nat
  | 0, b => b
  | r + 1, b => hmF S r (if hpS S (256 - (r + 1)) = true ∧ pc8 b < pc8 (256 - (r + 1)) then 256 - (r + 1) else b)
theorem hmF_at {S : Sh} {r s b : Nat} (e : r + 1 + s = 256) : hmF S (r + 1) b = hmF S r (if hpS S s = true ∧ pc8 b < pc8 s then s else b) := by
  show hmF S r (if hpS S (256 - (r + 1)) = true ∧ pc8 b < pc8 (256 - (r + 1)) then 256 - (r + 1) else b) = _
  rw [show 256 - (r + 1) = s by omega]
theorem hmF_end {S : Sh} : ∀ (r b : Nat), r ≤ 256 → sb S < 256 - r → hmF S r b = b
  | 0, _, _, _ => rfl
  | r + 1, b, h1, h2 => by
    rw [hmF_at (s := 256 - (r + 1)) (by omega), if_neg, hmF_end r b (by omega) (by omega)]
    rintro ⟨h, -⟩
    unfold hpS at h
    rw [Bool.and_eq_true, decide_eq_true_iff] at h
    have := clr_le h.1
    omega
theorem nbO_and {S : Sh} (s x : Nat) : ∀ k, (nbO S s k &&& x = 0) ↔ ∀ p, p < k → s.testBit p = true → nbm (sc S) p &&& x = 0
  | 0 => ⟨fun _ p hp => absurd hp (Nat.not_lt_zero _), fun _ => Nat.zero_and x⟩
  | k + 1 => by
    have ih := nbO_and (S := S) s x k
    have e : nbO S s (k + 1) &&& x = (nbO S s k &&& x) ||| ((if s.testBit k then nbm (sc S) k else 0) &&& x) := by
      show (nbO S s k ||| (if s.testBit k then nbm (sc S) k else 0)) &&& x = _
      rw [Nat.and_or_distrib_right]
    rw [e, Nat.or_eq_zero_iff, ih]
    constructor
    · rintro ⟨h1, h2⟩ p hp hs
      by_cases hpk : p = k
      · subst hpk; rw [if_pos hs] at h2; exact h2
      · exact h1 p (by omega) hs
    · intro h
      refine ⟨fun p hp hs => h p (by omega) hs, ?_⟩
      by_cases hs : s.testBit k = true
      · rw [if_pos hs]; exact h k (by omega) hs
      · rw [if_neg hs]; exact Nat.zero_and x
/-! the fewest who part two: up by the class, down by the model -/
def rcd (S : Sh) (l o w : Nat) : Bool := (rch S w 8 (2 ^ l)).testBit o
def ctP (S : Sh) (l o may s : Nat) : Bool := decide (clr s may = 0) && !rcd S l o s
def ctC (S : Sh) (l o may : Nat) : Nat → Nat → Nat
  | 0, b => b
  | r + 1, b => ctC S l o may r (if ctP S l o may (256 - (r + 1)) = true ∧ pc8 (256 - (r + 1)) < pc8 b then 256 - (r + 1) else b)
theorem ctC_at {S : Sh} {l o may r s b : Nat} (e : r + 1 + s = 256) : ctC S l o may (r + 1) b = ctC S l o may r (if ctP S l o may s = true ∧ pc8 s < pc8 b then s else b) := by
  show ctC S l o may r (if ctP S l o may (256 - (r + 1)) = true ∧ pc8 (256 - (r + 1)) < pc8 b then 256 - (r + 1) else b) = _
  rw [show 256 - (r + 1) = s by omega]
def ctM (S : Sh) (l o may : Nat) : Nat → Nat → Nat
  | 0, b => b
  | s + 1, b => ctM S l o may s (if ctP S l o may s = true ∧ pc8 s ≤ pc8 b then s else b)
def lx (a b : Nat) : Prop := pc8 a < pc8 b ∨ (pc8 a = pc8 b ∧ a ≤ b)
def lxm (S : Sh) (l o may b : Nat) : Prop := b ≤ may ∧ lx b may ∧ (b = may ∨ ctP S l o may b = true) ∧ ∀ s, s < 256 → ctP S l o may s = true → lx b s
theorem ctP_sub {S : Sh} {l o may s : Nat} (h : ctP S l o may s = true) : clr s may = 0 := by
  unfold ctP at h
  rw [Bool.and_eq_true, decide_eq_true_iff] at h
  exact h.1
theorem ctC_min {S : Sh} {l o may : Nat} (hm : may < 256) : ∀ (r s b : Nat), r + s = 256 → b ≤ may → lx b may → (b = may ∨ (ctP S l o may b = true ∧ b < s)) → (∀ u, u < s → ctP S l o may u = true → lx b u) → lxm S l o may (ctC S l o may r b)
  | 0, s, b, hs, h1, h2, h3, h4 => ⟨h1, h2, by rcases h3 with h | h; exact Or.inl h; exact Or.inr h.1, fun u hu => h4 u (by omega)⟩
  | r + 1, s, b, hs, h1, h2, h3, h4 => by
    rw [ctC_at (show r + 1 + s = 256 by omega)]
    by_cases hc : ctP S l o may s = true ∧ pc8 s < pc8 b
    · rw [if_pos hc]
      refine ctC_min hm r (s + 1) s (by omega) (clr_le (ctP_sub hc.1)) ?_ (Or.inr ⟨hc.1, by omega⟩) (fun u hu hPu => ?_)
      · left; rcases h2 with h2 | h2 <;> omega
      · by_cases hus : u = s
        · right; rw [hus]; exact ⟨rfl, Nat.le_refl _⟩
        · left
          rcases h4 u (by omega) hPu with h | h <;> omega
    · rw [if_neg hc]
      refine ctC_min hm r (s + 1) b (by omega) h1 h2 (by rcases h3 with h | h; exact Or.inl h; exact Or.inr ⟨h.1, by omega⟩) (fun u hu hPu => ?_)
      by_cases hus : u = s
      · subst hus
        have hge : pc8 b ≤ pc8 u := by
          by_cases q : pc8 u < pc8 b
          · exact absurd ⟨hPu, q⟩ hc
          · omega
        by_cases hlt : pc8 b < pc8 u
        · left; exact hlt
        · right
          refine ⟨by omega, ?_⟩
          rcases h3 with h | h
          · subst h
            have hsub := ctP_sub hPu
            have := (pc8_sub (by have := clr_le hsub; omega) hm (clr_z.mp hsub)).2 (by omega)
            omega
          · omega
      · exact h4 u (by omega) hPu
theorem ctM_min {S : Sh} {l o may : Nat} (hm : may < 256) : ∀ (k b : Nat), k ≤ may + 1 → b ≤ may → k ≤ b + (if k = may + 1 then 1 else 0) → lx b may → (b = may ∨ ctP S l o may b = true) → (∀ u, k ≤ u → u < 256 → ctP S l o may u = true → lx b u) → lxm S l o may (ctM S l o may k b)
  | 0, b, _, h1, _, h2, h3, h4 => ⟨h1, h2, h3, fun u hu => h4 u (by omega) hu⟩
  | s + 1, b, hk, h1, hkb, h2, h3, h4 => by
    show lxm S l o may (ctM S l o may s (if ctP S l o may s = true ∧ pc8 s ≤ pc8 b then s else b))
    have hsb : s ≤ b := by
      by_cases q : s + 1 = may + 1
      · rw [if_pos q] at hkb; omega
      · rw [if_neg q] at hkb; omega
    by_cases hc : ctP S l o may s = true ∧ pc8 s ≤ pc8 b
    · rw [if_pos hc]
      refine ctM_min hm s s (by omega) (by omega) (by rw [if_neg (by omega)]; omega) ?_ (Or.inr hc.1) (fun u hu hu2 hPu => ?_)
      · rcases h2 with h | h
        · left; omega
        · by_cases q : pc8 s < pc8 may
          · left; exact q
          · right; omega
      · by_cases hus : u = s
        · right; rw [hus]; exact ⟨rfl, Nat.le_refl _⟩
        · rcases h4 u (by omega) hu2 hPu with h | h
          · left; omega
          · by_cases q : pc8 s < pc8 u
            · left; exact q
            · right; omega
    · rw [if_neg hc]
      refine ctM_min hm s b (by omega) h1 (by rw [if_neg (by omega)]; omega) h2 h3 (fun u hu hu2 hPu => ?_)
      by_cases hus : u = s
      · subst hus
        left
        by_cases q : pc8 u ≤ pc8 b
        · exact absurd ⟨hPu, q⟩ hc
        · omega
      · exact h4 u (by omega) hu2 hPu
theorem lx_anti {a b : Nat} (h1 : lx a b) (h2 : lx b a) : a = b := by
  rcases h1 with h1 | h1 <;> rcases h2 with h2 | h2 <;> omega
theorem ct_same {S : Sh} {l o may : Nat} (hm : may < 256) : ctM S l o may (may + 1) may = ctC S l o may 256 may := by
  have hr : lx may may := Or.inr ⟨rfl, Nat.le_refl _⟩
  have h1 := ctC_min (S := S) (l := l) (o := o) hm 256 0 may rfl (Nat.le_refl _) hr (Or.inl rfl) (fun u hu => absurd hu (Nat.not_lt_zero _))
  have h2 := ctM_min (S := S) (l := l) (o := o) hm (may + 1) may (Nat.le_refl _) (Nat.le_refl _) (by rw [if_pos rfl]; omega) hr (Or.inl rfl) (fun u hu hu2 hPu => by have := clr_le (ctP_sub hPu); omega)
  apply lx_anti
  · rcases h1.2.2.1 with h | h
    · rw [h]; exact h2.2.1
    · exact h2.2.2.2 _ (by have := h1.1; omega) h
  · rcases h2.2.2.1 with h | h
    · rw [h]; exact h1.2.1
    · exact h1.2.2.2 _ (by have := h2.1; omega) h
