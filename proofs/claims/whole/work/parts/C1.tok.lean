/-! tokens, as numbers: T the text's bytes, L how many -/
def lB (b : Nat) : Bool := decide (97 ≤ b ∧ b ≤ 122)
def dB (b : Nat) : Bool := decide (48 ≤ b ∧ b ≤ 57)
def wB (b : Nat) : Bool := decide (b = 32 ∨ b = 10)
def sgB (b : Nat) : Bool := [59, 40, 41, 60, 61, 62, 43, 45, 42, 47, 37].contains b
def ep (p : Nat → Bool) (T : Nat → Nat) : Nat → Nat → Nat
  | 0, a => a
  | f + 1, a => if p (T a) = true then ep p T f (a + 1) else a
/-- behind the run of bytes with p that begins at a -/
def en (p : Nat → Bool) (T : Nat → Nat) (L a : Nat) : Nat := ep p T (L - a) a
theorem en_stop {p : Nat → Bool} {T : Nat → Nat} {L a : Nat} (h : ¬ (a < L ∧ p (T a) = true)) : en p T L a = a := by
  unfold en
  cases hf : L - a with
  | zero => rfl
  | succ f =>
    show (if p (T a) = true then ep p T f (a + 1) else a) = a
    rw [if_neg (fun q => h ⟨by omega, q⟩)]
theorem en_go {p : Nat → Bool} {T : Nat → Nat} {L a : Nat} (ha : a < L) (h : p (T a) = true) : en p T L a = en p T L (a + 1) := by
  unfold en
  have e : L - a = (L - (a + 1)) + 1 := by omega
  rw [e]
  show (if p (T a) = true then ep p T (L - (a + 1)) (a + 1) else a) = _
  rw [if_pos h]
theorem ep_ge {p : Nat → Bool} {T : Nat → Nat} : ∀ (f a : Nat), a ≤ ep p T f a ∧ ep p T f a ≤ a + f
  | 0, a => ⟨Nat.le_refl _, Nat.le_refl _⟩
  | f + 1, a => by
    have := ep_ge (p := p) (T := T) f (a + 1)
    unfold ep
    split
    · omega
    · omega
theorem en_ge {p : Nat → Bool} {T : Nat → Nat} {L a : Nat} : a ≤ en p T L a := (ep_ge _ _).1
theorem en_le {p : Nat → Bool} {T : Nat → Nat} {L a : Nat} (h : a ≤ L) : en p T L a ≤ L := by
  have := (ep_ge (p := p) (T := T) (L - a) a).2
  unfold en; omega
theorem ep_in {p : Nat → Bool} {T : Nat → Nat} : ∀ (f a i : Nat), a ≤ i → i < ep p T f a → p (T i) = true
  | 0, a, i, h1, h2 => by have h2 : i < a := h2; omega
  | f + 1, a, i, h1, h2 => by
    unfold ep at h2
    split at h2
    · rename_i hp
      by_cases hi : i = a
      · rw [hi]; exact hp
      · exact ep_in f (a + 1) i (by omega) h2
    · omega
theorem en_in {p : Nat → Bool} {T : Nat → Nat} {L a i : Nat} (h1 : a ≤ i) (h2 : i < en p T L a) : p (T i) = true := ep_in _ _ _ h1 h2
/-- the n letters from s on, the last one first -/
def wd (T : Nat → Nat) (s : Nat) : Nat → List Nat
  | 0 => []
  | n + 1 => T (s + n) :: wd T s n
def vR (B : Nat) (g : Nat → Nat) : List Nat → Nat
  | [] => 0
  | c :: l => vR B g l * B + g c
theorem vR_lt {B : Nat} {g : Nat → Nat} (hB : 0 < B) : ∀ (l : List Nat), (∀ c ∈ l, g c < B) → vR B g l < B ^ l.length
  | [], _ => by show 0 < B ^ 0; simp
  | c :: l, h => by
    have h1 := vR_lt hB l (fun x hx => h x (List.mem_cons_of_mem _ hx))
    have h2 := h c List.mem_cons_self
    show vR B g l * B + g c < B ^ (l.length + 1)
    rw [Nat.pow_succ]
    have h3 : (vR B g l + 1) * B ≤ B ^ l.length * B := Nat.mul_le_mul_right B h1
    rw [Nat.add_mul] at h3
    omega
theorem vR_inj {B : Nat} {g : Nat → Nat} (P : Nat → Prop) (hg : ∀ c, P c → 0 < g c ∧ g c < B) (hi : ∀ c c', P c → P c' → g c = g c' → c = c') : ∀ (l l' : List Nat), (∀ c ∈ l, P c) → (∀ c ∈ l', P c) → vR B g l = vR B g l' → l = l'
  | [], [], _, _, _ => rfl
  | [], c :: l, _, h, e => by
    have := (hg c (h c List.mem_cons_self)).1
    have e : 0 = vR B g l * B + g c := e
    omega
  | c :: l, [], h, _, e => by
    have := (hg c (h c List.mem_cons_self)).1
    have e : vR B g l * B + g c = 0 := e
    omega
  | c :: l, c' :: l', h, h', e => by
    have q := hg c (h c List.mem_cons_self)
    have q' := hg c' (h' c' List.mem_cons_self)
    have e : vR B g l * B + g c = vR B g l' * B + g c' := e
    have e1 : g c = g c' := by
      have a1 : (vR B g l * B + g c) % B = g c := by rw [Nat.mul_comm, Nat.mul_add_mod, Nat.mod_eq_of_lt q.2]
      have a2 : (vR B g l' * B + g c') % B = g c' := by rw [Nat.mul_comm, Nat.mul_add_mod, Nat.mod_eq_of_lt q'.2]
      rw [← a1, e, a2]
    have e2 : vR B g l = vR B g l' := by
      have hB : 0 < B := by omega
      have a0 : vR B g l * B = vR B g l' * B := by omega
      exact Nat.eq_of_mul_eq_mul_right hB a0
    rw [hi c c' (h c List.mem_cons_self) (h' c' List.mem_cons_self) e1, vR_inj P hg hi l l' (fun x hx => h x (List.mem_cons_of_mem _ hx)) (fun x hx => h' x (List.mem_cons_of_mem _ hx)) e2]
def LpC (c : Nat) : Prop := 97 ≤ c ∧ c ≤ 122
theorem lB_iff {c : Nat} : lB c = true ↔ LpC c := by unfold lB LpC; exact decide_eq_true_iff
def v32 (l : List Nat) : Nat := vR 32 (fun c => c - 96) l
def v256 (l : List Nat) : Nat := vR 256 (fun c => c) l
def v10 (l : List Nat) : Nat := vR 10 (fun c => c - 48) l
def WO (l : List Nat) : Prop := (∀ c ∈ l, LpC c) ∧ l.length ≤ 8
theorem v32_inj {l l' : List Nat} (h : WO l) (h' : WO l') (e : v32 l = v32 l') : l = l' :=
  vR_inj LpC (fun c hc => ⟨by have := hc.1; omega, by have := hc.2; omega⟩) (fun c c' h h' e => by have := h.1; have := h'.1; omega) l l' h.1 h'.1 e
theorem v256_inj {l l' : List Nat} (h : WO l) (h' : WO l') (e : v256 l = v256 l') : l = l' :=
  vR_inj LpC (fun c hc => ⟨by have := hc.1; omega, by have := hc.2; omega⟩) (fun c c' h h' e => e) l l' h.1 h'.1 e
theorem v32_lt {l : List Nat} (h : WO l) : v32 l < 2 ^ 64 := by
  have h1 := vR_lt (B := 32) (g := fun c => c - 96) (by decide) l (fun c hc => by have := (h.1 c hc).2; show c - 96 < 32; omega)
  have h2 : 32 ^ l.length ≤ 32 ^ 8 := Nat.pow_le_pow_right (by decide) h.2
  have h3 : (32 : Nat) ^ 8 < 2 ^ 64 := by decide
  unfold v32; omega
theorem v256_lt {l : List Nat} (h : WO l) : v256 l < 2 ^ 64 := by
  have h1 := vR_lt (B := 256) (g := fun c => c) (by decide) l (fun c hc => by have := (h.1 c hc).2; show c < 256; omega)
  have h2 : 256 ^ l.length ≤ 256 ^ 8 := Nat.pow_le_pow_right (by decide) h.2
  have h3 : (256 : Nat) ^ 8 = 2 ^ 64 := by decide
  unfold v256; omega
theorem lN_nat (n : Nat) : (lN n).toBitVec.toNat = n % 2 ^ 64 := by
  show (BitVec.ofNat 64 n).toNat = _
  rw [BitVec.toNat_ofNat]
theorem lN_inj {a b : Nat} (ha : a < 2 ^ 64) (hb : b < 2 ^ 64) (h : lN a = lN b) : a = b := by
  have := congrArg (fun x : Int64 => x.toBitVec.toNat) h
  simp only [lN_nat] at this
  rwa [Nat.mod_eq_of_lt ha, Nat.mod_eq_of_lt hb] at this
theorem n32_eq {l l' : List Nat} (h : WO l) (h' : WO l') : lN (v32 l) = lN (v32 l') ↔ l = l' :=
  ⟨fun e => v32_inj h h' (lN_inj (v32_lt h) (v32_lt h') e), fun e => by rw [e]⟩
theorem n256_eq {l l' : List Nat} (h : WO l) (h' : WO l') : lN (v256 l) = lN (v256 l') ↔ l = l' :=
  ⟨fun e => v256_inj h h' (lN_inj (v256_lt h) (v256_lt h') e), fun e => by rw [e]⟩
/-! the fourteen words -/
def wdB (k : Nat) : Nat := nx ((bytS.getD 1 []).getD k 0)
def wdL (w : Nat) : Nat := [4, 4, 5, 5, 4, 4, 2, 2, 3, 3, 5, 4, 5, 6].getD w 0
def own (w : Nat) : List Nat := wd (fun i => wdB (8 * w + i)) 0 (wdL w)
theorem own_tab : ((List.range 14).all fun w => decide (wdL w ≤ 8) && (List.range 8).all fun i => decide ((bytS.getD 1 []).getD (8 * w + i) 0 = nI (wdB (8 * w + i))) && (if i < wdL w then decide (97 ≤ wdB (8 * w + i) ∧ wdB (8 * w + i) ≤ 122) else decide (wdB (8 * w + i) = 32))) = true := by decide +kernel
theorem own_at {w i : Nat} (hw : w < 14) (hi : i < 8) : wdL w ≤ 8 ∧ (bytS.getD 1 []).getD (8 * w + i) 0 = nI (wdB (8 * w + i)) ∧ (i < wdL w → LpC (wdB (8 * w + i))) ∧ (¬ i < wdL w → wdB (8 * w + i) = 32) := by
  have h := List.all_eq_true.mp own_tab w (List.mem_range.mpr hw)
  rw [Bool.and_eq_true] at h
  have h2 := List.all_eq_true.mp h.2 i (List.mem_range.mpr hi)
  rw [Bool.and_eq_true] at h2
  refine ⟨of_decide_eq_true h.1, of_decide_eq_true h2.1, fun q => ?_, fun q => ?_⟩
  · have h3 := h2.2; rw [if_pos q] at h3; exact (decide_eq_true_iff.mp h3 : 97 ≤ wdB (8 * w + i) ∧ wdB (8 * w + i) ≤ 122)
  · have h3 := h2.2; rw [if_neg q] at h3; exact of_decide_eq_true h3
theorem wd_len (T : Nat → Nat) (s : Nat) : ∀ n, (wd T s n).length = n
  | 0 => rfl
  | n + 1 => by show (wd T s n).length + 1 = n + 1; rw [wd_len T s n]
theorem wd_mem {T : Nat → Nat} {s c : Nat} : ∀ {n : Nat}, c ∈ wd T s n → ∃ i, i < n ∧ c = T (s + i)
  | 0, h => by cases h
  | n + 1, h => by
    rcases List.mem_cons.mp h with h | h
    · exact ⟨n, by omega, h⟩
    · obtain ⟨i, h1, h2⟩ := wd_mem h; exact ⟨i, by omega, h2⟩
theorem wd_congr {T U : Nat → Nat} {s t : Nat} : ∀ (n : Nat), (∀ i, i < n → T (s + i) = U (t + i)) → wd T s n = wd U t n
  | 0, _ => rfl
  | n + 1, h => by show T (s + n) :: wd T s n = U (t + n) :: wd U t n; rw [h n (by omega), wd_congr n (fun i hi => h i (by omega))]
theorem wd_cong {T U : Nat → Nat} {s t : Nat} : ∀ (n : Nat), wd T s n = wd U t n → ∀ i, i < n → T (s + i) = U (t + i)
  | 0, _, i, hi => absurd hi (Nat.not_lt_zero _)
  | n + 1, h, i, hi => by
    have h : T (s + n) :: wd T s n = U (t + n) :: wd U t n := h
    have h1 := List.cons.inj h
    by_cases hin : i = n
    · rw [hin]; exact h1.1
    · exact wd_cong n h1.2 i (by omega)
theorem own_ok {w : Nat} (hw : w < 14) : WO (own w) := by
  have h := own_at hw (i := 0) (by omega)
  refine ⟨fun c hc => ?_, by unfold own; rw [wd_len]; exact h.1⟩
  obtain ⟨i, hi, e⟩ := wd_mem hc
  rw [e, Nat.zero_add]
  exact (own_at hw (by omega)).2.2.1 hi
theorem own_inj : ∀ w, w < 14 → ∀ v, v < 14 → own w = own v → w = v := by decide +kernel
/-- spelled as the class does: eight places, with blanks behind it -/
theorem spell_iff {T : Nat → Nat} {s n w : Nat} (hw : w < 14) (hn : n ≤ 8) (hl : ∀ i, i < n → LpC (T (s + i))) : (∀ i, i < 8 → (if i < n then T (s + i) else 32) = wdB (8 * w + i)) ↔ wd T s n = own w := by
  have h8 := (own_at hw (i := 0) (by omega)).1
  constructor
  · intro h
    have hnm : n = wdL w := by
      rcases Nat.lt_trichotomy n (wdL w) with q | q | q
      · have h1 := h n (by omega)
        rw [if_neg (by omega)] at h1
        have h2 := ((own_at hw (i := n) (by omega)).2.2.1 q).1
        omega
      · exact q
      · have h1 := h (wdL w) (by omega)
        rw [if_pos q, (own_at hw (i := wdL w) (by omega)).2.2.2 (by omega)] at h1
        have := (hl _ q).1
        omega
    unfold own
    rw [← hnm]
    refine wd_congr n (fun i hi => ?_)
    have h1 := h i (by omega)
    rw [if_pos hi] at h1
    rw [h1, Nat.zero_add]
  · intro h i hi
    have hnm : n = wdL w := by
      have := congrArg List.length h
      unfold own at this
      rwa [wd_len, wd_len] at this
    unfold own at h
    rw [← hnm] at h
    by_cases hin : i < n
    · rw [if_pos hin, wd_cong n h i hin, Nat.zero_add]
    · rw [if_neg hin, (own_at hw hi).2.2.2 (by omega)]
def owF (l : List Nat) : Nat → Int32
  | 0 => -1
  | k + 1 => if l = own k then nI k else owF l k
theorem owF_none {l : List Nat} : ∀ k, (∀ w, w < k → l ≠ own w) → owF l k = -1
  | 0, _ => rfl
  | k + 1, h => by show (if l = own k then nI k else owF l k) = -1; rw [if_neg (h k (by omega))]; exact owF_none k (fun w hw => h w (by omega))
theorem owF_some {w : Nat} : ∀ k, k ≤ 14 → w < k → owF (own w) k = nI w
  | 0, _, h => absurd h (Nat.not_lt_zero _)
  | k + 1, hk, h => by
    show (if own w = own k then nI k else owF (own w) k) = nI w
    by_cases q : own w = own k
    · rw [if_pos q, own_inj w (by omega) k (by omega) q]
    · rw [if_neg q]
      exact owF_some k (by omega) (by rcases Nat.lt_or_ge w k with z | z; exact z; exact absurd (by rw [show w = k by omega]) q)
theorem owF_cases (l : List Nat) : (∃ w, w < 14 ∧ l = own w ∧ owF l 14 = nI w) ∨ ((∀ w, w < 14 → l ≠ own w) ∧ owF l 14 = -1) := by
  by_cases h : ∃ w, w < 14 ∧ l = own w
  · obtain ⟨w, hw, e⟩ := h
    exact Or.inl ⟨w, hw, e, by rw [e]; exact owF_some 14 (by omega) hw⟩
  · have h : ∀ w, w < 14 → l ≠ own w := fun w hw e => h ⟨w, hw, e⟩
    exact Or.inr ⟨h, owF_none 14 h⟩
/-! the token whose reading begins at a -/
def tS (T : Nat → Nat) (L a : Nat) : Nat := en wB T L a
def tK (T : Nat → Nat) (L a : Nat) : Nat :=
  if L ≤ tS T L a then 0
  else if lB (T (tS T L a)) = true then (if en lB T L (tS T L a) - tS T L a ≤ 8 then 1 else 3)
  else if dB (T (tS T L a)) = true then (if 4 < en dB T L (tS T L a) - tS T L a ∨ (en dB T L (tS T L a) < L ∧ lB (T (en dB T L (tS T L a))) = true) then 3 else 2)
  else if sgB (T (tS T L a)) = true then T (tS T L a) else 3
def tE (T : Nat → Nat) (L a : Nat) : Nat :=
  if L ≤ tS T L a then tS T L a
  else if lB (T (tS T L a)) = true then en lB T L (tS T L a)
  else if dB (T (tS T L a)) = true then en dB T L (tS T L a)
  else tS T L a + 1
def tW (T : Nat → Nat) (L a : Nat) : List Nat := wd T (tS T L a) (en lB T L (tS T L a) - tS T L a)
def tN (T : Nat → Nat) (L a : Nat) : Nat := v10 (wd T (tS T L a) (en dB T L (tS T L a) - tS T L a))
theorem tS_ge {T : Nat → Nat} {L a : Nat} : a ≤ tS T L a := en_ge
theorem tS_le {T : Nat → Nat} {L a : Nat} (h : a ≤ L) : tS T L a ≤ L := en_le h
theorem tE_le {T : Nat → Nat} {L a : Nat} (h : a ≤ L) : tE T L a ≤ L := by
  have := tS_le (T := T) h
  unfold tE
  split
  · exact this
  · split
    · exact en_le this
    · split
      · exact en_le this
      · omega
/-- a token that isn't the end takes a byte at least -/
theorem tE_gt {T : Nat → Nat} {L a : Nat} (h : tK T L a ≠ 0) : a < tE T L a := by
  have := tS_ge (T := T) (L := L) (a := a)
  unfold tK at h
  unfold tE
  split
  · rename_i q; rw [if_pos q] at h; exact absurd rfl h
  · rename_i q
    split
    · rename_i q2
      rw [en_go (by omega) q2]
      have := en_ge (p := lB) (T := T) (L := L) (a := tS T L a + 1)
      omega
    · split
      · rename_i q2
        rw [en_go (by omega) q2]
        have := en_ge (p := dB) (T := T) (L := L) (a := tS T L a + 1)
        omega
      · omega
theorem sgB_tab : ((List.range 256).all fun b => !sgB b || decide (37 ≤ b ∧ b ≤ 62)) = true := by decide +kernel
theorem sgB_lt {b : Nat} (h : sgB b = true) : 37 ≤ b ∧ b ≤ 62 := by
  unfold sgB at h
  have h := List.contains_iff_mem.mp h
  simp only [List.mem_cons, List.not_mem_nil, or_false] at h
  omega
theorem tW_ok {T : Nat → Nat} {L a : Nat} (h : tK T L a = 1) : WO (tW T L a) := by
  have h8 : en lB T L (tS T L a) - tS T L a ≤ 8 := by
    unfold tK at h
    split at h
    · cases h
    · split at h
      · split at h
        · assumption
        · cases h
      · split at h
        · split at h <;> cases h
        · split at h
          · rename_i q; have := sgB_lt q; omega
          · cases h
  refine ⟨fun c hc => ?_, by unfold tW; rw [wd_len]; exact h8⟩
  obtain ⟨i, hi, e⟩ := wd_mem hc
  rw [e]
  exact lB_iff.mp (en_in (L := L) (a := tS T L a) (by omega) (by omega))
