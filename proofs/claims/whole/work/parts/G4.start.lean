/-! the memory as the makings leave it, and the world that it tells -/
def valI : Value → Int32
  | .int x => x
  | .ref k => Int32.ofNat k
  | _ => 0
def mI (k j : Nat) : Int32 := if (kd k).1 = 0 then valI (pmE k j) else 0
def M0 (xs : Nat → Int32) (L : Nat) : Mem := (fun k j => if k = 100 then xs j else if k = 101 then nI L else mI k j, fun _ _ => 0)
theorem M0_ri {xs : Nat → Int32} {L k j : Nat} (h : k < 100) : ri (M0 xs L) k j = mI k j := by
  show (if k = 100 then xs j else if k = 101 then nI L else mI k j) = _
  rw [if_neg (by omega), if_neg (by omega)]
theorem mI_arr {k j : Nat} (h : (kd k).1 ≠ 0) : mI k j = 0 := if_neg h
def fvE (k j : Nat) : Value := match fk (kd k).2 j with
  | 1 => .long 0
  | 2 => .ref (rfo k j)
  | 3 => .ref (mI k j).toNatClampNeg
  | _ => .int (mI k j)
theorem pmE_ok : ∀ k, k < 88 → (kd k).1 = 0 → ∀ j, j < nf (kd k).2 → pmE k j = fvE k j := by decide +kernel
theorem ent_M0 {ad : Nat → Nat} {cA : Nat → ClassId} {xs : Nat → Int32} {L k : Nat} (hk : k < 88) : entC ad cA pmE k = ent ad cA (M0 xs L) k := by
  have hr : ∀ j, ri (M0 xs L) k j = mI k j := fun j => M0_ri (by omega)
  rcases Nat.eq_zero_or_pos (kd k).1 with h | h
  · have hc : kd k = (0, (kd k).2) := by rw [← h]
    rw [entC_obj hc, ent_obj hc]
    congr 2
    refine List.map_congr_left (fun j hj => ?_)
    rw [pmE_ok k hk h j (List.mem_range.mp hj)]
    congr 1
    unfold fvE fva
    simp only [hr]
    generalize fk (kd k).2 j = z
    rcases z with _ | _ | _ | _ | z <;> rfl
  · have e : entC ad cA pmE k = ent ad cA M00 k := by
      unfold entC
      split
      · rename_i c q; rw [q] at h; exact absurd h (Nat.lt_irrefl 0)
      · rfl
    rw [e]
    refine ent_of_fva ?_ rfl
    funext j
    rw [hr, mI_arr (by omega)]
    rfl
theorem ws_M0 {ad : Nat → Nat} {cA : Nat → ClassId} {xs : Nat → Int32} {L : Nat} : wsC ad cA 88 pmE = wsM ad cA (M0 xs L) :=
  List.map_congr_left (fun k hk => by rw [ent_M0 (List.mem_range.mp hk)])
def w0 : Wo := (([], 0, 0), (S0, S0), ([], []), (fun _ => none), (0, fun _ => (0, 0, false, 0, 0)), (0, fun _ => 0), [], (0, 0, -1))
theorem GK_0 : GK 0 S0 := ⟨GS_0, rfl, 0, by decide, rfl⟩
theorem WP_0 : WP w0 := by
  refine ⟨⟨GS_0, GS_0, rfl, ⟨fun q i hi => absurd hi (Nat.not_lt_zero _), fun q h => absurd rfl h⟩, by decide⟩, GK_0, ⟨by decide, fun T hT => ?_⟩, fun b T h => (by cases h), fun j hj => absurd hj (Nat.not_lt_zero _), ⟨by decide, fun i hi => absurd hi (Nat.not_lt_zero _)⟩, ⟨⟨by decide, fun i hi => absurd hi (Nat.not_lt_zero _)⟩, 0, by decide, rfl⟩, by decide⟩
  rcases hT with h | h <;> cases h
section Start
variable {xs : Nat → Int32} {L : Nat}
theorem mz {k j : Nat} {x : Int32} (hk : k < 100) (h : mI k j = x) : ri (M0 xs L) k j = x := (M0_ri hk).trans h
theorem mzr {k j : Nat} {x : Int32} (hk : k < 100) (h : (kd k).1 ≠ 0) (hx : x = 0) : ri (M0 xs L) k j = x := ((M0_ri hk).trans (mI_arr h)).trans hx.symm
theorem nb0 : ∀ p, p < 8 → nI (nbm [] p) = 0 ∧ nI (dgm [] p) = 0 := by decide +kernel
theorem fr0 {o : Nat} (ho : o + 4 < 100) (h : mI o 0 = 0 ∧ mI o 1 = 0 ∧ mI o 2 = 0 ∧ mI o 3 = 0 ∧ mI o 4 = 0) (h1 : (kd (o + 1)).1 ≠ 0) (h3 : (kd (o + 3)).1 ≠ 0) (h4 : (kd (o + 4)).1 ≠ 0) : Fr (M0 xs L) o S0 :=
  ⟨⟨mz (by omega) h.1, mz (by omega) h.2.1, mz (by omega) h.2.2.1, mz (by omega) h.2.2.2.1, mz (by omega) h.2.2.2.2, fun j _ => mzr (by omega) h1 rfl, fun i hi => absurd hi (Nat.not_lt_zero _)⟩, ⟨fun p hp => mzr (by omega) h3 (nb0 p hp).1, fun p hp => mzr (by omega) h4 (nb0 p hp).2⟩, S0_ok⟩
theorem ar0 {a : Nat} (ha : a < 100) (h : (kd a).1 ≠ 0) : Ar (M0 xs L) a S0 :=
  ⟨fun i hi => absurd hi (Nat.not_lt_zero _), mzr ha h rfl, mzr ha h rfl, fun _ _ => mzr ha h rfl, mzr ha h rfl, mzr ha h rfl⟩
theorem rw0 {a f : Nat} (ha : a < 100) (h : (kd a).1 ≠ 0) : Rw (M0 xs L) a f S0 :=
  ⟨mzr ha h rfl, mzr ha h rfl, mzr ha h rfl, mzr ha h rfl, fun _ _ => mzr ha h rfl, fun i hi => absurd hi (Nat.not_lt_zero _)⟩
theorem WX_0 : WX (M0 xs L) w0 := by
  refine ⟨15, 2, Or.inr ⟨rfl, rfl⟩, ⟨?_, Or.inr rfl, ⟨by decide, mz (by omega) (by decide +kernel), fun i hi => absurd hi (Nat.not_lt_zero _), fun x hx => (by cases hx)⟩, mz (by omega) (by decide +kernel), fr0 (by omega) (by decide +kernel) (by decide +kernel) (by decide +kernel) (by decide +kernel), fr0 (by omega) (by decide +kernel) (by decide +kernel) (by decide +kernel) (by decide +kernel)⟩, ?_, mz (by omega) (by decide +kernel), ⟨0, by decide, mz (by omega) (by decide +kernel), mz (by omega) (by decide +kernel), mz (by omega) (by decide +kernel), rw0 (by omega) (by decide +kernel), fun i hi => absurd hi (Nat.not_lt_zero _), fun i hi => absurd hi (Nat.not_lt_zero _)⟩, ⟨0, by decide, mz (by omega) (by decide +kernel), fun b hb => ⟨Nat.zero_testBit b, fun T h => (by cases h)⟩⟩, ⟨mz (by omega) (by decide +kernel), fun i hi => absurd hi (Nat.not_lt_zero _)⟩, Or.inl (mz (by omega) (by decide +kernel)), ⟨mz (by omega) (by decide +kernel), fun i hi => absurd hi (Nat.not_lt_zero _)⟩, ⟨mz (by omega) (by decide +kernel), fun i hi => absurd hi (Nat.not_lt_zero _)⟩, mz (by omega) (by decide +kernel), mz (by omega) (by decide +kernel), mz (by omega) (by decide +kernel)⟩
  · rw [mz (x := 15) (by omega) (by decide +kernel)]; decide
  · rw [mz (x := 2) (by omega) (by decide +kernel)]; decide
theorem WM_0 : WM (M0 xs L) w0 := by
  refine ⟨⟨ar0 (by omega) (by decide +kernel), ar0 (by omega) (by decide +kernel), ⟨mz (by omega) (by decide +kernel), mz (by omega) (by decide +kernel), by decide, fun x hx => (by cases hx), fun i hi => absurd hi (Nat.not_lt_zero _)⟩, mz (by omega) (by decide +kernel), mz (by omega) (by decide +kernel)⟩, mz (by omega) (by decide +kernel), ⟨mz (by omega) (by decide +kernel), mz (by omega) (by decide +kernel), fun i hi => absurd hi (Nat.not_lt_zero _), fun i hi => absurd hi (Nat.not_lt_zero _)⟩, fun b hb => ⟨mzr (by omega) (by decide +kernel) rfl, fun T h => (by cases h)⟩, ⟨mz (by omega) (by decide +kernel), fun i hi => absurd hi (Nat.not_lt_zero _)⟩, ⟨mz (by omega) (by decide +kernel), fun i hi => absurd hi (Nat.not_lt_zero _)⟩, ⟨mz (by omega) (by decide +kernel), fun i hi => absurd hi (Nat.not_lt_zero _)⟩, mz (by omega) (by decide +kernel), mz (by omega) (by decide +kernel), mz (by omega) (by decide +kernel)⟩
end Start
