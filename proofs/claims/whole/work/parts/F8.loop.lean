/-! the arms of the law, and its loop -/
theorem FX.sc {M M' : Mem} (h : FX M M') (j : Nat) : ri M' SC j = ri M SC j := h SC j (by decide) rfl (fun q => absurd q.1 (by decide))
theorem FX.len {M M' : Mem} (h : FX M M') : sl M' = sl M := by show (ri M' 101 0).toNatClampNeg = _; rw [h 101 0 (by decide) rfl (by decide)]; rfl
theorem FZ.sc {M M' : Mem} (h : FZ M M') (j : Nat) : ri M' SC j = ri M SC j := h SC j (by decide) rfl
theorem FZ.len {M M' : Mem} (h : FZ M M') : sl M' = sl M := by show (ri M' 101 0).toNatClampNeg = _; rw [h 101 0 (by decide) rfl]; rfl
/-- the loop goes on -/
def LN (K : Int32 → Mem → Prop) (i : Nat) (M : Mem) : Prop := ∀ M' w', WP w' → WX M' w' → WM M' w' → sl M' = sl M → RI 114 μL_law 18 [(0, .ref SC), (1, .ref 0), (2, .ref 58), (3, .int (nI i + 6))] [] M' K
theorem law_in {i k : Nat} {M : Mem} (hi : i + 6 ≤ sl M) (hL : sl M ≤ 384) (hk : k < 6) : vp_in (nI i + nI k) (sl M) := by rw [nI_add]; exact n_in (by omega) (by omega)
section Arms
variable {i : Nat} {M : Mem} {K : Int32 → Mem → Prop} {w : Wo}
theorem arm_feed (hi : i + 6 ≤ sl M) (hL : sl M ≤ 384) (hw : WP w) (hX : WX M w) (hM : WM M w) (go : LN K i M) : RI 114 μL_law 228 [(0, .ref SC), (1, .ref 0), (2, .ref 58), (3, .int (nI i))] [] M K := by
  refine sg_L_law_228 (d := 113) ⟨law_in (k := 1) hi hL (by omega), law_in (k := 2) hi hL (by omega), law_in (k := 3) hi hL (by omega), law_in (k := 4) hi hL (by omega), law_in (k := 5) hi hL (by omega), (PR.c pr_feed) w M _ hw hX (fun r w' M1 hw' fx hX1 hm => ?_)⟩
  rw [fx.len]
  simp only [fx.sc]
  exact ⟨law_in (k := 1) hi hL (by omega), law_in (k := 2) hi hL (by omega), law_in (k := 3) hi hL (by omega), law_in (k := 4) hi hL (by omega), law_in (k := 5) hi hL (by omega), hm M1 _ (hM.fx hw fx) (fun M2 fz hM2 => by rw [if_pos rfl]; exact go M2 w' hw' (hX1.fz hw' fz) hM2 (fz.len.trans fx.len))⟩
theorem arm_end (hi : i + 6 ≤ sl M) (hL : sl M ≤ 384) (hw : WP w) (hX : WX M w) (hM : WM M w) (go : LN K i M) : RI 114 μL_law 291 [(0, .ref SC), (1, .ref 0), (2, .ref 58), (3, .int (nI i))] [] M K := by
  refine sg_L_law_291 (d := 113) ⟨law_in (k := 1) hi hL (by omega), (PR.c pr_end) w M _ hw hX (fun r w' M1 hw' fx hX1 hm => ?_)⟩
  rw [fx.len]
  simp only [fx.sc]
  exact ⟨law_in (k := 1) hi hL (by omega), hm M1 _ (hM.fx hw fx) (fun M2 fz hM2 => by rw [if_pos rfl]; exact go M2 w' hw' (hX1.fz hw' fz) hM2 (fz.len.trans fx.len))⟩
theorem arm_shire (hi : i + 6 ≤ sl M) (hL : sl M ≤ 384) (hw : WP w) (hX : WX M w) (hM : WM M w) (go : LN K i M) : RI 114 μL_law 314 [(0, .ref SC), (1, .ref 0), (2, .ref 58), (3, .int (nI i))] [] M K := by
  refine sg_L_law_314 (d := 113) (pc_shire w M _ hw hX (fun r w' M1 hw' fx hX1 hm => ?_))
  exact hm M1 _ (hM.fx hw fx) (fun M2 fz hM2 => by rw [if_pos rfl]; exact go M2 w' hw' (hX1.fz hw' fz) hM2 (fz.len.trans fx.len))
theorem arm_fault (hi : i + 6 ≤ sl M) (hL : sl M ≤ 384) (hw : WP w) (hX : WX M w) (hM : WM M w) (go : LN K i M) : RI 114 μL_law 327 [(0, .ref SC), (1, .ref 0), (2, .ref 58), (3, .int (nI i))] [] M K := by
  refine sg_L_law_327 (d := 113) ⟨law_in (k := 1) hi hL (by omega), (PR.c pr_fault) w M _ hw hX (fun r w' M1 hw' fx hX1 hm => ?_)⟩
  rw [fx.len]
  simp only [fx.sc]
  exact ⟨law_in (k := 1) hi hL (by omega), hm M1 _ (hM.fx hw fx) (fun M2 fz hM2 => by rw [if_pos rfl]; exact go M2 w' hw' (hX1.fz hw' fz) hM2 (fz.len.trans fx.len))⟩
theorem arm_lord (hi : i + 6 ≤ sl M) (hL : sl M ≤ 384) (hw : WP w) (hX : WX M w) (hM : WM M w) (go : LN K i M) : RI 114 μL_law 350 [(0, .ref SC), (1, .ref 0), (2, .ref 58), (3, .int (nI i))] [] M K := by
  refine sg_L_law_350 (d := 113) ⟨law_in (k := 1) hi hL (by omega), law_in (k := 2) hi hL (by omega), (PR.c pr_lord) w M _ hw hX (fun r w' M1 hw' fx hX1 hm => ?_)⟩
  rw [fx.len]
  simp only [fx.sc]
  exact ⟨law_in (k := 1) hi hL (by omega), law_in (k := 2) hi hL (by omega), hm M1 _ (hM.fx hw fx) (fun M2 fz hM2 => by rw [if_pos rfl]; exact go M2 w' hw' (hX1.fz hw' fz) hM2 (fz.len.trans fx.len))⟩
theorem arm_corner (hi : i + 6 ≤ sl M) (hL : sl M ≤ 384) (hw : WP w) (hX : WX M w) (hM : WM M w) (go : LN K i M) : RI 114 μL_law 383 [(0, .ref SC), (1, .ref 0), (2, .ref 58), (3, .int (nI i))] [] M K := by
  refine sg_L_law_383 (d := 113) ⟨law_in (k := 1) hi hL (by omega), law_in (k := 2) hi hL (by omega), (PR.c pr_corner) w M _ hw hX (fun r w' M1 hw' fx hX1 hm => ?_)⟩
  rw [fx.len]
  simp only [fx.sc]
  exact ⟨law_in (k := 1) hi hL (by omega), law_in (k := 2) hi hL (by omega), hm M1 _ (hM.fx hw fx) (fun M2 fz hM2 => by rw [if_pos rfl]; exact go M2 w' hw' (hX1.fz hw' fz) hM2 (fz.len.trans fx.len))⟩
theorem arm_wall (hi : i + 6 ≤ sl M) (hL : sl M ≤ 384) (hw : WP w) (hX : WX M w) (hM : WM M w) (go : LN K i M) : RI 114 μL_law 416 [(0, .ref SC), (1, .ref 0), (2, .ref 58), (3, .int (nI i))] [] M K := by
  refine sg_L_law_416 (d := 113) ⟨law_in (k := 1) hi hL (by omega), law_in (k := 2) hi hL (by omega), (PR.c pr_wall) w M _ hw hX (fun r w' M1 hw' fx hX1 hm => ?_)⟩
  rw [fx.len]
  simp only [fx.sc]
  exact ⟨law_in (k := 1) hi hL (by omega), law_in (k := 2) hi hL (by omega), hm M1 _ (hM.fx hw fx) (fun M2 fz hM2 => by rw [if_pos rfl]; exact go M2 w' hw' (hX1.fz hw' fz) hM2 (fz.len.trans fx.len))⟩
theorem arm_season (hi : i + 6 ≤ sl M) (hL : sl M ≤ 384) (hw : WP w) (hX : WX M w) (hM : WM M w) (go : LN K i M) : RI 114 μL_law 449 [(0, .ref SC), (1, .ref 0), (2, .ref 58), (3, .int (nI i))] [] M K := by
  refine sg_L_law_449 (d := 113) ((PR.c pr_season) w M _ hw hX (fun r w' M1 hw' fx hX1 hm => ?_))
  exact hm M1 _ (hM.fx hw fx) (fun M2 fz hM2 => by rw [if_pos rfl]; exact go M2 w' hw' (hX1.fz hw' fz) hM2 (fz.len.trans fx.len))
theorem arm_flip (hi : i + 6 ≤ sl M) (hL : sl M ≤ 384) (hw : WP w) (hX : WX M w) (hM : WM M w) (go : LN K i M) : RI 114 μL_law 462 [(0, .ref SC), (1, .ref 0), (2, .ref 58), (3, .int (nI i))] [] M K := by
  refine sg_L_law_462 (d := 113) ⟨law_in (k := 1) hi hL (by omega), law_in (k := 2) hi hL (by omega), (PR.c pr_flip) w M _ hw hX (fun r w' M1 hw' fx hX1 hm => ?_)⟩
  rw [fx.len]
  simp only [fx.sc]
  exact ⟨law_in (k := 1) hi hL (by omega), law_in (k := 2) hi hL (by omega), hm M1 _ (hM.fx hw fx) (fun M2 fz hM2 => by rw [if_pos rfl]; exact go M2 w' hw' (hX1.fz hw' fz) hM2 (fz.len.trans fx.len))⟩
theorem arm_pop (hi : i + 6 ≤ sl M) (hL : sl M ≤ 384) (hw : WP w) (hX : WX M w) (hM : WM M w) (go : LN K i M) : RI 114 μL_law 495 [(0, .ref SC), (1, .ref 0), (2, .ref 58), (3, .int (nI i))] [] M K := by
  refine sg_L_law_495 (d := 113) ⟨law_in (k := 1) hi hL (by omega), law_in (k := 2) hi hL (by omega), (PR.c pr_pop) w M _ hw hX (fun r w' M1 hw' fx hX1 hm => ?_)⟩
  rw [fx.len]
  simp only [fx.sc]
  exact ⟨law_in (k := 1) hi hL (by omega), law_in (k := 2) hi hL (by omega), hm M1 _ (hM.fx hw fx) (fun M2 fz hM2 => by rw [if_pos rfl]; exact go M2 w' hw' (hX1.fz hw' fz) hM2 (fz.len.trans fx.len))⟩
theorem arm_gift (hi : i + 6 ≤ sl M) (hL : sl M ≤ 384) (hw : WP w) (hX : WX M w) (hM : WM M w) (go : LN K i M) : RI 114 μL_law 528 [(0, .ref SC), (1, .ref 0), (2, .ref 58), (3, .int (nI i))] [] M K := by
  refine sg_L_law_528 (d := 113) ⟨law_in (k := 1) hi hL (by omega), law_in (k := 2) hi hL (by omega), (PR.c pr_gift) w M _ hw hX (fun r w' M1 hw' fx hX1 hm => ?_)⟩
  rw [fx.len]
  simp only [fx.sc]
  exact ⟨law_in (k := 1) hi hL (by omega), law_in (k := 2) hi hL (by omega), hm M1 _ (hM.fx hw fx) (fun M2 fz hM2 => by rw [if_pos rfl]; exact go M2 w' hw' (hX1.fz hw' fz) hM2 (fz.len.trans fx.len))⟩
theorem arm_undo (hi : i + 6 ≤ sl M) (hL : sl M ≤ 384) (hw : WP w) (hX : WX M w) (hM : WM M w) (go : LN K i M) : RI 114 μL_law 561 [(0, .ref SC), (1, .ref 0), (2, .ref 58), (3, .int (nI i))] [] M K := by
  refine sg_L_law_561 (d := 113) ((PR.c pr_undo) w M _ hw hX (fun r w' M1 hw' fx hX1 hm => ?_))
  exact hm M1 _ (hM.fx hw fx) (fun M2 fz hM2 => by rw [if_pos rfl]; exact go M2 w' hw' (hX1.fz hw' fz) hM2 (fz.len.trans fx.len))
theorem arm_redo (hi : i + 6 ≤ sl M) (hL : sl M ≤ 384) (hw : WP w) (hX : WX M w) (hM : WM M w) (go : LN K i M) : RI 114 μL_law 574 [(0, .ref SC), (1, .ref 0), (2, .ref 58), (3, .int (nI i))] [] M K := by
  refine sg_L_law_574 (d := 113) ((PR.c pr_redo) w M _ hw hX (fun r w' M1 hw' fx hX1 hm => ?_))
  exact hm M1 _ (hM.fx hw fx) (fun M2 fz hM2 => by rw [if_pos rfl]; exact go M2 w' hw' (hX1.fz hw' fz) hM2 (fz.len.trans fx.len))
theorem arm_will (hi : i + 6 ≤ sl M) (hL : sl M ≤ 384) (hw : WP w) (hX : WX M w) (hM : WM M w) (go : LN K i M) : RI 114 μL_law 587 [(0, .ref SC), (1, .ref 0), (2, .ref 58), (3, .int (nI i))] [] M K := by
  refine sg_L_law_587 (d := 113) ⟨law_in (k := 1) hi hL (by omega), law_in (k := 2) hi hL (by omega), law_in (k := 3) hi hL (by omega), (PR.c pr_will) w M _ hw hX (fun r w' M1 hw' fx hX1 hm => ?_)⟩
  rw [fx.len]
  simp only [fx.sc]
  exact ⟨law_in (k := 1) hi hL (by omega), law_in (k := 2) hi hL (by omega), law_in (k := 3) hi hL (by omega), hm M1 _ (hM.fx hw fx) (fun M2 fz hM2 => by rw [if_pos rfl]; exact go M2 w' hw' (hX1.fz hw' fz) hM2 (fz.len.trans fx.len))⟩
theorem arm_sides (hi : i + 6 ≤ sl M) (hL : sl M ≤ 384) (hw : WP w) (hX : WX M w) (hM : WM M w) (go : LN K i M) : RI 114 μL_law 630 [(0, .ref SC), (1, .ref 0), (2, .ref 58), (3, .int (nI i))] [] M K := by
  refine sg_L_law_630 (d := 113) ⟨law_in (k := 1) hi hL (by omega), law_in (k := 2) hi hL (by omega), (PR.c pr_sides) w M _ hw hX (fun r w' M1 hw' fx hX1 hm => ?_)⟩
  rw [fx.len]
  simp only [fx.sc]
  exact ⟨law_in (k := 1) hi hL (by omega), law_in (k := 2) hi hL (by omega), hm M1 _ (hM.fx hw fx) (fun M2 fz hM2 => by rw [if_pos rfl]; exact go M2 w' hw' (hX1.fz hw' fz) hM2 (fz.len.trans fx.len))⟩
theorem arm_left (hi : i + 6 ≤ sl M) (hL : sl M ≤ 384) (hw : WP w) (hX : WX M w) (hM : WM M w) (go : LN K i M) : RI 114 μL_law 663 [(0, .ref SC), (1, .ref 0), (2, .ref 58), (3, .int (nI i))] [] M K := by
  refine sg_L_law_663 (d := 113) ⟨law_in (k := 1) hi hL (by omega), (PR.c pr_left) w M _ hw hX (fun r w' M1 hw' fx hX1 hm => ?_)⟩
  rw [fx.len]
  simp only [fx.sc]
  exact ⟨law_in (k := 1) hi hL (by omega), hm M1 _ (hM.fx hw fx) (fun M2 fz hM2 => by rw [if_pos rfl]; exact go M2 w' hw' (hX1.fz hw' fz) hM2 (fz.len.trans fx.len))⟩
theorem arm_ending (hi : i + 6 ≤ sl M) (hL : sl M ≤ 384) (hw : WP w) (hX : WX M w) (hM : WM M w) (go : LN K i M) : RI 114 μL_law 686 [(0, .ref SC), (1, .ref 0), (2, .ref 58), (3, .int (nI i))] [] M K := by
  refine sg_L_law_686 (d := 113) ⟨law_in (k := 1) hi hL (by omega), (PR.c pr_ending) w M _ hw hX (fun r w' M1 hw' fx hX1 hm => ?_)⟩
  rw [fx.len]
  simp only [fx.sc]
  exact ⟨law_in (k := 1) hi hL (by omega), hm M1 _ (hM.fx hw fx) (fun M2 fz hM2 => by rw [if_pos rfl]; exact go M2 w' hw' (hX1.fz hw' fz) hM2 (fz.len.trans fx.len))⟩
theorem arm_far (hi : i + 6 ≤ sl M) (hL : sl M ≤ 384) (hw : WP w) (hX : WX M w) (hM : WM M w) (go : LN K i M) : RI 114 μL_law 709 [(0, .ref SC), (1, .ref 0), (2, .ref 58), (3, .int (nI i))] [] M K := by
  refine sg_L_law_709 (d := 113) ⟨law_in (k := 1) hi hL (by omega), law_in (k := 2) hi hL (by omega), (PR.c pr_far) w M _ hw hX (fun r w' M1 hw' fx hX1 hm => ?_)⟩
  rw [fx.len]
  simp only [fx.sc]
  exact ⟨law_in (k := 1) hi hL (by omega), law_in (k := 2) hi hL (by omega), hm M1 _ (hM.fx hw fx) (fun M2 fz hM2 => by rw [if_pos rfl]; exact go M2 w' hw' (hX1.fz hw' fz) hM2 (fz.len.trans fx.len))⟩
theorem arm_banners (hi : i + 6 ≤ sl M) (hL : sl M ≤ 384) (hw : WP w) (hX : WX M w) (hM : WM M w) (go : LN K i M) : RI 114 μL_law 742 [(0, .ref SC), (1, .ref 0), (2, .ref 58), (3, .int (nI i))] [] M K := by
  refine sg_L_law_742 (d := 113) ((PR.c pr_banners) w M _ hw hX (fun r w' M1 hw' fx hX1 hm => ?_))
  exact hm M1 _ (hM.fx hw fx) (fun M2 fz hM2 => by rw [if_pos rfl]; exact go M2 w' hw' (hX1.fz hw' fz) hM2 (fz.len.trans fx.len))
theorem arm_peace (hi : i + 6 ≤ sl M) (hL : sl M ≤ 384) (hw : WP w) (hX : WX M w) (hM : WM M w) (go : LN K i M) : RI 114 μL_law 755 [(0, .ref SC), (1, .ref 0), (2, .ref 58), (3, .int (nI i))] [] M K := by
  refine sg_L_law_755 (d := 113) ((PR.c pr_peace) w M _ hw hX (fun r w' M1 hw' fx hX1 hm => ?_))
  exact hm M1 _ (hM.fx hw fx) (fun M2 fz hM2 => by rw [if_pos rfl]; exact go M2 w' hw' (hX1.fz hw' fz) hM2 (fz.len.trans fx.len))
theorem arm_hermits (hi : i + 6 ≤ sl M) (hL : sl M ≤ 384) (hw : WP w) (hX : WX M w) (hM : WM M w) (go : LN K i M) : RI 114 μL_law 768 [(0, .ref SC), (1, .ref 0), (2, .ref 58), (3, .int (nI i))] [] M K := by
  refine sg_L_law_768 (d := 113) ⟨law_in (k := 1) hi hL (by omega), (PR.c pr_hermits) w M _ hw hX (fun r w' M1 hw' fx hX1 hm => ?_)⟩
  rw [fx.len]
  simp only [fx.sc]
  exact ⟨law_in (k := 1) hi hL (by omega), hm M1 _ (hM.fx hw fx) (fun M2 fz hM2 => by rw [if_pos rfl]; exact go M2 w' hw' (hX1.fz hw' fz) hM2 (fz.len.trans fx.len))⟩
theorem arm_cut (hi : i + 6 ≤ sl M) (hL : sl M ≤ 384) (hw : WP w) (hX : WX M w) (hM : WM M w) (go : LN K i M) : RI 114 μL_law 791 [(0, .ref SC), (1, .ref 0), (2, .ref 58), (3, .int (nI i))] [] M K := by
  refine sg_L_law_791 (d := 113) ⟨law_in (k := 1) hi hL (by omega), law_in (k := 2) hi hL (by omega), law_in (k := 3) hi hL (by omega), (PR.c pr_cut) w M _ hw hX (fun r w' M1 hw' fx hX1 hm => ?_)⟩
  rw [fx.len]
  simp only [fx.sc]
  exact ⟨law_in (k := 1) hi hL (by omega), law_in (k := 2) hi hL (by omega), law_in (k := 3) hi hL (by omega), hm M1 _ (hM.fx hw fx) (fun M2 fz hM2 => by rw [if_pos rfl]; exact go M2 w' hw' (hX1.fz hw' fz) hM2 (fz.len.trans fx.len))⟩
theorem arm_ring (hi : i + 6 ≤ sl M) (hL : sl M ≤ 384) (hw : WP w) (hX : WX M w) (hM : WM M w) (go : LN K i M) : RI 114 μL_law 834 [(0, .ref SC), (1, .ref 0), (2, .ref 58), (3, .int (nI i))] [] M K := by
  refine sg_L_law_834 (d := 113) ⟨law_in (k := 1) hi hL (by omega), (PR.c pr_ring) w M _ hw hX (fun r w' M1 hw' fx hX1 hm => ?_)⟩
  rw [fx.len]
  simp only [fx.sc]
  exact ⟨law_in (k := 1) hi hL (by omega), hm M1 _ (hM.fx hw fx) (fun M2 fz hM2 => by rw [if_pos rfl]; exact go M2 w' hw' (hX1.fz hw' fz) hM2 (fz.len.trans fx.len))⟩
theorem arm_save (hi : i + 6 ≤ sl M) (hL : sl M ≤ 384) (hw : WP w) (hX : WX M w) (hM : WM M w) (go : LN K i M) : RI 114 μL_law 857 [(0, .ref SC), (1, .ref 0), (2, .ref 58), (3, .int (nI i))] [] M K := by
  refine sg_L_law_857 (d := 113) ⟨law_in (k := 1) hi hL (by omega), law_in (k := 2) hi hL (by omega), (PR.c pr_save) w M _ hw hX (fun r w' M1 hw' fx hX1 hm => ?_)⟩
  rw [fx.len]
  simp only [fx.sc]
  exact ⟨law_in (k := 1) hi hL (by omega), law_in (k := 2) hi hL (by omega), hm M1 _ (hM.fx hw fx) (fun M2 fz hM2 => by rw [if_pos rfl]; exact go M2 w' hw' (hX1.fz hw' fz) hM2 (fz.len.trans fx.len))⟩
theorem arm_boost (hi : i + 6 ≤ sl M) (hL : sl M ≤ 384) (hw : WP w) (hX : WX M w) (hM : WM M w) (go : LN K i M) : RI 114 μL_law 890 [(0, .ref SC), (1, .ref 0), (2, .ref 58), (3, .int (nI i))] [] M K := by
  refine sg_L_law_890 (d := 113) ⟨law_in (k := 1) hi hL (by omega), law_in (k := 2) hi hL (by omega), law_in (k := 3) hi hL (by omega), (PR.c pr_boost) w M _ hw hX (fun r w' M1 hw' fx hX1 hm => ?_)⟩
  rw [fx.len]
  simp only [fx.sc]
  exact ⟨law_in (k := 1) hi hL (by omega), law_in (k := 2) hi hL (by omega), law_in (k := 3) hi hL (by omega), hm M1 _ (hM.fx hw fx) (fun M2 fz hM2 => by rw [if_pos rfl]; exact go M2 w' hw' (hX1.fz hw' fz) hM2 (fz.len.trans fx.len))⟩
theorem arm_pricks (hi : i + 6 ≤ sl M) (hL : sl M ≤ 384) (hw : WP w) (hX : WX M w) (hM : WM M w) (go : LN K i M) : RI 114 μL_law 933 [(0, .ref SC), (1, .ref 0), (2, .ref 58), (3, .int (nI i))] [] M K := by
  refine sg_L_law_933 (d := 113) ⟨law_in (k := 1) hi hL (by omega), law_in (k := 2) hi hL (by omega), (PR.c pr_pricks) w M _ hw hX (fun r w' M1 hw' fx hX1 hm => ?_)⟩
  rw [fx.len]
  simp only [fx.sc]
  exact ⟨law_in (k := 1) hi hL (by omega), law_in (k := 2) hi hL (by omega), hm M1 _ (hM.fx hw fx) (fun M2 fz hM2 => by rw [if_pos rfl]; exact go M2 w' hw' (hX1.fz hw' fz) hM2 (fz.len.trans fx.len))⟩
theorem arm_thirds (hi : i + 6 ≤ sl M) (hL : sl M ≤ 384) (hw : WP w) (hX : WX M w) (hM : WM M w) (go : LN K i M) : RI 114 μL_law 966 [(0, .ref SC), (1, .ref 0), (2, .ref 58), (3, .int (nI i))] [] M K := by
  refine sg_L_law_966 (d := 113) ((PR.c pr_thirds) w M _ hw hX (fun r w' M1 hw' fx hX1 hm => ?_))
  exact hm M1 _ (hM.fx hw fx) (fun M2 fz hM2 => by rw [if_pos rfl]; exact go M2 w' hw' (hX1.fz hw' fz) hM2 (fz.len.trans fx.len))
theorem arm_sleepers (hi : i + 6 ≤ sl M) (hL : sl M ≤ 384) (hw : WP w) (hX : WX M w) (hM : WM M w) (go : LN K i M) : RI 114 μL_law 979 [(0, .ref SC), (1, .ref 0), (2, .ref 58), (3, .int (nI i))] [] M K := by
  refine sg_L_law_979 (d := 113) ((PR.c pr_sleepers) w M _ hw hX (fun r w' M1 hw' fx hX1 hm => ?_))
  exact hm M1 _ (hM.fx hw fx) (fun M2 fz hM2 => by rw [if_pos rfl]; exact go M2 w' hw' (hX1.fz hw' fz) hM2 (fz.len.trans fx.len))
theorem arm_king (hi : i + 6 ≤ sl M) (hL : sl M ≤ 384) (hw : WP w) (hX : WX M w) (hM : WM M w) (go : LN K i M) : RI 114 μL_law 992 [(0, .ref SC), (1, .ref 0), (2, .ref 58), (3, .int (nI i))] [] M K := by
  refine sg_L_law_992 (d := 113) ((PR.c pr_king) w M _ hw hX (fun r w' M1 hw' fx hX1 hm => ?_))
  exact hm M1 _ (hM.fx hw fx) (fun M2 fz hM2 => by rw [if_pos rfl]; exact go M2 w' hw' (hX1.fz hw' fz) hM2 (fz.len.trans fx.len))
theorem arm_restless (hi : i + 6 ≤ sl M) (hL : sl M ≤ 384) (hw : WP w) (hX : WX M w) (hM : WM M w) (go : LN K i M) : RI 114 μL_law 1005 [(0, .ref SC), (1, .ref 0), (2, .ref 58), (3, .int (nI i))] [] M K := by
  refine sg_L_law_1005 (d := 113) ((PR.c pr_restless) w M _ hw hX (fun r w' M1 hw' fx hX1 hm => ?_))
  exact hm M1 _ (hM.fx hw fx) (fun M2 fz hM2 => by rw [if_pos rfl]; exact go M2 w' hw' (hX1.fz hw' fz) hM2 (fz.len.trans fx.len))
theorem arm_brides (hi : i + 6 ≤ sl M) (hL : sl M ≤ 384) (hw : WP w) (hX : WX M w) (hM : WM M w) (go : LN K i M) : RI 114 μL_law 1018 [(0, .ref SC), (1, .ref 0), (2, .ref 58), (3, .int (nI i))] [] M K := by
  refine sg_L_law_1018 (d := 113) ((PR.c pr_brides) w M _ hw hX (fun r w' M1 hw' fx hX1 hm => ?_))
  exact hm M1 _ (hM.fx hw fx) (fun M2 fz hM2 => by rw [if_pos rfl]; exact go M2 w' hw' (hX1.fz hw' fz) hM2 (fz.len.trans fx.len))
theorem arm_acres (hi : i + 6 ≤ sl M) (hL : sl M ≤ 384) (hw : WP w) (hX : WX M w) (hM : WM M w) (go : LN K i M) : RI 114 μL_law 1031 [(0, .ref SC), (1, .ref 0), (2, .ref 58), (3, .int (nI i))] [] M K := by
  refine sg_L_law_1031 (d := 113) ((PR.c pr_acres) w M _ hw hX (fun r w' M1 hw' fx hX1 hm => ?_))
  exact hm M1 _ (hM.fx hw fx) (fun M2 fz hM2 => by rw [if_pos rfl]; exact go M2 w' hw' (hX1.fz hw' fz) hM2 (fz.len.trans fx.len))
theorem arm_law (hi : i + 6 ≤ sl M) (hL : sl M ≤ 384) (hw : WP w) (hX : WX M w) (hM : WM M w) (go : LN K i M) : RI 114 μL_law 1044 [(0, .ref SC), (1, .ref 0), (2, .ref 58), (3, .int (nI i))] [] M K := by
  refine sg_L_law_1044 (d := 113) ⟨law_in (k := 1) hi hL (by omega), (PR.c pr_law) w M _ hw hX (fun r w' M1 hw' fx hX1 hm => ?_)⟩
  rw [fx.len]
  simp only [fx.sc]
  exact ⟨law_in (k := 1) hi hL (by omega), hm M1 _ (hM.fx hw fx) (fun M2 fz hM2 => by rw [if_pos rfl]; exact go M2 w' hw' (hX1.fz hw' fz) hM2 (fz.len.trans fx.len))⟩
theorem arm_aunts (hi : i + 6 ≤ sl M) (hL : sl M ≤ 384) (hw : WP w) (hX : WX M w) (hM : WM M w) (go : LN K i M) : RI 114 μL_law 1067 [(0, .ref SC), (1, .ref 0), (2, .ref 58), (3, .int (nI i))] [] M K := by
  refine sg_L_law_1067 (d := 113) ⟨law_in (k := 1) hi hL (by omega), law_in (k := 2) hi hL (by omega), (PR.c pr_aunts) w M _ hw hX (fun r w' M1 hw' fx hX1 hm => ?_)⟩
  rw [fx.len]
  simp only [fx.sc]
  exact ⟨law_in (k := 1) hi hL (by omega), law_in (k := 2) hi hL (by omega), hm M1 _ (hM.fx hw fx) (fun M2 fz hM2 => by rw [if_pos rfl]; exact go M2 w' hw' (hX1.fz hw' fz) hM2 (fz.len.trans fx.len))⟩
theorem arm_odds (hi : i + 6 ≤ sl M) (hL : sl M ≤ 384) (hw : WP w) (hX : WX M w) (hM : WM M w) (go : LN K i M) : RI 114 μL_law 1100 [(0, .ref SC), (1, .ref 0), (2, .ref 58), (3, .int (nI i))] [] M K := by
  refine sg_L_law_1100 (d := 113) ⟨law_in (k := 1) hi hL (by omega), law_in (k := 2) hi hL (by omega), (PR.c pr_odds) w M _ hw hX (fun r w' M1 hw' fx hX1 hm => ?_)⟩
  rw [fx.len]
  simp only [fx.sc]
  exact ⟨law_in (k := 1) hi hL (by omega), law_in (k := 2) hi hL (by omega), hm M1 _ (hM.fx hw fx) (fun M2 fz hM2 => by rw [if_pos rfl]; exact go M2 w' hw' (hX1.fz hw' fz) hM2 (fz.len.trans fx.len))⟩
theorem arm_lies (hi : i + 6 ≤ sl M) (hL : sl M ≤ 384) (hw : WP w) (hX : WX M w) (hM : WM M w) (go : LN K i M) : RI 114 μL_law 1133 [(0, .ref SC), (1, .ref 0), (2, .ref 58), (3, .int (nI i))] [] M K := by
  refine sg_L_law_1133 (d := 113) ⟨law_in (k := 1) hi hL (by omega), (PR.c pr_lies) w M _ hw hX (fun r w' M1 hw' fx hX1 hm => ?_)⟩
  rw [fx.len]
  simp only [fx.sc]
  exact ⟨law_in (k := 1) hi hL (by omega), hm M1 _ (hM.fx hw fx) (fun M2 fz hM2 => by rw [if_pos rfl]; exact go M2 w' hw' (hX1.fz hw' fz) hM2 (fz.len.trans fx.len))⟩
theorem arm_seen (hi : i + 6 ≤ sl M) (hL : sl M ≤ 384) (hw : WP w) (hX : WX M w) (hM : WM M w) (go : LN K i M) : RI 114 μL_law 1156 [(0, .ref SC), (1, .ref 0), (2, .ref 58), (3, .int (nI i))] [] M K := by
  refine sg_L_law_1156 (d := 113) ⟨law_in (k := 1) hi hL (by omega), law_in (k := 2) hi hL (by omega), law_in (k := 3) hi hL (by omega), ?_⟩
  split
  · rename_i hz
    refine (PR.c (pr_seen (b := false))) w M _ hw hX (fun r w' M1 hw' fx hX1 hm => ?_)
    rw [fx.len]
    simp only [fx.sc]
    refine ⟨law_in (k := 1) hi hL (by omega), law_in (k := 2) hi hL (by omega), law_in (k := 3) hi hL (by omega), ?_⟩
    rw [if_pos hz]
    exact hm M1 _ (hM.fx hw fx) (fun M2 fz hM2 => by rw [if_pos rfl]; exact go M2 w' hw' (hX1.fz hw' fz) hM2 (fz.len.trans fx.len))
  · rename_i hz
    refine (PR.c (pr_seen (b := true))) w M _ hw hX (fun r w' M1 hw' fx hX1 hm => ?_)
    rw [fx.len]
    simp only [fx.sc]
    refine ⟨law_in (k := 1) hi hL (by omega), law_in (k := 2) hi hL (by omega), law_in (k := 3) hi hL (by omega), ?_⟩
    rw [if_neg hz]
    exact hm M1 _ (hM.fx hw fx) (fun M2 fz hM2 => by rw [if_pos rfl]; exact go M2 w' hw' (hX1.fz hw' fz) hM2 (fz.len.trans fx.len))
theorem arm_untell (hi : i + 6 ≤ sl M) (hL : sl M ≤ 384) (hw : WP w) (hX : WX M w) (hM : WM M w) (go : LN K i M) : RI 114 μL_law 1215 [(0, .ref SC), (1, .ref 0), (2, .ref 58), (3, .int (nI i))] [] M K := by
  refine sg_L_law_1215 (d := 113) ⟨law_in (k := 1) hi hL (by omega), (PR.c pr_untell) w M _ hw hX (fun r w' M1 hw' fx hX1 hm => ?_)⟩
  rw [fx.len]
  simp only [fx.sc]
  exact ⟨law_in (k := 1) hi hL (by omega), hm M1 _ (hM.fx hw fx) (fun M2 fz hM2 => by rw [if_pos rfl]; exact go M2 w' hw' (hX1.fz hw' fz) hM2 (fz.len.trans fx.len))⟩
theorem arm_later (hi : i + 6 ≤ sl M) (hL : sl M ≤ 384) (hw : WP w) (hX : WX M w) (hM : WM M w) (go : LN K i M) : RI 114 μL_law 1238 [(0, .ref SC), (1, .ref 0), (2, .ref 58), (3, .int (nI i))] [] M K := by
  refine sg_L_law_1238 (d := 113) ⟨law_in (k := 1) hi hL (by omega), (PR.c pr_later) w M _ hw hX (fun r w' M1 hw' fx hX1 hm => ?_)⟩
  rw [fx.len]
  simp only [fx.sc]
  exact ⟨law_in (k := 1) hi hL (by omega), hm M1 _ (hM.fx hw fx) (fun M2 fz hM2 => by rw [if_pos rfl]; exact go M2 w' hw' (hX1.fz hw' fz) hM2 (fz.len.trans fx.len))⟩
theorem arm_fits (hi : i + 6 ≤ sl M) (hL : sl M ≤ 384) (hw : WP w) (hX : WX M w) (hM : WM M w) (go : LN K i M) : RI 114 μL_law 1261 [(0, .ref SC), (1, .ref 0), (2, .ref 58), (3, .int (nI i))] [] M K := by
  refine sg_L_law_1261 (d := 113) ⟨law_in (k := 1) hi hL (by omega), (PR.c pr_fits) w M _ hw hX (fun r w' M1 hw' fx hX1 hm => ?_)⟩
  rw [fx.len]
  simp only [fx.sc]
  exact ⟨law_in (k := 1) hi hL (by omega), hm M1 _ (hM.fx hw fx) (fun M2 fz hM2 => by rw [if_pos rfl]; exact go M2 w' hw' (hX1.fz hw' fz) hM2 (fz.len.trans fx.len))⟩
theorem arm_sure (hi : i + 6 ≤ sl M) (hL : sl M ≤ 384) (hw : WP w) (hX : WX M w) (hM : WM M w) (go : LN K i M) : RI 114 μL_law 1284 [(0, .ref SC), (1, .ref 0), (2, .ref 58), (3, .int (nI i))] [] M K := by
  refine sg_L_law_1284 (d := 113) ⟨law_in (k := 1) hi hL (by omega), law_in (k := 2) hi hL (by omega), (PR.c pr_sure) w M _ hw hX (fun r w' M1 hw' fx hX1 hm => ?_)⟩
  rw [fx.len]
  simp only [fx.sc]
  exact ⟨law_in (k := 1) hi hL (by omega), law_in (k := 2) hi hL (by omega), hm M1 _ (hM.fx hw fx) (fun M2 fz hM2 => by rw [if_pos rfl]; exact go M2 w' hw' (hX1.fz hw' fz) hM2 (fz.len.trans fx.len))⟩
theorem arm_ask (hi : i + 6 ≤ sl M) (hL : sl M ≤ 384) (hw : WP w) (hX : WX M w) (hM : WM M w) (go : LN K i M) : RI 114 μL_law 1317 [(0, .ref SC), (1, .ref 0), (2, .ref 58), (3, .int (nI i))] [] M K := by
  refine sg_L_law_1317 (d := 113) ⟨law_in (k := 1) hi hL (by omega), law_in (k := 2) hi hL (by omega), (PR.c pr_ask) w M _ hw hX (fun r w' M1 hw' fx hX1 hm => ?_)⟩
  rw [fx.len]
  simp only [fx.sc]
  exact ⟨law_in (k := 1) hi hL (by omega), law_in (k := 2) hi hL (by omega), hm M1 _ (hM.fx hw fx) (fun M2 fz hM2 => by rw [if_pos rfl]; exact go M2 w' hw' (hX1.fz hw' fz) hM2 (fz.len.trans fx.len))⟩
theorem arm_image (hi : i + 6 ≤ sl M) (hL : sl M ≤ 384) (hw : WP w) (hX : WX M w) (hM : WM M w) (go : LN K i M) : RI 114 μL_law 1350 [(0, .ref SC), (1, .ref 0), (2, .ref 58), (3, .int (nI i))] [] M K := by
  refine sg_L_law_1350 (d := 113) ⟨law_in (k := 1) hi hL (by omega), (PR.c pr_image) w M _ hw hX (fun r w' M1 hw' fx hX1 hm => ?_)⟩
  rw [fx.len]
  simp only [fx.sc]
  exact ⟨law_in (k := 1) hi hL (by omega), hm M1 _ (hM.fx hw fx) (fun M2 fz hM2 => by rw [if_pos rfl]; exact go M2 w' hw' (hX1.fz hw' fz) hM2 (fz.len.trans fx.len))⟩
theorem arm_back (hi : i + 6 ≤ sl M) (hL : sl M ≤ 384) (hw : WP w) (hX : WX M w) (hM : WM M w) (go : LN K i M) : RI 114 μL_law 1373 [(0, .ref SC), (1, .ref 0), (2, .ref 58), (3, .int (nI i))] [] M K := by
  refine sg_L_law_1373 (d := 113) ⟨law_in (k := 1) hi hL (by omega), (PR.c pr_back) w M _ hw hX (fun r w' M1 hw' fx hX1 hm => ?_)⟩
  rw [fx.len]
  simp only [fx.sc]
  exact ⟨law_in (k := 1) hi hL (by omega), hm M1 _ (hM.fx hw fx) (fun M2 fz hM2 => by rw [if_pos rfl]; exact go M2 w' hw' (hX1.fz hw' fz) hM2 (fz.len.trans fx.len))⟩
theorem arm_about (hi : i + 6 ≤ sl M) (hL : sl M ≤ 384) (hw : WP w) (hX : WX M w) (hM : WM M w) (go : LN K i M) : RI 114 μL_law 1396 [(0, .ref SC), (1, .ref 0), (2, .ref 58), (3, .int (nI i))] [] M K := by
  refine sg_L_law_1396 (d := 113) ⟨law_in (k := 1) hi hL (by omega), (PR.c pr_about) w M _ hw hX (fun r w' M1 hw' fx hX1 hm => ?_)⟩
  rw [fx.len]
  simp only [fx.sc]
  exact ⟨law_in (k := 1) hi hL (by omega), hm M1 _ (hM.fx hw fx) (fun M2 fz hM2 => by rw [if_pos rfl]; exact go M2 w' hw' (hX1.fz hw' fz) hM2 (fz.len.trans fx.len))⟩
end Arms
theorem law_out {s i : Nat} (hs : s ≤ 384) (hi : i ≤ 1000) : Int32.ofNat s - 6 < nI i ↔ s < i + 6 := by
  rcases Nat.lt_or_ge s 6 with h | h
  · have hn : (nI i).toInt = (i : Int) := nI_toInt (by omega)
    have e : ∀ z : Int32, z.toInt < 0 → z < nI i := fun z hz => Int32.lt_iff_toInt_lt.mpr (by rw [hn]; omega)
    refine ⟨fun _ => by omega, fun _ => e _ ?_⟩
    have : s = 0 ∨ s = 1 ∨ s = 2 ∨ s = 3 ∨ s = 4 ∨ s = 5 := by omega
    rcases this with rfl | rfl | rfl | rfl | rfl | rfl <;> decide
  · obtain ⟨r, rfl⟩ : ∃ r, s = r + 6 := ⟨s - 6, by omega⟩
    have e : Int32.ofNat (r + 6) - 6 = nI r := by
      show nI (r + 6) - 6 = nI r
      rw [← nI_add]
      show nI r + 6 - 6 = nI r
      exact Int32.add_sub_cancel _ _
    rw [e, nI_ltI (by omega) (by omega)]
    omega
theorem law_loop {K : Int32 → Mem → Prop} (hK : ∀ M, K 1 M) : ∀ (f i : Nat) (w : Wo) (M : Mem), sl M ≤ 384 → i ≤ 384 → sl M < i + 6 * f + 6 → WP w → WX M w → WM M w → RI 114 μL_law 18 [(0, .ref SC), (1, .ref 0), (2, .ref 58), (3, .int (nI i))] [] M K := by
  intro f
  induction f with
  | zero =>
    intro i w M hL hi hf hw hX hM
    refine sg_L_law_18 (d := 113) ?_
    rw [if_pos ((law_out hL (by omega)).mpr (by omega))]
    exact hK M
  | succ f ih =>
    intro i w M hL hi hf hw hX hM
    refine sg_L_law_18 (d := 113) ?_
    by_cases hc : sl M < i + 6
    · rw [if_pos ((law_out hL (by omega)).mpr hc)]
      exact hK M
    rw [if_neg (fun q => hc ((law_out hL (by omega)).mp q))]
    have h6 : i + 6 ≤ sl M := by omega
    have go : LN K i M := by
      intro M' w' hw' hX' hM' hs
      have := ih (i + 6) w' M' (by omega) (by omega) (by omega) hw' hX' hM'
      rw [← nI_add] at this
      exact this
    exact ⟨n_in (by omega) (by omega), fun _ => arm_feed h6 hL hw hX hM go, fun _ => arm_end h6 hL hw hX hM go, fun _ => arm_shire h6 hL hw hX hM go, fun _ => arm_fault h6 hL hw hX hM go, fun _ => arm_lord h6 hL hw hX hM go, fun _ => arm_corner h6 hL hw hX hM go, fun _ => arm_wall h6 hL hw hX hM go, fun _ => arm_season h6 hL hw hX hM go, fun _ => arm_flip h6 hL hw hX hM go, fun _ => arm_pop h6 hL hw hX hM go, fun _ => arm_gift h6 hL hw hX hM go, fun _ => arm_undo h6 hL hw hX hM go, fun _ => arm_redo h6 hL hw hX hM go, fun _ => arm_will h6 hL hw hX hM go, fun _ => arm_sides h6 hL hw hX hM go, fun _ => arm_left h6 hL hw hX hM go, fun _ => arm_ending h6 hL hw hX hM go, fun _ => arm_far h6 hL hw hX hM go, fun _ => arm_banners h6 hL hw hX hM go, fun _ => arm_peace h6 hL hw hX hM go, fun _ => arm_hermits h6 hL hw hX hM go, fun _ => arm_cut h6 hL hw hX hM go, fun _ => arm_ring h6 hL hw hX hM go, fun _ => arm_save h6 hL hw hX hM go, fun _ => arm_boost h6 hL hw hX hM go, fun _ => arm_pricks h6 hL hw hX hM go, fun _ => arm_thirds h6 hL hw hX hM go, fun _ => arm_sleepers h6 hL hw hX hM go, fun _ => arm_king h6 hL hw hX hM go, fun _ => arm_restless h6 hL hw hX hM go, fun _ => arm_brides h6 hL hw hX hM go, fun _ => arm_acres h6 hL hw hX hM go, fun _ => arm_law h6 hL hw hX hM go, fun _ => arm_aunts h6 hL hw hX hM go, fun _ => arm_odds h6 hL hw hX hM go, fun _ => arm_lies h6 hL hw hX hM go, fun _ => arm_seen h6 hL hw hX hM go, fun _ => arm_untell h6 hL hw hX hM go, fun _ => arm_later h6 hL hw hX hM go, fun _ => arm_fits h6 hL hw hX hM go, fun _ => arm_sure h6 hL hw hX hM go, fun _ => arm_ask h6 hL hw hX hM go, fun _ => arm_image h6 hL hw hX hM go, fun _ => arm_back h6 hL hw hX hM go, fun _ => arm_about h6 hL hw hX hM go, fun _ => go M w hw hX hM rfl⟩
