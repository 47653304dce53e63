theorem ins_cnt (b m : Nat) (L : List Nat) : (ins m L).countP (fun x => x.testBit b) = L.countP (fun x => x.testBit b) + if m.testBit b then 1 else 0 := by
  rw [(ins_perm m L).countP_eq, List.countP_cons]
theorem tk_cnt {b m : Nat} {L : List Nat} (h : m ∈ L) : (tk m L).countP (fun x => x.testBit b) + (if m.testBit b then 1 else 0) = L.countP (fun x => x.testBit b) := by
  rw [← (tk_perm h).countP_eq, List.countP_cons]
theorem r_popLoop {d : Nat} {K : Mem → Prop} {S : Sh} (hS : SOk S) {a b : Nat} (ha : a < 8) (hb : b < 8) (hab : a ≠ b) {x3 x4 : Int32} (M0 : Mem) (hK : ∀ M', Sa M0 M' → Ar M' 69 (mgS S a b) → K M') :
    ∀ (n : Nat) (L : List Nat) (M : Mem), L.countP (fun x => x.testBit b) = n → L.length ≤ 12 → (∀ m ∈ L, T3 m) → srt L → (∀ m ∈ L, ¬ (m &&& pr a b = pr a b)) → sortC (L.map (rpl a b)) = sortC (mgC a b (sc S)) → Sa M0 M → Ar M 69 (setC S L) →
      RV (d + 3) μX9_doPop 41 [(0, .ref 58), (1, .int (nI a)), (2, .int (nI b)), (3, .int x3), (4, .int x4), (5, .int 1)] [] M K := by
  have fin : ∀ (L : List Nat) (M : Mem), L.length ≤ 12 → (∀ m ∈ L, T3 m) → srt L → (∀ m ∈ L, m.testBit b = false) → sortC (L.map (rpl a b)) = sortC (mgC a b (sc S)) → Sa M0 M → Ar M 69 (setC S L) → RV (d + 3) μX9_doPop 41 [(0, .ref 58), (1, .int (nI a)), (2, .int (nI b)), (3, .int x3), (4, .int x4), (5, .int 0)] [] M K := by
    intro L M h12 hT hs hno he hSa hA
    rw [map_rpl_id hno, sortC_id hs] at he
    refine sg_X9_doPop_41 ?_
    rw [if_pos rfl, n_14, n_14]
    have ina : vp_in (nI (14 + a)) 24 := n_in (by omega) (by decide)
    refine ⟨ina, n_in (by omega) (by decide), ?_⟩
    have za : ri M 69 (14 + a) = nI (sz S a) := hA.2.2.2.1 a ha
    have zb : ri M 69 (14 + b) = nI (sz S b) := hA.2.2.2.1 b hb
    have sa := hS.2.2.2.2.2 a
    have sb' := hS.2.2.2.2.2 b
    rw [show nx (nI (14 + a)) = 14 + a from nI_clamp (by omega), show nx (nI (14 + b)) = 14 + b from nI_clamp (by omega), za, zb, nI_add]
    show CI (d + 2) μX9_lesser [.int (nI 999), .int (nI (sz S a + sz S b))] M _
    refine r_lesser (by omega) (by omega) ⟨ina, ?_⟩
    intro M3 h3
    have ev : (if sz S a + sz S b ≤ 999 then sz S a + sz S b else 999) = (if sz S a + sz S b < 999 then sz S a + sz S b else 999) := by split <;> split <;> omega
    rw [ev] at h3
    let S1 : Sh := (sn S, sb S, sy S, sd S, L, fun j => if j = a then (if sz S a + sz S b < 999 then sz S a + sz S b else 999) else sz S j)
    have r : ∀ j, ri M3 69 j = if j = 14 + a then nI (if sz S a + sz S b < 999 then sz S a + sz S b else 999) else ri M 69 j := by intro j; rw [h3, ri_wi]; simp
    have A1 : Ar M3 69 S1 := by
      refine ⟨fun i hi => ?_, ?_, ?_, fun j hj => ?_, ?_, ?_⟩
      · have hi : i < L.length := hi
        rw [r, if_neg (by omega)]; exact hA.1 i hi
      · rw [r, if_neg (by omega)]; exact hA.2.1
      · rw [r, if_neg (by omega)]; exact hA.2.2.1
      · rw [r]
        show _ = nI (if j = a then _ else sz S j)
        by_cases hz : j = a
        · rw [if_pos (by omega), if_pos hz]
        · rw [if_neg (by omega), if_neg hz]; exact hA.2.2.2.1 j hj
      · rw [r, if_neg (by omega)]; exact hA.2.2.2.2.1
      · rw [r, if_neg (by omega)]; exact hA.2.2.2.2.2
    have ok1 : SOk S1 := by
      refine ⟨hS.1, hS.2.1, h12, hT, hS.2.2.2.2.1, fun j => ?_⟩
      show (if j = a then (if sz S a + sz S b < 999 then sz S a + sz S b else 999) else sz S j) ≤ 999
      have := hS.2.2.2.2.2 j
      split
      · split <;> omega
      · exact this
    refine r_leave (S := S1) hb ok1 A1 (fun M4 s4 A4 => hK M4 ((hSa.trans (by rw [h3]; exact Sa.wi)).trans s4) ?_)
    have e : mgS S a b = lvS S1 b := by
      show (sn S, clr (sb S) (2 ^ b), sy S, sd S, sortC (mgC a b (sc S)), _) = (sn S, clr (sb S) (2 ^ b), sy S, sd S, L, _)
      rw [← he]
      rfl
    rw [e]
    exact A4
  intro n
  induction n with
  | zero =>
    intro L M hn h12 hT hs hnb he hSa hA
    have hno : ∀ m ∈ L, m.testBit b = false := fun m hm => by
      have := List.countP_eq_zero.mp hn m hm
      simpa using this
    refine sg_X9_doPop_41 ?_
    rw [if_neg (by decide)]
    have scan : ∀ (f i : Nat), f + i = L.length → RV (d + 3) μX9_doPop 49 [(0, .ref 58), (1, .int (nI a)), (2, .int (nI b)), (3, .int x3), (4, .int x4), (5, .int 1), (6, .int (nI i))] [] M K := by
      intro f
      induction f with
      | zero =>
        intro i hi
        refine sg_X9_doPop_49 ?_
        have hl : ri M 69 12 = nI L.length := hA.2.1
        rw [x_12, hl, if_pos (by rw [nI_leI (by omega) (by omega)]; omega), if_pos (by rw [nI_leI (by omega) (by omega)]; omega)]
        refine sg_X9_doPop_98 ?_
        rw [if_pos rfl]
        exact fin L M h12 hT hs hno he hSa hA
      | succ f ih =>
        intro i hi
        have hlt : i < L.length := by omega
        have hmem : L[i]?.getD 0 ∈ L := by rw [List.getElem?_eq_getElem hlt]; exact List.getElem_mem _
        refine sg_X9_doPop_49 ?_
        have hl : ri M 69 12 = nI L.length := hA.2.1
        rw [x_12, hl, if_neg (by rw [nI_leI (by omega) (by omega)]; omega)]
        refine ⟨n_in (by omega) (by decide), ?_⟩
        have hrd : ri M 69 i = nI (cdm (L[i]?.getD 0)) := hA.1 i hlt
        rw [show nx (nI i) = i from nI_clamp (by omega), hrd]
        refine r_has (hT _ hmem) hb ?_
        rw [hno _ hmem, if_pos (by decide), nI_1]
        exact ih (i + 1) (by omega)
    exact scan L.length 0 rfl
  | succ n ihn =>
    intro L M hn h12 hT hs hnb he hSa hA
    refine sg_X9_doPop_41 ?_
    rw [if_neg (by decide)]
    have scan : ∀ (f i : Nat), f + i = L.length → (∀ u, u < i → (L[u]?.getD 0).testBit b = false) → RV (d + 3) μX9_doPop 49 [(0, .ref 58), (1, .int (nI a)), (2, .int (nI b)), (3, .int x3), (4, .int x4), (5, .int 1), (6, .int (nI i))] [] M K := by
      intro f
      induction f with
      | zero =>
        intro i hi hno
        exfalso
        have : L.countP (fun x => x.testBit b) = 0 := by
          rw [List.countP_eq_zero]
          intro m hm
          obtain ⟨u, hu⟩ := List.mem_iff_getElem?.mp hm
          have hlt := (List.getElem?_eq_some_iff.mp hu).1
          have := hno u (by omega)
          rw [hu] at this
          simpa using this
        omega
      | succ f ih =>
        intro i hi hno
        have hlt : i < L.length := by omega
        have hmem : L[i]?.getD 0 ∈ L := by rw [List.getElem?_eq_getElem hlt]; exact List.getElem_mem _
        have hl : ri M 69 12 = nI L.length := hA.2.1
        have hrd : ri M 69 i = nI (cdm (L[i]?.getD 0)) := hA.1 i hlt
        refine sg_X9_doPop_49 ?_
        rw [x_12, hl, if_neg (by rw [nI_leI (by omega) (by omega)]; omega)]
        refine ⟨n_in (by omega) (by decide), ?_⟩
        rw [show nx (nI i) = i from nI_clamp (by omega), hrd]
        have hTv := hT _ hmem
        refine r_has hTv hb ?_
        cases htb : (L[i]?.getD 0).testBit b with
        | false =>
          rw [if_pos (by decide), nI_1]
          exact ih (i + 1) (by omega) (fun u hu => by
            rcases Nat.eq_or_lt_of_le (Nat.le_of_lt_succ hu) with q | q
            · rw [q]; exact htb
            · exact hno u q)
        | true =>
          rw [if_neg (by decide), hl, if_neg (by rw [nI_leI (by omega) (by omega)]; omega)]
          refine sg_X9_doPop_98 ?_
          rw [if_neg (by decide)]
          refine ⟨n_in (by omega) (by decide), ?_⟩
          rw [show nx (nI i) = i from nI_clamp (by omega), hrd]
          generalize L[i]?.getD 0 = v at hmem hTv htb
          have hva : v.testBit a = false := by
            cases q : v.testBit a with
            | false => rfl
            | true => exact absurd (and_pr.mpr ⟨q, htb⟩) (hnb v hmem)
          obtain ⟨f1, f2, f3, f4, f5⟩ := fab_ok hTv ha hb htb hva
          obtain ⟨x8, y8, z8, -, -, -, -, -, -, -⟩ := bxyz v hTv.1 hTv.2
          have okL : SOk (setC S L) := hS.set h12 hT
          have fl : ∀ x, x < 8 → fab a b x < 8 := fun x hx => by unfold fab; split <;> omega
          have hv2 : ∀ x, x < 8 → (nI x = nI b ↔ x = b) := fun x hx => nI_eq (by omega) (by omega)
          refine r_takeCorner (S := setC S L) okL hmem hA (fun M1 s1 A1 => ?_)
          have len := tk_len hmem
          have cnt := tk_cnt (b := b) hmem
          rw [htb, if_pos rfl] at cnt
          have okT : SOk (setC S (tk v L)) := hS.set (by omega) (tk_T3 hT)
          have stepT : T3 (rpl a b v) := rpl_T3 v hTv.1 hTv.2 a ha b hb (hnb v hmem)
          -- what follows when the corner has come back
          have back : ∀ M6, Sa M1 M6 → Ar M6 69 (setC (setC S (tk v L)) (ins (tri (fab a b (bx v)) (fab a b (bY v)) (fab a b (bz v))) (sc (setC S (tk v L))))) → RV (d + 3) μX9_doPop 41 [(0, .ref 58), (1, .int (nI a)), (2, .int (nI b)), (3, .int x3), (4, .int x4), (5, .int 1)] [] M6 K := by
            intro M6 s6 A6
            rw [f1, sc_setC] at A6
            have inT : ∀ m ∈ ins (rpl a b v) (tk v L), T3 m := fun m hm => by
              rcases ins_mem.mp hm with q | q
              · rw [q]; exact stepT
              · exact tk_T3 hT m q
            refine ihn (ins (rpl a b v) (tk v L)) M6 ?_ (by rw [ins_len]; omega) inT (ins_srt (tk_srt hmem hs)) ?_ ?_ ((hSa.trans s1).trans s6) A6
            · rw [ins_cnt, f5]; show _ + 0 = n; omega
            · intro m hm z
              rcases ins_mem.mp hm with q | q
              · rw [q] at z; have := (and_pr.mp z).2; rw [f5] at this; exact absurd this (by decide)
              · exact hnb m (tk_mem q) z
            · rw [pop_step (fun m hm => ?_) hmem f5]
              · exact he
              · obtain ⟨x, hx, rfl⟩ := List.mem_map.mp hm
                exact rpl_T3 x (hT x hx).1 (hT x hx).2 a ha b hb (hnb x hx)
          have last : RV (d + 3) μX9_doPop 164 [(0, .ref 58), (1, .int (nI a)), (2, .int (nI b)), (3, .int x3), (4, .int x4), (5, .int 1), (6, .int (nI i)), (7, .int (nI (cdm v)))] [.int (nI (fab a b (bY v))), .int (nI (fab a b (bx v))), .ref 58] M1 K := by
            refine sg_X9_doPop_164 ?_
            refine r_lord2 hTv ?_
            have add := r_addCorner (d := d) (M0 := M1) (S := setC S (tk v L)) (a := fab a b (bx v)) (b := fab a b (bY v)) (c := fab a b (bz v)) (K := fun M6 => RV (d + 3) μX9_doPop 41 [(0, .ref 58), (1, .int (nI a)), (2, .int (nI b)), (3, .int x3), (4, .int x4), (5, .int 1)] [] M6 K) (fl _ x8) (fl _ y8) (fl _ z8) f2 f3 f4 okT (tk_srt hmem hs) (by rw [sc_setC]; omega) A1 back
            by_cases q : bz v = b
            · rw [if_pos ((hv2 _ z8).mpr q)]
              have e : fab a b (bz v) = a := by unfold fab; rw [if_pos q]
              rw [e] at add
              exact add
            · rw [if_neg (fun z => q ((hv2 _ z8).mp z))]
              have e : fab a b (bz v) = bz v := by unfold fab; rw [if_neg q]
              rw [e] at add
              exact r_lord2 hTv add
          have mid : RV (d + 3) μX9_doPop 144 [(0, .ref 58), (1, .int (nI a)), (2, .int (nI b)), (3, .int x3), (4, .int x4), (5, .int 1), (6, .int (nI i)), (7, .int (nI (cdm v)))] [.int (nI (fab a b (bx v))), .ref 58] M1 K := by
            refine sg_X9_doPop_144 ?_
            refine r_lord1 hTv ?_
            by_cases q : bY v = b
            · rw [if_pos ((hv2 _ y8).mpr q)]
              have e : fab a b (bY v) = a := by unfold fab; rw [if_pos q]
              rw [e] at last
              exact last
            · rw [if_neg (fun z => q ((hv2 _ y8).mp z))]
              have e : fab a b (bY v) = bY v := by unfold fab; rw [if_neg q]
              rw [e] at last
              exact r_lord1 hTv last
          refine r_lord0 hTv ?_
          by_cases q : bx v = b
          · rw [if_pos ((hv2 _ x8).mpr q)]
            have e : fab a b (bx v) = a := by unfold fab; rw [if_pos q]
            rw [e] at mid
            exact mid
          · rw [if_neg (fun z => q ((hv2 _ x8).mp z))]
            have e : fab a b (bx v) = bx v := by unfold fab; rw [if_neg q]
            rw [e] at mid
            exact r_lord0 hTv mid
    exact scan L.length 0 rfl (fun u h => absurd h (Nat.not_lt_zero _))
