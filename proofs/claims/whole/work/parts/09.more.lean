section More
variable {d : Nat} {μ : Mt} {pc : Nat} {lv : List (Nat × Value)} {st : List Value} {M : Mem} {Q : Option Value → Mem → Prop}
theorem lput_has2 {i n : Nat} {v : Value} {lv lv' : List (Nat × Value)} {ad : Nat → Nat} {ls : Array Slot} (hl : lput i v lv = lv') (hf : (lv.all (fun q => !(q.1 + 1 == i && q.2.category == 2) && !(q.1 == i + 1))) = true) (h : lv_has ls n ((i, cv ad v) :: (lv.map (cl ad)).filter (fun q => !(q.1 == i) && (!(q.1 == i + 1) && !(q.1 + 1 == i && q.2.category == 2))))) : lv_has ls n (lv'.map (cl ad)) := by
  refine ⟨h.1, h.2.1, fun q hq => h.2.2 q ?_⟩
  obtain ⟨a, ha, rfl⟩ := List.mem_map.mp hq
  rw [← hl] at ha
  rcases lput_mem ha with rfl | ⟨h1, h2⟩
  · exact List.mem_cons_self
  · refine List.mem_cons_of_mem _ (List.mem_filter.mpr ⟨List.mem_map.mpr ⟨a, h1, rfl⟩, ?_⟩)
    have h3 := List.all_eq_true.mp hf a h1
    simp only [Bool.and_eq_true] at h3
    simp only [cl, cv_cat]
    simp only [Bool.and_eq_true]
    exact ⟨by simpa using h2, h3.2, h3.1⟩
theorem rn_lstore_n {k : Fin 4} {i : Nat} {x : Int64} {lv' : List (Nat × Value)} (hd : decode μ.2.1 pc = .ok (.lstore_n k, 1)) (hi : (k : Nat) = i) (hn : i + 1 < μ.2.2.1) (hf : (lv.all (fun q => !(q.1 + 1 == i && q.2.category == 2) && !(q.1 == i + 1))) = true) (hl : lput i (Value.long x) lv = lv') (h : Rn d μ (pc + 1) lv' st M Q) : Rn d μ pc lv (.long x :: st) M Q := by
  intro b0 ad dC dI cA p l e R s m args below meth c cells slots Z hX hkk H locs ls hH hlv
  exact lv_lstore_n hX.1 hX.2.1 hd hi hlv hn rfl (fun ls hls => h b0 ad dC dI cA p l e R s m args below meth c cells slots Z hX hkk H locs ls hH (lput_has2 hl hf hls))
theorem rn_lswitch {dflt off : Int} {ps : Array (Int × Int)} {len : Nat} {x : Int32} {tgt : Nat} (hd : decode μ.2.1 pc = .ok (.lookupswitch dflt ps, len)) (hp : (ps.toList.zip (ps.toList.drop 1)).all (fun (a, next) => a.1 < next.1) = true) (ho : Op.lookupswitch.offset ps.toList dflt x.toInt = off) (ht : (pc : Int) + off = (tgt : Int)) (h : Rn d μ tgt lv st M Q) : Rn d μ pc lv (.int x :: st) M Q := by
  intro b0 ad dC dI cA p l e R s m args below meth c cells slots Z hX hkk H locs ls hH hlv
  exact lv_lookup hX.1 hX.2.1 hd hp ho ht (h b0 ad dC dI cA p l e R s m args below meth c cells slots Z hX hkk H locs ls hH hlv)
end More
