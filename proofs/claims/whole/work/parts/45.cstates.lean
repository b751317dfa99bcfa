/-! the class: what changes the tower now -/
theorem Tw.fd2 {I : Pl} {N : Nat → Nat} {t v : Nat} (h : Tw I t N) : Tw (upN I t 2 (nI v)) t (setN N 1 v) := by
  obtain ⟨⟨h0, h1, h2, h3, h4, h5, h6, h7, h8⟩, hs, hc⟩ := h
  refine ⟨⟨?_, ?_, ?_, ?_, ?_, ?_, ?_, ?_, ?_⟩, fun j hj => ⟨?_, ?_, ?_⟩, fun j hj => ⟨?_, ?_, ?_, ?_⟩⟩
  · rw [upN_nk (by decide), setN_o (by decide)]; exact h0
  · rw [upN_nk (by decide), setN_o (by decide)]; exact h1
  · rw [upN_s, setN_s]
  · rw [upN_nk (by decide), setN_o (by decide)]; exact h3
  · rw [upN_nk (by decide), setN_o (by decide)]; exact h4
  · rw [upN_nk (by decide), setN_o (by decide)]; exact h5
  · rw [upN_nk (by decide), setN_o (by decide)]; exact h6
  · rw [upN_nk (by decide), setN_o (by decide)]; exact h7
  · rw [upN_nk (by decide), setN_o (by decide)]; exact h8
  · rw [upN_no (by omega), setN_o (by omega)]; exact (hs j hj).1
  · rw [upN_no (by omega), setN_o (by omega)]; exact (hs j hj).2.1
  · rw [upN_no (by omega), setN_o (by omega)]; exact (hs j hj).2.2
  · rw [upN_no (by omega), setN_o (by omega)]; exact (hc j hj).1
  · rw [upN_no (by omega), setN_o (by omega)]; exact (hc j hj).2.1
  · rw [upN_no (by omega), setN_o (by omega)]; exact (hc j hj).2.2.1
  · rw [upN_no (by omega), setN_o (by omega)]; exact (hc j hj).2.2.2
theorem Tw.fd3 {I : Pl} {N : Nat → Nat} {t v : Nat} (h : Tw I t N) : Tw (upN I t 3 (nI v)) t (setN N 4 v) := by
  obtain ⟨⟨h0, h1, h2, h3, h4, h5, h6, h7, h8⟩, hs, hc⟩ := h
  refine ⟨⟨?_, ?_, ?_, ?_, ?_, ?_, ?_, ?_, ?_⟩, fun j hj => ⟨?_, ?_, ?_⟩, fun j hj => ⟨?_, ?_, ?_, ?_⟩⟩
  · rw [upN_nk (by decide), setN_o (by decide)]; exact h0
  · rw [upN_nk (by decide), setN_o (by decide)]; exact h1
  · rw [upN_nk (by decide), setN_o (by decide)]; exact h2
  · rw [upN_s, setN_s]
  · rw [upN_nk (by decide), setN_o (by decide)]; exact h4
  · rw [upN_nk (by decide), setN_o (by decide)]; exact h5
  · rw [upN_nk (by decide), setN_o (by decide)]; exact h6
  · rw [upN_nk (by decide), setN_o (by decide)]; exact h7
  · rw [upN_nk (by decide), setN_o (by decide)]; exact h8
  · rw [upN_no (by omega), setN_o (by omega)]; exact (hs j hj).1
  · rw [upN_no (by omega), setN_o (by omega)]; exact (hs j hj).2.1
  · rw [upN_no (by omega), setN_o (by omega)]; exact (hs j hj).2.2
  · rw [upN_no (by omega), setN_o (by omega)]; exact (hc j hj).1
  · rw [upN_no (by omega), setN_o (by omega)]; exact (hc j hj).2.1
  · rw [upN_no (by omega), setN_o (by omega)]; exact (hc j hj).2.2.1
  · rw [upN_no (by omega), setN_o (by omega)]; exact (hc j hj).2.2.2
theorem Tw.fd4 {I : Pl} {N : Nat → Nat} {t v : Nat} (h : Tw I t N) : Tw (upN I t 4 (nI v)) t (setN N 5 v) := by
  obtain ⟨⟨h0, h1, h2, h3, h4, h5, h6, h7, h8⟩, hs, hc⟩ := h
  refine ⟨⟨?_, ?_, ?_, ?_, ?_, ?_, ?_, ?_, ?_⟩, fun j hj => ⟨?_, ?_, ?_⟩, fun j hj => ⟨?_, ?_, ?_, ?_⟩⟩
  · rw [upN_nk (by decide), setN_o (by decide)]; exact h0
  · rw [upN_nk (by decide), setN_o (by decide)]; exact h1
  · rw [upN_nk (by decide), setN_o (by decide)]; exact h2
  · rw [upN_nk (by decide), setN_o (by decide)]; exact h3
  · rw [upN_s, setN_s]
  · rw [upN_nk (by decide), setN_o (by decide)]; exact h5
  · rw [upN_nk (by decide), setN_o (by decide)]; exact h6
  · rw [upN_nk (by decide), setN_o (by decide)]; exact h7
  · rw [upN_nk (by decide), setN_o (by decide)]; exact h8
  · rw [upN_no (by omega), setN_o (by omega)]; exact (hs j hj).1
  · rw [upN_no (by omega), setN_o (by omega)]; exact (hs j hj).2.1
  · rw [upN_no (by omega), setN_o (by omega)]; exact (hs j hj).2.2
  · rw [upN_no (by omega), setN_o (by omega)]; exact (hc j hj).1
  · rw [upN_no (by omega), setN_o (by omega)]; exact (hc j hj).2.1
  · rw [upN_no (by omega), setN_o (by omega)]; exact (hc j hj).2.2.1
  · rw [upN_no (by omega), setN_o (by omega)]; exact (hc j hj).2.2.2
theorem Tw.fd5 {I : Pl} {N : Nat → Nat} {t v : Nat} (h : Tw I t N) : Tw (upN I t 5 (nI v)) t (setN N 6 v) := by
  obtain ⟨⟨h0, h1, h2, h3, h4, h5, h6, h7, h8⟩, hs, hc⟩ := h
  refine ⟨⟨?_, ?_, ?_, ?_, ?_, ?_, ?_, ?_, ?_⟩, fun j hj => ⟨?_, ?_, ?_⟩, fun j hj => ⟨?_, ?_, ?_, ?_⟩⟩
  · rw [upN_nk (by decide), setN_o (by decide)]; exact h0
  · rw [upN_nk (by decide), setN_o (by decide)]; exact h1
  · rw [upN_nk (by decide), setN_o (by decide)]; exact h2
  · rw [upN_nk (by decide), setN_o (by decide)]; exact h3
  · rw [upN_nk (by decide), setN_o (by decide)]; exact h4
  · rw [upN_s, setN_s]
  · rw [upN_nk (by decide), setN_o (by decide)]; exact h6
  · rw [upN_nk (by decide), setN_o (by decide)]; exact h7
  · rw [upN_nk (by decide), setN_o (by decide)]; exact h8
  · rw [upN_no (by omega), setN_o (by omega)]; exact (hs j hj).1
  · rw [upN_no (by omega), setN_o (by omega)]; exact (hs j hj).2.1
  · rw [upN_no (by omega), setN_o (by omega)]; exact (hs j hj).2.2
  · rw [upN_no (by omega), setN_o (by omega)]; exact (hc j hj).1
  · rw [upN_no (by omega), setN_o (by omega)]; exact (hc j hj).2.1
  · rw [upN_no (by omega), setN_o (by omega)]; exact (hc j hj).2.2.1
  · rw [upN_no (by omega), setN_o (by omega)]; exact (hc j hj).2.2.2
theorem PlF.out {I : Pl} {o k : Nat} {v : Int32} (h : PlF I) (h1 : ¬ o = 225) (h2 : ¬ o = 226) : PlF (upN I o k v) := ⟨by rw [upN_no (fun q => h1 q.symm)]; exact h.1, fun d hd => by rw [upN_no (fun q => h2 q.symm)]; exact h.2 d hd⟩
theorem PlF.fr {I J : Pl} {a b : Nat} (h : PlF I) (hF : Fr I J a b) (h1 : b ≤ 225 ∨ 226 < a) : PlF J := ⟨by rw [hF 225 8 (by omega)]; exact h.1, fun d hd => by rw [hF 226 d (by omega)]; exact h.2 d hd⟩
set_option maxRecDepth 100000 in
theorem cs_plait {d : Nat} {I : Pl} {N : Nat → Nat} {m : Nat} {F : Nat → Nat → Nat} {x : Int32} (hS : TSC I (N, m, F)) (hI : TSI (N, m, F)) : EvX (d + 4) 91 [.ref 0, .int x] I (fun v K => v = some (.int (nPlait (N, m, F) x).1) ∧ TSC K (nPlait (N, m, F) x).2 ∧ Only I K tsP ∧ (PlF K ∨ (K = I ∧ (nPlait (N, m, F) x).2 = (N, m, F)))) := by
  have hT : Tw I 247 N := hS.1
  have hN : TI N := hI.1
  obtain ⟨b0, b1, b2, b3, b4, b5, b6, b7, b8, bS, bC, bS1, bC1, bZ, bG⟩ := id hN
  obtain ⟨s6, s7, s64⟩ := hN.set64
  refine EvX.enter rfl rfl rfl ?_
  refine WP.run (pc' := 7) (L' := [.ref 0, .int x]) (st' := [.int (I 247 0)]) (I1 := I) 3 rfl ?_
  refine WP.cg (st' := [.int (nI (N 8))]) rfl (congrArg (fun z : Int32 => (.int z :: [] : List Value)) (hT.f0)) rfl ?_
  refine WP.run (pc' := if ¬ (nI (N 8)) = 0 then 13 else 10) (L' := [.ref 0, .int x]) (st' := []) (I1 := I) 1 rfl ?_
  refine WP.br (fun h1 => ?_) (fun h1 => ?_)
  · have h1 : ¬ N 8 = 0 := fun q => h1 (nI_eq_r q)
    refine WP.run (pc' := 18) (L' := [.ref 0, .int x]) (st' := [.int x, .ref 247]) (I1 := I) 3 rfl ?_
    refine WP.callB (rest := []) rfl rfl (sp_isSet (d := d + 2) (x := x) hT hN) (fun h2 => ?_) (fun h2 => ?_)
    · refine WP.run (pc' := 27) (L' := [.ref 0, .int x]) (st' := []) (I1 := I) 1 rfl ?_
      have hx_j : inA x (2 ^ N 2) := (by assumption)
      obtain ⟨j, hj, rfl⟩ := inA_of hx_j (by omega)
      have hand := Nat.and_le_left (n := j) (m := N 7)
      refine WP.run (pc' := 35) (L' := [.ref 0, .int (nI j)]) (st' := [.int (I 247 6), .int (nI j)]) (I1 := I) 4 rfl ?_
      refine WP.cg (st' := [.int (nI (N 7)), .int (nI j)]) rfl (congrArg (fun z : Int32 => (.int z :: [.int (nI j)] : List Value)) (hT.f6)) rfl ?_
      refine WP.run (pc' := 36) (L' := [.ref 0, .int (nI j)]) (st' := [.int ((nI j) &&& (nI (N 7)))]) (I1 := I) 1 rfl ?_
      refine WP.cg (st' := [.int (nI (j &&& (N 7)))]) rfl (congrArg (fun z : Int32 => (.int z :: [] : List Value)) (nI_and j (N 7))) rfl ?_
      refine WP.run (pc' := if (nI (j &&& (N 7))) = 0 then 42 else 39) (L' := [.ref 0, .int (nI j)]) (st' := []) (I1 := I) 1 rfl ?_
      refine WP.br (fun h3 => ?_) (fun h3 => ?_)
      · have h3 : j &&& (N 7) = 0 := nI_eq_ (by omega) (by omega) h3
        refine WP.run (pc' := 43) (L' := [.ref 0, .int (nI j)]) (st' := [.ref 0]) (I1 := I) 1 rfl ?_
        refine WP.callX (rest := []) rfl rfl (cs_begin (d := d) hS hI) (fun v J hv => ?_)
        obtain ⟨rfl, hB, hP, hO⟩ := hv
        have hJ : Tw J 247 N := hB.1
        refine WP.run (pc' := 55) (L' := [.ref 0, .int (nI j)]) (st' := [.int (nI j)]) (I1 := (upN J 247 5 (nI j))) 5 rfl ?_
        refine WP.callV (rest := []) rfl rfl (sp_bitCount (d := d + 2) (m := j) (by omega)) ?_
        exact WP.ret rfl rfl (by
                  have e : nPlait (N, m, F) (nI j) = ((nI (popc j)), (setN N 6 j, (actS (N, m, F)).2)) := by (unfold nPlait; dsimp only; (repeat rw [nOf_nI (by omega)]); (repeat first | rw [if_pos (by first | assumption | omega | (refine inA_iff.mpr ?_; omega) | (intro q; have q2 := inA_iff.mp q; omega) | (intro q; omega) | (refine ⟨?_, ?_⟩ <;> rw [nI_int (by omega)] <;> omega) | (rw [nI_int (by omega)]; omega) | (intro q; rw [nI_int (by omega)] at q; omega) | (refine ⟨?_, ?_, ?_⟩ <;> omega) | (intro q; obtain ⟨q1, q2, q3⟩ := q; omega) | fail)] | rw [if_neg (by first | assumption | omega | (refine inA_iff.mpr ?_; omega) | (intro q; have q2 := inA_iff.mp q; omega) | (intro q; omega) | (refine ⟨?_, ?_⟩ <;> rw [nI_int (by omega)] <;> omega) | (rw [nI_int (by omega)]; omega) | (intro q; rw [nI_int (by omega)] at q; omega) | (refine ⟨?_, ?_, ?_⟩ <;> omega) | (intro q; obtain ⟨q1, q2, q3⟩ := q; omega) | fail)])) <;> rfl
                  rw [e]
                  exact ⟨rfl, hB.now hJ.fd5 (fun o k q => upN_no (by omega)), (hO.up (Or.inr ⟨by decide, by decide⟩)), Or.inl (hP.out (by decide) (by decide))⟩)
      · have h3 : ¬ j &&& (N 7) = 0 := fun q => h3 (nI_eq_r q)
        refine WP.run (pc' := 41) (L' := [.ref 0, .int (nI j)]) (st' := [.int (-1000002)]) (I1 := I) 1 rfl ?_
        exact WP.ret rfl rfl (by
                  have e : nPlait (N, m, F) (nI j) = ((-1000002), (N, m, F)) := by (unfold nPlait; dsimp only; (repeat rw [nOf_nI (by omega)]); (repeat first | rw [if_pos (by first | assumption | omega | (refine inA_iff.mpr ?_; omega) | (intro q; have q2 := inA_iff.mp q; omega) | (intro q; omega) | (refine ⟨?_, ?_⟩ <;> rw [nI_int (by omega)] <;> omega) | (rw [nI_int (by omega)]; omega) | (intro q; rw [nI_int (by omega)] at q; omega) | (refine ⟨?_, ?_, ?_⟩ <;> omega) | (intro q; obtain ⟨q1, q2, q3⟩ := q; omega) | fail)] | rw [if_neg (by first | assumption | omega | (refine inA_iff.mpr ?_; omega) | (intro q; have q2 := inA_iff.mp q; omega) | (intro q; omega) | (refine ⟨?_, ?_⟩ <;> rw [nI_int (by omega)] <;> omega) | (rw [nI_int (by omega)]; omega) | (intro q; rw [nI_int (by omega)] at q; omega) | (refine ⟨?_, ?_, ?_⟩ <;> omega) | (intro q; obtain ⟨q1, q2, q3⟩ := q; omega) | fail)])) <;> rfl
                  rw [e]
                  exact ⟨rfl, hS, Only.rfl_, Or.inr ⟨rfl, rfl⟩⟩)
    · refine WP.run (pc' := 26) (L' := [.ref 0, .int x]) (st' := [.int (-1000001)]) (I1 := I) 2 rfl ?_
      exact WP.ret rfl rfl (by
              have e : nPlait (N, m, F) x = ((-1000001), (N, m, F)) := by (unfold nPlait; dsimp only; (repeat rw [nOf_nI (by omega)]); (repeat first | rw [if_pos (by first | assumption | omega | (refine inA_iff.mpr ?_; omega) | (intro q; have q2 := inA_iff.mp q; omega) | (intro q; omega) | (refine ⟨?_, ?_⟩ <;> rw [nI_int (by omega)] <;> omega) | (rw [nI_int (by omega)]; omega) | (intro q; rw [nI_int (by omega)] at q; omega) | (refine ⟨?_, ?_, ?_⟩ <;> omega) | (intro q; obtain ⟨q1, q2, q3⟩ := q; omega) | fail)] | rw [if_neg (by first | assumption | omega | (refine inA_iff.mpr ?_; omega) | (intro q; have q2 := inA_iff.mp q; omega) | (intro q; omega) | (refine ⟨?_, ?_⟩ <;> rw [nI_int (by omega)] <;> omega) | (rw [nI_int (by omega)]; omega) | (intro q; rw [nI_int (by omega)] at q; omega) | (refine ⟨?_, ?_, ?_⟩ <;> omega) | (intro q; obtain ⟨q1, q2, q3⟩ := q; omega) | fail)])) <;> rfl
              rw [e]
              exact ⟨rfl, hS, Only.rfl_, Or.inr ⟨rfl, rfl⟩⟩)
  · have h1 : N 8 = 0 := nI_eq_ (by omega) (by omega) (Decidable.byContradiction h1)
    refine WP.run (pc' := 12) (L' := [.ref 0, .int x]) (st' := [.int (-1000002)]) (I1 := I) 1 rfl ?_
    exact WP.ret rfl rfl (by
          have e : nPlait (N, m, F) x = ((-1000002), (N, m, F)) := by (unfold nPlait; dsimp only; (repeat rw [nOf_nI (by omega)]); (repeat first | rw [if_pos (by first | assumption | omega | (refine inA_iff.mpr ?_; omega) | (intro q; have q2 := inA_iff.mp q; omega) | (intro q; omega) | (refine ⟨?_, ?_⟩ <;> rw [nI_int (by omega)] <;> omega) | (rw [nI_int (by omega)]; omega) | (intro q; rw [nI_int (by omega)] at q; omega) | (refine ⟨?_, ?_, ?_⟩ <;> omega) | (intro q; obtain ⟨q1, q2, q3⟩ := q; omega) | fail)] | rw [if_neg (by first | assumption | omega | (refine inA_iff.mpr ?_; omega) | (intro q; have q2 := inA_iff.mp q; omega) | (intro q; omega) | (refine ⟨?_, ?_⟩ <;> rw [nI_int (by omega)] <;> omega) | (rw [nI_int (by omega)]; omega) | (intro q; rw [nI_int (by omega)] at q; omega) | (refine ⟨?_, ?_, ?_⟩ <;> omega) | (intro q; obtain ⟨q1, q2, q3⟩ := q; omega) | fail)])) <;> rfl
          rw [e]
          exact ⟨rfl, hS, Only.rfl_, Or.inr ⟨rfl, rfl⟩⟩)
set_option maxRecDepth 100000 in
theorem cs_day {d : Nat} {I : Pl} {N : Nat → Nat} {m : Nat} {F : Nat → Nat → Nat} (hS : TSC I (N, m, F)) (hI : TSI (N, m, F)) : EvX (d + 4) 93 [.ref 0] I (fun v K => v = some (.int (nDay (N, m, F)).1) ∧ TSC K (nDay (N, m, F)).2 ∧ Only I K tsP ∧ (PlF K ∨ (K = I ∧ (nDay (N, m, F)).2 = (N, m, F)))) := by
  have hT : Tw I 247 N := hS.1
  have hN : TI N := hI.1
  obtain ⟨b0, b1, b2, b3, b4, b5, b6, b7, b8, bS, bC, bS1, bC1, bZ, bG⟩ := id hN
  obtain ⟨s6, s7, s64⟩ := hN.set64
  refine EvX.enter rfl rfl rfl ?_
  refine WP.run (pc' := 7) (L' := [.ref 0]) (st' := [.int (I 247 0)]) (I1 := I) 3 rfl ?_
  refine WP.cg (st' := [.int (nI (N 8))]) rfl (congrArg (fun z : Int32 => (.int z :: [] : List Value)) (hT.f0)) rfl ?_
  refine WP.run (pc' := if ¬ (nI (N 8)) = 0 then 13 else 10) (L' := [.ref 0]) (st' := []) (I1 := I) 1 rfl ?_
  refine WP.br (fun h1 => ?_) (fun h1 => ?_)
  · have h1 : ¬ N 8 = 0 := fun q => h1 (nI_eq_r q)
    refine WP.run (pc' := 20) (L' := [.ref 0]) (st' := [.int (I 247 3)]) (I1 := I) 3 rfl ?_
    refine WP.cg (st' := [.int (nI (N 4))]) rfl (congrArg (fun z : Int32 => (.int z :: [] : List Value)) (hT.f3)) rfl ?_
    refine WP.run (pc' := if (nI (N 4)) < (nI 999) then 29 else 26) (L' := [.ref 0]) (st' := []) (I1 := I) 2 rfl ?_
    refine WP.br (fun h2 => ?_) (fun h2 => ?_)
    · have h2 : N 4 < 999 := nI_lt_ (by omega) (by omega) h2
      refine WP.run (pc' := 30) (L' := [.ref 0]) (st' := [.ref 0]) (I1 := I) 1 rfl ?_
      refine WP.callX (rest := []) rfl rfl (cs_begin (d := d) hS hI) (fun v J hv => ?_)
      obtain ⟨rfl, hB, hP, hO⟩ := hv
      have hJ : Tw J 247 N := hB.1
      refine WP.run (pc' := 42) (L' := [.ref 0]) (st' := [.int (nI 1), .ref 247, .ref 247]) (I1 := J) 5 rfl ?_
      refine WP.callV (rest := [.ref 247]) rfl rfl (sp_lengthIn (d := d + 1) (n := 1) hJ hN (by omega)) ?_
      refine WP.run (pc' := 56) (L' := [.ref 0]) (st' := [.int (J 247 3), .ref 247]) (I1 := (upN J 247 2 (nI (min 99 (N 1 + 1))))) 5 rfl ?_
      refine WP.cg (st' := [.int (nI (N 4)), .ref 247]) rfl (congrArg (fun z : Int32 => (.int z :: [.ref 247] : List Value)) (hJ.f3)) rfl ?_
      refine WP.run (pc' := 58) (L' := [.ref 0]) (st' := [.int ((nI (N 4)) + (nI 1)), .ref 247]) (I1 := (upN J 247 2 (nI (min 99 (N 1 + 1))))) 2 rfl ?_
      refine WP.cg (st' := [.int (nI ((N 4) + 1)), .ref 247]) rfl (congrArg (fun z : Int32 => (.int z :: [.ref 247] : List Value)) (nI_add (N 4) 1)) rfl ?_
      refine WP.run (pc' := 68) (L' := [.ref 0]) (st' := [.int (nI ((N 4) + 1))]) (I1 := (upN (upN J 247 2 (nI (min 99 (N 1 + 1)))) 247 3 (nI ((N 4) + 1)))) 4 rfl ?_
      exact WP.ret rfl rfl (by
              have e : nDay (N, m, F) = ((nI ((N 4) + 1)), (dayN N, (actS (N, m, F)).2)) := by (unfold nDay; dsimp only; (repeat rw [nOf_nI (by omega)]); (repeat first | rw [if_pos (by first | assumption | omega | (refine inA_iff.mpr ?_; omega) | (intro q; have q2 := inA_iff.mp q; omega) | (intro q; omega) | (refine ⟨?_, ?_⟩ <;> rw [nI_int (by omega)] <;> omega) | (rw [nI_int (by omega)]; omega) | (intro q; rw [nI_int (by omega)] at q; omega) | (refine ⟨?_, ?_, ?_⟩ <;> omega) | (intro q; obtain ⟨q1, q2, q3⟩ := q; omega) | fail)] | rw [if_neg (by first | assumption | omega | (refine inA_iff.mpr ?_; omega) | (intro q; have q2 := inA_iff.mp q; omega) | (intro q; omega) | (refine ⟨?_, ?_⟩ <;> rw [nI_int (by omega)] <;> omega) | (rw [nI_int (by omega)]; omega) | (intro q; rw [nI_int (by omega)] at q; omega) | (refine ⟨?_, ?_, ?_⟩ <;> omega) | (intro q; obtain ⟨q1, q2, q3⟩ := q; omega) | fail)])) <;> rfl
              rw [e]
              exact ⟨rfl, hB.now (hJ.fd2.fd3) (fun o k q => (upN_no (by omega)).trans (upN_no (by omega))), (hO.up (Or.inr ⟨by decide, by decide⟩)).up (Or.inr ⟨by decide, by decide⟩), Or.inl ((hP.out (by decide) (by decide)).out (by decide) (by decide))⟩)
    · have h2 : ¬ N 4 < 999 := fun q => h2 (nI_lt_r (by omega) q)
      refine WP.run (pc' := 28) (L' := [.ref 0]) (st' := [.int (-1000003)]) (I1 := I) 1 rfl ?_
      exact WP.ret rfl rfl (by
              have e : nDay (N, m, F) = ((-1000003), (N, m, F)) := by (unfold nDay; dsimp only; (repeat rw [nOf_nI (by omega)]); (repeat first | rw [if_pos (by first | assumption | omega | (refine inA_iff.mpr ?_; omega) | (intro q; have q2 := inA_iff.mp q; omega) | (intro q; omega) | (refine ⟨?_, ?_⟩ <;> rw [nI_int (by omega)] <;> omega) | (rw [nI_int (by omega)]; omega) | (intro q; rw [nI_int (by omega)] at q; omega) | (refine ⟨?_, ?_, ?_⟩ <;> omega) | (intro q; obtain ⟨q1, q2, q3⟩ := q; omega) | fail)] | rw [if_neg (by first | assumption | omega | (refine inA_iff.mpr ?_; omega) | (intro q; have q2 := inA_iff.mp q; omega) | (intro q; omega) | (refine ⟨?_, ?_⟩ <;> rw [nI_int (by omega)] <;> omega) | (rw [nI_int (by omega)]; omega) | (intro q; rw [nI_int (by omega)] at q; omega) | (refine ⟨?_, ?_, ?_⟩ <;> omega) | (intro q; obtain ⟨q1, q2, q3⟩ := q; omega) | fail)])) <;> rfl
              rw [e]
              exact ⟨rfl, hS, Only.rfl_, Or.inr ⟨rfl, rfl⟩⟩)
  · have h1 : N 8 = 0 := nI_eq_ (by omega) (by omega) (Decidable.byContradiction h1)
    refine WP.run (pc' := 12) (L' := [.ref 0]) (st' := [.int (-1000002)]) (I1 := I) 1 rfl ?_
    exact WP.ret rfl rfl (by
          have e : nDay (N, m, F) = ((-1000002), (N, m, F)) := by (unfold nDay; dsimp only; (repeat rw [nOf_nI (by omega)]); (repeat first | rw [if_pos (by first | assumption | omega | (refine inA_iff.mpr ?_; omega) | (intro q; have q2 := inA_iff.mp q; omega) | (intro q; omega) | (refine ⟨?_, ?_⟩ <;> rw [nI_int (by omega)] <;> omega) | (rw [nI_int (by omega)]; omega) | (intro q; rw [nI_int (by omega)] at q; omega) | (refine ⟨?_, ?_, ?_⟩ <;> omega) | (intro q; obtain ⟨q1, q2, q3⟩ := q; omega) | fail)] | rw [if_neg (by first | assumption | omega | (refine inA_iff.mpr ?_; omega) | (intro q; have q2 := inA_iff.mp q; omega) | (intro q; omega) | (refine ⟨?_, ?_⟩ <;> rw [nI_int (by omega)] <;> omega) | (rw [nI_int (by omega)]; omega) | (intro q; rw [nI_int (by omega)] at q; omega) | (refine ⟨?_, ?_, ?_⟩ <;> omega) | (intro q; obtain ⟨q1, q2, q3⟩ := q; omega) | fail)])) <;> rfl
          rw [e]
          exact ⟨rfl, hS, Only.rfl_, Or.inr ⟨rfl, rfl⟩⟩)
set_option maxRecDepth 100000 in
theorem cs_cut_ {d : Nat} {I : Pl} {N : Nat → Nat} {m : Nat} {F : Nat → Nat → Nat} {x : Int32} (hS : TSC I (N, m, F)) (hI : TSI (N, m, F)) : EvX (d + 4) 94 [.ref 0, .int x] I (fun v K => v = some (.int (nCut (N, m, F) x).1) ∧ TSC K (nCut (N, m, F) x).2 ∧ Only I K tsP ∧ (PlF K ∨ (K = I ∧ (nCut (N, m, F) x).2 = (N, m, F)))) := by
  have hT : Tw I 247 N := hS.1
  have hN : TI N := hI.1
  obtain ⟨b0, b1, b2, b3, b4, b5, b6, b7, b8, bS, bC, bS1, bC1, bZ, bG⟩ := id hN
  obtain ⟨s6, s7, s64⟩ := hN.set64
  refine EvX.enter rfl rfl rfl ?_
  refine WP.run (pc' := 7) (L' := [.ref 0, .int x]) (st' := [.int (I 247 0)]) (I1 := I) 3 rfl ?_
  refine WP.cg (st' := [.int (nI (N 8))]) rfl (congrArg (fun z : Int32 => (.int z :: [] : List Value)) (hT.f0)) rfl ?_
  refine WP.run (pc' := if ¬ (nI (N 8)) = 0 then 13 else 10) (L' := [.ref 0, .int x]) (st' := []) (I1 := I) 1 rfl ?_
  refine WP.br (fun h1 => ?_) (fun h1 => ?_)
  · have h1 : ¬ N 8 = 0 := fun q => h1 (nI_eq_r q)
    refine WP.run (pc' := if x < (nI 1) then 24 else 18) (L' := [.ref 0, .int x]) (st' := []) (I1 := I) 3 rfl ?_
    refine WP.br (fun h2 => ?_) (fun h2 => ?_)
    · have h2 : x.toInt < 1 := (iLtL (n := 1) (by omega)).mp h2
      refine WP.run (pc' := 26) (L' := [.ref 0, .int x]) (st' := [.int (-1000001)]) (I1 := I) 1 rfl ?_
      exact WP.ret rfl rfl (by
              have e : nCut (N, m, F) x = ((-1000001), (N, m, F)) := by (unfold nCut; dsimp only; (repeat rw [nOf_nI (by omega)]); (repeat first | rw [if_pos (by first | assumption | omega | (refine inA_iff.mpr ?_; omega) | (intro q; have q2 := inA_iff.mp q; omega) | (intro q; omega) | (refine ⟨?_, ?_⟩ <;> rw [nI_int (by omega)] <;> omega) | (rw [nI_int (by omega)]; omega) | (intro q; rw [nI_int (by omega)] at q; omega) | (refine ⟨?_, ?_, ?_⟩ <;> omega) | (intro q; obtain ⟨q1, q2, q3⟩ := q; omega) | fail)] | rw [if_neg (by first | assumption | omega | (refine inA_iff.mpr ?_; omega) | (intro q; have q2 := inA_iff.mp q; omega) | (intro q; omega) | (refine ⟨?_, ?_⟩ <;> rw [nI_int (by omega)] <;> omega) | (rw [nI_int (by omega)]; omega) | (intro q; rw [nI_int (by omega)] at q; omega) | (refine ⟨?_, ?_, ?_⟩ <;> omega) | (intro q; obtain ⟨q1, q2, q3⟩ := q; omega) | fail)])) <;> rfl
              rw [e]
              exact ⟨rfl, hS, Only.rfl_, Or.inr ⟨rfl, rfl⟩⟩)
    · have h2 : ¬ (x.toInt < 1) := fun q => h2 ((iLtL (n := 1) (by omega)).mpr q)
      refine WP.run (pc' := if x ≤ (nI 99) then 27 else 24) (L' := [.ref 0, .int x]) (st' := []) (I1 := I) 3 rfl ?_
      refine WP.br (fun h3 => ?_) (fun h3 => ?_)
      · have h3 : x.toInt ≤ 99 := (iLeL (n := 99) (by omega)).mp h3
        have hx_j : inA x 100 := (by refine inA_iff.mpr ?_; omega)
        obtain ⟨j, hj, rfl⟩ := inA_of hx_j (by omega)
        rw [nI_int (by omega)] at *
        refine WP.run (pc' := 35) (L' := [.ref 0, .int (nI j)]) (st' := [.int (I 247 2), .int (nI j)]) (I1 := I) 4 rfl ?_
        refine WP.cg (st' := [.int (nI (N 1)), .int (nI j)]) rfl (congrArg (fun z : Int32 => (.int z :: [.int (nI j)] : List Value)) (hT.f2)) rfl ?_
        refine WP.run (pc' := if (nI j) ≤ (nI (N 1)) then 41 else 38) (L' := [.ref 0, .int (nI j)]) (st' := []) (I1 := I) 1 rfl ?_
        refine WP.br (fun h4 => ?_) (fun h4 => ?_)
        · have h4 : j ≤ N 1 := nI_le_ (by omega) (by omega) h4
          refine WP.run (pc' := 42) (L' := [.ref 0, .int (nI j)]) (st' := [.ref 0]) (I1 := I) 1 rfl ?_
          refine WP.callX (rest := []) rfl rfl (cs_begin (d := d) hS hI) (fun v J hv => ?_)
          obtain ⟨rfl, hB, hP, hO⟩ := hv
          have hJ : Tw J 247 N := hB.1
          refine WP.run (pc' := 53) (L' := [.ref 0, .int (nI j)]) (st' := [.int (J 247 2), .ref 247]) (I1 := J) 4 rfl ?_
          refine WP.cg (st' := [.int (nI (N 1)), .ref 247]) rfl (congrArg (fun z : Int32 => (.int z :: [.ref 247] : List Value)) (hJ.f2)) rfl ?_
          refine WP.run (pc' := 55) (L' := [.ref 0, .int (nI j)]) (st' := [.int ((nI (N 1)) - (nI j)), .ref 247]) (I1 := J) 2 rfl ?_
          refine WP.cg (st' := [.int (nI ((N 1) - j)), .ref 247]) rfl (congrArg (fun z : Int32 => (.int z :: [.ref 247] : List Value)) (pk_sub (a := N 1) (b := j) (by omega))) rfl ?_
          refine WP.run (pc' := 65) (L' := [.ref 0, .int (nI j)]) (st' := [.int (nI ((N 1) - j))]) (I1 := (upN J 247 2 (nI ((N 1) - j)))) 4 rfl ?_
          exact WP.ret rfl rfl (by
                      have e : nCut (N, m, F) (nI j) = ((nI ((N 1) - j)), (setN N 1 (N 1 - j), (actS (N, m, F)).2)) := by (unfold nCut; dsimp only; (repeat rw [nOf_nI (by omega)]); (repeat first | rw [if_pos (by first | assumption | omega | (refine inA_iff.mpr ?_; omega) | (intro q; have q2 := inA_iff.mp q; omega) | (intro q; omega) | (refine ⟨?_, ?_⟩ <;> rw [nI_int (by omega)] <;> omega) | (rw [nI_int (by omega)]; omega) | (intro q; rw [nI_int (by omega)] at q; omega) | (refine ⟨?_, ?_, ?_⟩ <;> omega) | (intro q; obtain ⟨q1, q2, q3⟩ := q; omega) | fail)] | rw [if_neg (by first | assumption | omega | (refine inA_iff.mpr ?_; omega) | (intro q; have q2 := inA_iff.mp q; omega) | (intro q; omega) | (refine ⟨?_, ?_⟩ <;> rw [nI_int (by omega)] <;> omega) | (rw [nI_int (by omega)]; omega) | (intro q; rw [nI_int (by omega)] at q; omega) | (refine ⟨?_, ?_, ?_⟩ <;> omega) | (intro q; obtain ⟨q1, q2, q3⟩ := q; omega) | fail)])) <;> rfl
                      rw [e]
                      exact ⟨rfl, hB.now hJ.fd2 (fun o k q => upN_no (by omega)), (hO.up (Or.inr ⟨by decide, by decide⟩)), Or.inl (hP.out (by decide) (by decide))⟩)
        · have h4 : ¬ j ≤ N 1 := fun q => h4 (nI_le_r (by omega) q)
          refine WP.run (pc' := 40) (L' := [.ref 0, .int (nI j)]) (st' := [.int (-1000002)]) (I1 := I) 1 rfl ?_
          exact WP.ret rfl rfl (by
                      have e : nCut (N, m, F) (nI j) = ((-1000002), (N, m, F)) := by (unfold nCut; dsimp only; (repeat rw [nOf_nI (by omega)]); (repeat first | rw [if_pos (by first | assumption | omega | (refine inA_iff.mpr ?_; omega) | (intro q; have q2 := inA_iff.mp q; omega) | (intro q; omega) | (refine ⟨?_, ?_⟩ <;> rw [nI_int (by omega)] <;> omega) | (rw [nI_int (by omega)]; omega) | (intro q; rw [nI_int (by omega)] at q; omega) | (refine ⟨?_, ?_, ?_⟩ <;> omega) | (intro q; obtain ⟨q1, q2, q3⟩ := q; omega) | fail)] | rw [if_neg (by first | assumption | omega | (refine inA_iff.mpr ?_; omega) | (intro q; have q2 := inA_iff.mp q; omega) | (intro q; omega) | (refine ⟨?_, ?_⟩ <;> rw [nI_int (by omega)] <;> omega) | (rw [nI_int (by omega)]; omega) | (intro q; rw [nI_int (by omega)] at q; omega) | (refine ⟨?_, ?_, ?_⟩ <;> omega) | (intro q; obtain ⟨q1, q2, q3⟩ := q; omega) | fail)])) <;> rfl
                      rw [e]
                      exact ⟨rfl, hS, Only.rfl_, Or.inr ⟨rfl, rfl⟩⟩)
      · have h3 : ¬ (x.toInt ≤ 99) := fun q => h3 ((iLeL (n := 99) (by omega)).mpr q)
        refine WP.run (pc' := 26) (L' := [.ref 0, .int x]) (st' := [.int (-1000001)]) (I1 := I) 1 rfl ?_
        exact WP.ret rfl rfl (by
                  have e : nCut (N, m, F) x = ((-1000001), (N, m, F)) := by (unfold nCut; dsimp only; (repeat rw [nOf_nI (by omega)]); (repeat first | rw [if_pos (by first | assumption | omega | (refine inA_iff.mpr ?_; omega) | (intro q; have q2 := inA_iff.mp q; omega) | (intro q; omega) | (refine ⟨?_, ?_⟩ <;> rw [nI_int (by omega)] <;> omega) | (rw [nI_int (by omega)]; omega) | (intro q; rw [nI_int (by omega)] at q; omega) | (refine ⟨?_, ?_, ?_⟩ <;> omega) | (intro q; obtain ⟨q1, q2, q3⟩ := q; omega) | fail)] | rw [if_neg (by first | assumption | omega | (refine inA_iff.mpr ?_; omega) | (intro q; have q2 := inA_iff.mp q; omega) | (intro q; omega) | (refine ⟨?_, ?_⟩ <;> rw [nI_int (by omega)] <;> omega) | (rw [nI_int (by omega)]; omega) | (intro q; rw [nI_int (by omega)] at q; omega) | (refine ⟨?_, ?_, ?_⟩ <;> omega) | (intro q; obtain ⟨q1, q2, q3⟩ := q; omega) | fail)])) <;> rfl
                  rw [e]
                  exact ⟨rfl, hS, Only.rfl_, Or.inr ⟨rfl, rfl⟩⟩)
  · have h1 : N 8 = 0 := nI_eq_ (by omega) (by omega) (Decidable.byContradiction h1)
    refine WP.run (pc' := 12) (L' := [.ref 0, .int x]) (st' := [.int (-1000002)]) (I1 := I) 1 rfl ?_
    exact WP.ret rfl rfl (by
          have e : nCut (N, m, F) x = ((-1000002), (N, m, F)) := by (unfold nCut; dsimp only; (repeat rw [nOf_nI (by omega)]); (repeat first | rw [if_pos (by first | assumption | omega | (refine inA_iff.mpr ?_; omega) | (intro q; have q2 := inA_iff.mp q; omega) | (intro q; omega) | (refine ⟨?_, ?_⟩ <;> rw [nI_int (by omega)] <;> omega) | (rw [nI_int (by omega)]; omega) | (intro q; rw [nI_int (by omega)] at q; omega) | (refine ⟨?_, ?_, ?_⟩ <;> omega) | (intro q; obtain ⟨q1, q2, q3⟩ := q; omega) | fail)] | rw [if_neg (by first | assumption | omega | (refine inA_iff.mpr ?_; omega) | (intro q; have q2 := inA_iff.mp q; omega) | (intro q; omega) | (refine ⟨?_, ?_⟩ <;> rw [nI_int (by omega)] <;> omega) | (rw [nI_int (by omega)]; omega) | (intro q; rw [nI_int (by omega)] at q; omega) | (refine ⟨?_, ?_, ?_⟩ <;> omega) | (intro q; obtain ⟨q1, q2, q3⟩ := q; omega) | fail)])) <;> rfl
          rw [e]
          exact ⟨rfl, hS, Only.rfl_, Or.inr ⟨rfl, rfl⟩⟩)
set_option maxRecDepth 100000 in
theorem cs_peg {d : Nat} {I : Pl} {N : Nat → Nat} {m : Nat} {F : Nat → Nat → Nat} {x : Int32} (hS : TSC I (N, m, F)) (hI : TSI (N, m, F)) : EvX (d + 4) 95 [.ref 0, .int x] I (fun v K => v = some (.int (nPeg (N, m, F) x).1) ∧ TSC K (nPeg (N, m, F) x).2 ∧ Only I K tsP ∧ (PlF K ∨ (K = I ∧ (nPeg (N, m, F) x).2 = (N, m, F)))) := by
  have hT : Tw I 247 N := hS.1
  have hN : TI N := hI.1
  obtain ⟨b0, b1, b2, b3, b4, b5, b6, b7, b8, bS, bC, bS1, bC1, bZ, bG⟩ := id hN
  obtain ⟨s6, s7, s64⟩ := hN.set64
  refine EvX.enter rfl rfl rfl ?_
  refine WP.run (pc' := 7) (L' := [.ref 0, .int x]) (st' := [.int (I 247 0)]) (I1 := I) 3 rfl ?_
  refine WP.cg (st' := [.int (nI (N 8))]) rfl (congrArg (fun z : Int32 => (.int z :: [] : List Value)) (hT.f0)) rfl ?_
  refine WP.run (pc' := if ¬ (nI (N 8)) = 0 then 13 else 10) (L' := [.ref 0, .int x]) (st' := []) (I1 := I) 1 rfl ?_
  refine WP.br (fun h1 => ?_) (fun h1 => ?_)
  · have h1 : ¬ N 8 = 0 := fun q => h1 (nI_eq_r q)
    refine WP.run (pc' := if x = 0 then 25 else 17) (L' := [.ref 0, .int x]) (st' := []) (I1 := I) 2 rfl ?_
    refine WP.br (fun h2 => ?_) (fun h2 => ?_)
    · have h2 : x.toInt = 0 := (iEqZ).mp h2
      have hx_j : inA x 2 := (by refine inA_iff.mpr ?_; omega)
      obtain ⟨j, hj, rfl⟩ := inA_of hx_j (by omega)
      refine WP.run (pc' := 32) (L' := [.ref 0, .int (nI j)]) (st' := [.int (I 247 4)]) (I1 := I) 3 rfl ?_
      refine WP.cg (st' := [.int (nI (N 5))]) rfl (congrArg (fun z : Int32 => (.int z :: [] : List Value)) (hT.f4)) rfl ?_
      refine WP.run (pc' := if ¬ (nI (N 5)) = (nI j) then 39 else 36) (L' := [.ref 0, .int (nI j)]) (st' := []) (I1 := I) 2 rfl ?_
      refine WP.br (fun h3 => ?_) (fun h3 => ?_)
      · have h3 : ¬ N 5 = j := fun q => h3 (nI_eq_r q)
        refine WP.run (pc' := 40) (L' := [.ref 0, .int (nI j)]) (st' := [.ref 0]) (I1 := I) 1 rfl ?_
        refine WP.callX (rest := []) rfl rfl (cs_begin (d := d) hS hI) (fun v J hv => ?_)
        obtain ⟨rfl, hB, hP, hO⟩ := hv
        have hJ : Tw J 247 N := hB.1
        refine WP.run (pc' := 52) (L' := [.ref 0, .int (nI j)]) (st' := [.int (nI 1)]) (I1 := (upN J 247 4 (nI j))) 5 rfl ?_
        exact WP.ret rfl rfl (by
                  have e : nPeg (N, m, F) (nI j) = ((nI 1), (setN N 5 j, (actS (N, m, F)).2)) := by (unfold nPeg; dsimp only; (repeat rw [nOf_nI (by omega)]); (repeat first | rw [if_pos (by first | assumption | omega | (refine inA_iff.mpr ?_; omega) | (intro q; have q2 := inA_iff.mp q; omega) | (intro q; omega) | (refine ⟨?_, ?_⟩ <;> rw [nI_int (by omega)] <;> omega) | (rw [nI_int (by omega)]; omega) | (intro q; rw [nI_int (by omega)] at q; omega) | (refine ⟨?_, ?_, ?_⟩ <;> omega) | (intro q; obtain ⟨q1, q2, q3⟩ := q; omega) | fail)] | rw [if_neg (by first | assumption | omega | (refine inA_iff.mpr ?_; omega) | (intro q; have q2 := inA_iff.mp q; omega) | (intro q; omega) | (refine ⟨?_, ?_⟩ <;> rw [nI_int (by omega)] <;> omega) | (rw [nI_int (by omega)]; omega) | (intro q; rw [nI_int (by omega)] at q; omega) | (refine ⟨?_, ?_, ?_⟩ <;> omega) | (intro q; obtain ⟨q1, q2, q3⟩ := q; omega) | fail)])) <;> rfl
                  rw [e]
                  exact ⟨rfl, hB.now hJ.fd4 (fun o k q => upN_no (by omega)), (hO.up (Or.inr ⟨by decide, by decide⟩)), Or.inl (hP.out (by decide) (by decide))⟩)
      · have h3 : N 5 = j := nI_eq_ (by omega) (by omega) (Decidable.byContradiction h3)
        refine WP.run (pc' := 38) (L' := [.ref 0, .int (nI j)]) (st' := [.int (-1000002)]) (I1 := I) 1 rfl ?_
        exact WP.ret rfl rfl (by
                  have e : nPeg (N, m, F) (nI j) = ((-1000002), (N, m, F)) := by (unfold nPeg; dsimp only; (repeat rw [nOf_nI (by omega)]); (repeat first | rw [if_pos (by first | assumption | omega | (refine inA_iff.mpr ?_; omega) | (intro q; have q2 := inA_iff.mp q; omega) | (intro q; omega) | (refine ⟨?_, ?_⟩ <;> rw [nI_int (by omega)] <;> omega) | (rw [nI_int (by omega)]; omega) | (intro q; rw [nI_int (by omega)] at q; omega) | (refine ⟨?_, ?_, ?_⟩ <;> omega) | (intro q; obtain ⟨q1, q2, q3⟩ := q; omega) | fail)] | rw [if_neg (by first | assumption | omega | (refine inA_iff.mpr ?_; omega) | (intro q; have q2 := inA_iff.mp q; omega) | (intro q; omega) | (refine ⟨?_, ?_⟩ <;> rw [nI_int (by omega)] <;> omega) | (rw [nI_int (by omega)]; omega) | (intro q; rw [nI_int (by omega)] at q; omega) | (refine ⟨?_, ?_, ?_⟩ <;> omega) | (intro q; obtain ⟨q1, q2, q3⟩ := q; omega) | fail)])) <;> rfl
                  rw [e]
                  exact ⟨rfl, hS, Only.rfl_, Or.inr ⟨rfl, rfl⟩⟩)
    · have h2 : ¬ (x.toInt = 0) := fun q => h2 ((iEqZ).mpr q)
      refine WP.run (pc' := if x = (nI 1) then 25 else 22) (L' := [.ref 0, .int x]) (st' := []) (I1 := I) 3 rfl ?_
      refine WP.br (fun h4 => ?_) (fun h4 => ?_)
      · have h4 : x.toInt = 1 := (iEqL (n := 1) (by omega)).mp h4
        have hx_j : inA x 2 := (by refine inA_iff.mpr ?_; omega)
        obtain ⟨j, hj, rfl⟩ := inA_of hx_j (by omega)
        refine WP.run (pc' := 32) (L' := [.ref 0, .int (nI j)]) (st' := [.int (I 247 4)]) (I1 := I) 3 rfl ?_
        refine WP.cg (st' := [.int (nI (N 5))]) rfl (congrArg (fun z : Int32 => (.int z :: [] : List Value)) (hT.f4)) rfl ?_
        refine WP.run (pc' := if ¬ (nI (N 5)) = (nI j) then 39 else 36) (L' := [.ref 0, .int (nI j)]) (st' := []) (I1 := I) 2 rfl ?_
        refine WP.br (fun h5 => ?_) (fun h5 => ?_)
        · have h5 : ¬ N 5 = j := fun q => h5 (nI_eq_r q)
          refine WP.run (pc' := 40) (L' := [.ref 0, .int (nI j)]) (st' := [.ref 0]) (I1 := I) 1 rfl ?_
          refine WP.callX (rest := []) rfl rfl (cs_begin (d := d) hS hI) (fun v J hv => ?_)
          obtain ⟨rfl, hB, hP, hO⟩ := hv
          have hJ : Tw J 247 N := hB.1
          refine WP.run (pc' := 52) (L' := [.ref 0, .int (nI j)]) (st' := [.int (nI 1)]) (I1 := (upN J 247 4 (nI j))) 5 rfl ?_
          exact WP.ret rfl rfl (by
                      have e : nPeg (N, m, F) (nI j) = ((nI 1), (setN N 5 j, (actS (N, m, F)).2)) := by (unfold nPeg; dsimp only; (repeat rw [nOf_nI (by omega)]); (repeat first | rw [if_pos (by first | assumption | omega | (refine inA_iff.mpr ?_; omega) | (intro q; have q2 := inA_iff.mp q; omega) | (intro q; omega) | (refine ⟨?_, ?_⟩ <;> rw [nI_int (by omega)] <;> omega) | (rw [nI_int (by omega)]; omega) | (intro q; rw [nI_int (by omega)] at q; omega) | (refine ⟨?_, ?_, ?_⟩ <;> omega) | (intro q; obtain ⟨q1, q2, q3⟩ := q; omega) | fail)] | rw [if_neg (by first | assumption | omega | (refine inA_iff.mpr ?_; omega) | (intro q; have q2 := inA_iff.mp q; omega) | (intro q; omega) | (refine ⟨?_, ?_⟩ <;> rw [nI_int (by omega)] <;> omega) | (rw [nI_int (by omega)]; omega) | (intro q; rw [nI_int (by omega)] at q; omega) | (refine ⟨?_, ?_, ?_⟩ <;> omega) | (intro q; obtain ⟨q1, q2, q3⟩ := q; omega) | fail)])) <;> rfl
                      rw [e]
                      exact ⟨rfl, hB.now hJ.fd4 (fun o k q => upN_no (by omega)), (hO.up (Or.inr ⟨by decide, by decide⟩)), Or.inl (hP.out (by decide) (by decide))⟩)
        · have h5 : N 5 = j := nI_eq_ (by omega) (by omega) (Decidable.byContradiction h5)
          refine WP.run (pc' := 38) (L' := [.ref 0, .int (nI j)]) (st' := [.int (-1000002)]) (I1 := I) 1 rfl ?_
          exact WP.ret rfl rfl (by
                      have e : nPeg (N, m, F) (nI j) = ((-1000002), (N, m, F)) := by (unfold nPeg; dsimp only; (repeat rw [nOf_nI (by omega)]); (repeat first | rw [if_pos (by first | assumption | omega | (refine inA_iff.mpr ?_; omega) | (intro q; have q2 := inA_iff.mp q; omega) | (intro q; omega) | (refine ⟨?_, ?_⟩ <;> rw [nI_int (by omega)] <;> omega) | (rw [nI_int (by omega)]; omega) | (intro q; rw [nI_int (by omega)] at q; omega) | (refine ⟨?_, ?_, ?_⟩ <;> omega) | (intro q; obtain ⟨q1, q2, q3⟩ := q; omega) | fail)] | rw [if_neg (by first | assumption | omega | (refine inA_iff.mpr ?_; omega) | (intro q; have q2 := inA_iff.mp q; omega) | (intro q; omega) | (refine ⟨?_, ?_⟩ <;> rw [nI_int (by omega)] <;> omega) | (rw [nI_int (by omega)]; omega) | (intro q; rw [nI_int (by omega)] at q; omega) | (refine ⟨?_, ?_, ?_⟩ <;> omega) | (intro q; obtain ⟨q1, q2, q3⟩ := q; omega) | fail)])) <;> rfl
                      rw [e]
                      exact ⟨rfl, hS, Only.rfl_, Or.inr ⟨rfl, rfl⟩⟩)
      · have h4 : ¬ (x.toInt = 1) := fun q => h4 ((iEqL (n := 1) (by omega)).mpr q)
        refine WP.run (pc' := 24) (L' := [.ref 0, .int x]) (st' := [.int (-1000001)]) (I1 := I) 1 rfl ?_
        exact WP.ret rfl rfl (by
                  have e : nPeg (N, m, F) x = ((-1000001), (N, m, F)) := by (unfold nPeg; dsimp only; (repeat rw [nOf_nI (by omega)]); (repeat first | rw [if_pos (by first | assumption | omega | (refine inA_iff.mpr ?_; omega) | (intro q; have q2 := inA_iff.mp q; omega) | (intro q; omega) | (refine ⟨?_, ?_⟩ <;> rw [nI_int (by omega)] <;> omega) | (rw [nI_int (by omega)]; omega) | (intro q; rw [nI_int (by omega)] at q; omega) | (refine ⟨?_, ?_, ?_⟩ <;> omega) | (intro q; obtain ⟨q1, q2, q3⟩ := q; omega) | fail)] | rw [if_neg (by first | assumption | omega | (refine inA_iff.mpr ?_; omega) | (intro q; have q2 := inA_iff.mp q; omega) | (intro q; omega) | (refine ⟨?_, ?_⟩ <;> rw [nI_int (by omega)] <;> omega) | (rw [nI_int (by omega)]; omega) | (intro q; rw [nI_int (by omega)] at q; omega) | (refine ⟨?_, ?_, ?_⟩ <;> omega) | (intro q; obtain ⟨q1, q2, q3⟩ := q; omega) | fail)])) <;> rfl
                  rw [e]
                  exact ⟨rfl, hS, Only.rfl_, Or.inr ⟨rfl, rfl⟩⟩)
  · have h1 : N 8 = 0 := nI_eq_ (by omega) (by omega) (Decidable.byContradiction h1)
    refine WP.run (pc' := 12) (L' := [.ref 0, .int x]) (st' := [.int (-1000002)]) (I1 := I) 1 rfl ?_
    exact WP.ret rfl rfl (by
          have e : nPeg (N, m, F) x = ((-1000002), (N, m, F)) := by (unfold nPeg; dsimp only; (repeat rw [nOf_nI (by omega)]); (repeat first | rw [if_pos (by first | assumption | omega | (refine inA_iff.mpr ?_; omega) | (intro q; have q2 := inA_iff.mp q; omega) | (intro q; omega) | (refine ⟨?_, ?_⟩ <;> rw [nI_int (by omega)] <;> omega) | (rw [nI_int (by omega)]; omega) | (intro q; rw [nI_int (by omega)] at q; omega) | (refine ⟨?_, ?_, ?_⟩ <;> omega) | (intro q; obtain ⟨q1, q2, q3⟩ := q; omega) | fail)] | rw [if_neg (by first | assumption | omega | (refine inA_iff.mpr ?_; omega) | (intro q; have q2 := inA_iff.mp q; omega) | (intro q; omega) | (refine ⟨?_, ?_⟩ <;> rw [nI_int (by omega)] <;> omega) | (rw [nI_int (by omega)]; omega) | (intro q; rw [nI_int (by omega)] at q; omega) | (refine ⟨?_, ?_, ?_⟩ <;> omega) | (intro q; obtain ⟨q1, q2, q3⟩ := q; omega) | fail)])) <;> rfl
          rw [e]
          exact ⟨rfl, hS, Only.rfl_, Or.inr ⟨rfl, rfl⟩⟩)
set_option maxRecDepth 100000 in
theorem cs_climb {d : Nat} {I : Pl} {N : Nat → Nat} {m : Nat} {F : Nat → Nat → Nat} {x : Int32} (hS : TSC I (N, m, F)) (hI : TSI (N, m, F)) : EvX (d + 4) 92 [.ref 0, .int x] I (fun v K => v = some (.int (nClimb (N, m, F) x).1) ∧ TSC K (nClimb (N, m, F) x).2 ∧ Only I K tsP ∧ (PlF K ∨ (K = I ∧ (nClimb (N, m, F) x).2 = (N, m, F)))) := by
  have hT : Tw I 247 N := hS.1
  have hN : TI N := hI.1
  obtain ⟨b0, b1, b2, b3, b4, b5, b6, b7, b8, bS, bC, bS1, bC1, bZ, bG⟩ := id hN
  obtain ⟨s6, s7, s64⟩ := hN.set64
  refine EvX.enter rfl rfl rfl ?_
  refine WP.run (pc' := 5) (L' := [.ref 0, .int x]) (st' := [.int x, .ref 247]) (I1 := I) 3 rfl ?_
  refine WP.callB (rest := []) rfl rfl (sp_isClimber (d := d + 2) (x := x) hT hN) (fun h1 => ?_) (fun h1 => ?_)
  · refine WP.run (pc' := 14) (L' := [.ref 0, .int x]) (st' := []) (I1 := I) 1 rfl ?_
    have hx_j : inA x (N 3) := (by assumption)
    obtain ⟨j, hj, rfl⟩ := inA_of hx_j (by omega)
    refine WP.run (pc' := 21) (L' := [.ref 0, .int (nI j)]) (st' := [.int (I 247 2)]) (I1 := I) 3 rfl ?_
    refine WP.cg (st' := [.int (nI (N 1))]) rfl (congrArg (fun z : Int32 => (.int z :: [] : List Value)) (hT.f2)) rfl ?_
    refine WP.run (pc' := 28) (L' := [.ref 0, .int (nI j)]) (st' := [.int (I 247 1), .int (nI (N 1))]) (I1 := I) 3 rfl ?_
    refine WP.cg (st' := [.int (nI (N 0)), .int (nI (N 1))]) rfl (congrArg (fun z : Int32 => (.int z :: [.int (nI (N 1))] : List Value)) (hT.f1)) rfl ?_
    refine WP.run (pc' := if (nI (N 1)) < (nI (N 0)) then 41 else 31) (L' := [.ref 0, .int (nI j)]) (st' := []) (I1 := I) 1 rfl ?_
    refine WP.br (fun h2 => ?_) (fun h2 => ?_)
    · have h2 : N 1 < N 0 := nI_lt_ (by omega) (by omega) h2
      refine WP.run (pc' := 43) (L' := [.ref 0, .int (nI j)]) (st' := [.int (-1000002)]) (I1 := I) 1 rfl ?_
      exact WP.ret rfl rfl (by
              have e : nClimb (N, m, F) (nI j) = ((-1000002), (N, m, F)) := by (unfold nClimb; dsimp only; (repeat rw [nOf_nI (by omega)]); (repeat first | rw [if_pos (by first | assumption | omega | (refine inA_iff.mpr ?_; omega) | (intro q; have q2 := inA_iff.mp q; omega) | (intro q; omega) | (refine ⟨?_, ?_⟩ <;> rw [nI_int (by omega)] <;> omega) | (rw [nI_int (by omega)]; omega) | (intro q; rw [nI_int (by omega)] at q; omega) | (refine ⟨?_, ?_, ?_⟩ <;> omega) | (intro q; obtain ⟨q1, q2, q3⟩ := q; omega) | fail)] | rw [if_neg (by first | assumption | omega | (refine inA_iff.mpr ?_; omega) | (intro q; have q2 := inA_iff.mp q; omega) | (intro q; omega) | (refine ⟨?_, ?_⟩ <;> rw [nI_int (by omega)] <;> omega) | (rw [nI_int (by omega)]; omega) | (intro q; rw [nI_int (by omega)] at q; omega) | (refine ⟨?_, ?_, ?_⟩ <;> omega) | (intro q; obtain ⟨q1, q2, q3⟩ := q; omega) | fail)])) <;> rfl
              rw [e]
              exact ⟨rfl, hS, Only.rfl_, Or.inr ⟨rfl, rfl⟩⟩)
    · have h2 : ¬ N 1 < N 0 := fun q => h2 (nI_lt_r (by omega) q)
      refine WP.run (pc' := 38) (L' := [.ref 0, .int (nI j)]) (st' := [.int (I 247 5)]) (I1 := I) 3 rfl ?_
      refine WP.cg (st' := [.int (nI (N 6))]) rfl (congrArg (fun z : Int32 => (.int z :: [] : List Value)) (hT.f5)) rfl ?_
      refine WP.run (pc' := if ¬ (nI (N 6)) = 0 then 44 else 41) (L' := [.ref 0, .int (nI j)]) (st' := []) (I1 := I) 1 rfl ?_
      refine WP.br (fun h3 => ?_) (fun h3 => ?_)
      · have h3 : ¬ N 6 = 0 := fun q => h3 (nI_eq_r q)
        refine WP.run (pc' := 45) (L' := [.ref 0, .int (nI j)]) (st' := [.ref 0]) (I1 := I) 1 rfl ?_
        refine WP.callX (rest := []) rfl rfl (cs_begin (d := d) hS hI) (fun v J hv => ?_)
        obtain ⟨rfl, hB, hP, hO⟩ := hv
        have hJ : Tw J 247 N := hB.1
        refine WP.run (pc' := 53) (L' := [.ref 0, .int (nI j)]) (st' := [.int (nI j), .ref 247]) (I1 := J) 3 rfl ?_
        refine WP.callX (rest := []) rfl rfl (sp_letClimb (d := d) (c := j) hJ hN (by omega)) (fun v J2 hv => ?_)
        obtain ⟨rfl, hT2, hF2⟩ := hv
        exact WP.ret rfl rfl (by
                  have e : nClimb (N, m, F) (nI j) = ((nI (popc (N 6) - popc (brN N j 6 6))), (climbN N j, (actS (N, m, F)).2)) := by (unfold nClimb; dsimp only; (repeat rw [nOf_nI (by omega)]); (repeat first | rw [if_pos (by first | assumption | omega | (refine inA_iff.mpr ?_; omega) | (intro q; have q2 := inA_iff.mp q; omega) | (intro q; omega) | (refine ⟨?_, ?_⟩ <;> rw [nI_int (by omega)] <;> omega) | (rw [nI_int (by omega)]; omega) | (intro q; rw [nI_int (by omega)] at q; omega) | (refine ⟨?_, ?_, ?_⟩ <;> omega) | (intro q; obtain ⟨q1, q2, q3⟩ := q; omega) | fail)] | rw [if_neg (by first | assumption | omega | (refine inA_iff.mpr ?_; omega) | (intro q; have q2 := inA_iff.mp q; omega) | (intro q; omega) | (refine ⟨?_, ?_⟩ <;> rw [nI_int (by omega)] <;> omega) | (rw [nI_int (by omega)]; omega) | (intro q; rw [nI_int (by omega)] at q; omega) | (refine ⟨?_, ?_, ?_⟩ <;> omega) | (intro q; obtain ⟨q1, q2, q3⟩ := q; omega) | fail)])) <;> rfl
                  rw [e]
                  exact ⟨rfl, hB.now hT2 (fun o k q => hF2 o k q), (hO.tr (fun o k q => hF2 o k (by rcases Nat.lt_or_ge o 247 with z | z <;> rcases Nat.lt_or_ge o 255 with z2 | z2 <;> first | omega | exact absurd (Or.inr ⟨z, by omega⟩) q))), Or.inl (hP.fr hF2 (by decide))⟩)
      · have h3 : N 6 = 0 := nI_eq_ (by omega) (by omega) (Decidable.byContradiction h3)
        refine WP.run (pc' := 43) (L' := [.ref 0, .int (nI j)]) (st' := [.int (-1000002)]) (I1 := I) 1 rfl ?_
        exact WP.ret rfl rfl (by
                  have e : nClimb (N, m, F) (nI j) = ((-1000002), (N, m, F)) := by (unfold nClimb; dsimp only; (repeat rw [nOf_nI (by omega)]); (repeat first | rw [if_pos (by first | assumption | omega | (refine inA_iff.mpr ?_; omega) | (intro q; have q2 := inA_iff.mp q; omega) | (intro q; omega) | (refine ⟨?_, ?_⟩ <;> rw [nI_int (by omega)] <;> omega) | (rw [nI_int (by omega)]; omega) | (intro q; rw [nI_int (by omega)] at q; omega) | (refine ⟨?_, ?_, ?_⟩ <;> omega) | (intro q; obtain ⟨q1, q2, q3⟩ := q; omega) | fail)] | rw [if_neg (by first | assumption | omega | (refine inA_iff.mpr ?_; omega) | (intro q; have q2 := inA_iff.mp q; omega) | (intro q; omega) | (refine ⟨?_, ?_⟩ <;> rw [nI_int (by omega)] <;> omega) | (rw [nI_int (by omega)]; omega) | (intro q; rw [nI_int (by omega)] at q; omega) | (refine ⟨?_, ?_, ?_⟩ <;> omega) | (intro q; obtain ⟨q1, q2, q3⟩ := q; omega) | fail)])) <;> rfl
                  rw [e]
                  exact ⟨rfl, hS, Only.rfl_, Or.inr ⟨rfl, rfl⟩⟩)
  · refine WP.run (pc' := 13) (L' := [.ref 0, .int x]) (st' := [.int (-1000001)]) (I1 := I) 2 rfl ?_
    exact WP.ret rfl rfl (by
          have e : nClimb (N, m, F) x = ((-1000001), (N, m, F)) := by (unfold nClimb; dsimp only; (repeat rw [nOf_nI (by omega)]); (repeat first | rw [if_pos (by first | assumption | omega | (refine inA_iff.mpr ?_; omega) | (intro q; have q2 := inA_iff.mp q; omega) | (intro q; omega) | (refine ⟨?_, ?_⟩ <;> rw [nI_int (by omega)] <;> omega) | (rw [nI_int (by omega)]; omega) | (intro q; rw [nI_int (by omega)] at q; omega) | (refine ⟨?_, ?_, ?_⟩ <;> omega) | (intro q; obtain ⟨q1, q2, q3⟩ := q; omega) | fail)] | rw [if_neg (by first | assumption | omega | (refine inA_iff.mpr ?_; omega) | (intro q; have q2 := inA_iff.mp q; omega) | (intro q; omega) | (refine ⟨?_, ?_⟩ <;> rw [nI_int (by omega)] <;> omega) | (rw [nI_int (by omega)]; omega) | (intro q; rw [nI_int (by omega)] at q; omega) | (refine ⟨?_, ?_, ?_⟩ <;> omega) | (intro q; obtain ⟨q1, q2, q3⟩ := q; omega) | fail)])) <;> rfl
          rw [e]
          exact ⟨rfl, hS, Only.rfl_, Or.inr ⟨rfl, rfl⟩⟩)
theorem undo_TS {I : Pl} {S : TwS} {o : Nat} (hI : TSI S) (ho : o < 24) (h2 : I 31 1 = nI o) (h4 : ∀ j, j < S.2.1 → Tw I (33 + 8 * ((o + j) % 24)) (S.2.2 j)) (h0 : 0 < S.2.1) : TSC (forgN (becN (upN I 31 2 (nI (S.2.1 - 1))) 247 (33 + 8 * ((o + (S.2.1 - 1)) % 24)))) (S.2.2 (S.2.1 - 1), S.2.1 - 1, S.2.2) ∧ Only I (forgN (becN (upN I 31 2 (nI (S.2.1 - 1))) 247 (33 + 8 * ((o + (S.2.1 - 1)) % 24)))) tsP := by
  have hm : ∀ j, (o + j) % 24 < 24 := fun j => Nat.mod_lt _ (by decide)
  have hm1 := hm (S.2.1 - 1)
  have hT := (h4 (S.2.1 - 1) (by omega)).cg (J := upN I 31 2 (nI (S.2.1 - 1))) (fun a k x y => upN_no (by omega))
  refine ⟨⟨?_, o, ho, ?_, ?_, fun j hj => ?_⟩, ?_⟩
  · exact (becN_tw (by omega) hT).cg (fun a k x y => forgN_o (by omega) (by omega))
  · rw [forgN_o (by decide) (by decide), becN_fr (by omega), upN_nk (by decide), h2]
  · rw [forgN_o (by decide) (by decide), becN_fr (by omega), upN_s]
  · have hj : j < S.2.1 - 1 := hj
    have := hm j
    exact (h4 j (by omega)).cg (fun a k x y => by rw [forgN_o (by omega) (by omega), becN_fr (by omega), upN_no (by omega)])
  · intro a k h
    have h' : ¬ (31 ≤ a ∧ a ≤ 244) := fun q => h (Or.inl q)
    have h'' : ¬ (247 ≤ a ∧ a ≤ 254) := fun q => h (Or.inr q)
    rw [forgN_o (by omega) (by omega), becN_fr (by omega), upN_no (by omega)]
theorem anew_TS {I J : Pl} {N : Nat → Nat} {F : Nat → Nat → Nat} (hT : Tw J 247 N) (hO : Only I J tsP) : TSC (anewN J) (N, 0, F) ∧ Only I (anewN J) tsP := by
  refine ⟨⟨hT.cg (fun a k x y => ?_), 0, by decide, ?_, ?_, fun j hj => absurd hj (Nat.not_lt_zero _)⟩, ?_⟩
  · unfold anewN
    rw [forgN_o (by omega) (by omega), upN_no (by omega), upN_no (by omega)]
  · unfold anewN
    rw [forgN_o (by decide) (by decide), upN_nk (by decide), upN_s]
  · unfold anewN
    rw [forgN_o (by decide) (by decide), upN_s]
  · intro a k h
    have h' : ¬ (31 ≤ a ∧ a ≤ 244) := fun q => h (Or.inl q)
    unfold anewN
    rw [forgN_o (by omega) (by omega), upN_no (by omega), upN_no (by omega)]
    exact hO a k h
set_option maxRecDepth 100000 in
theorem cs_undo {d : Nat} {I : Pl} {N : Nat → Nat} {m : Nat} {F : Nat → Nat → Nat} (hS : TSC I (N, m, F)) (hI : TSI (N, m, F)) : EvX (d + 3) 96 [.ref 0] I (fun v K => v = some (.int (nUndo (N, m, F)).1) ∧ TSC K (nUndo (N, m, F)).2 ∧ Only I K tsP ∧ (PlF K ∨ (K = I ∧ (nUndo (N, m, F)).2 = (N, m, F)))) := by
  obtain ⟨hT, ro, ho1, ho, hm, h4⟩ := id hS
  have hm1 : m ≤ 24 := hI.2.1
  have hm : I 31 2 = nI m := hm
  have h4 : ∀ j, j < m → Tw I (33 + 8 * ((ro + j) % 24)) (F j) := h4
  have hrm : (ro + (m - 1)) % 24 < 24 := Nat.mod_lt _ (by decide)
  refine EvX.enter rfl rfl rfl ?_
  refine WP.run (pc' := 7) (L' := [.ref 0]) (st' := [.int (I 31 2)]) (I1 := I) 3 rfl ?_
  refine WP.cg (st' := [.int (nI m)]) rfl (congrArg (fun z : Int32 => (.int z :: [] : List Value)) (hm)) rfl ?_
  refine WP.run (pc' := if ¬ (nI m) = 0 then 13 else 10) (L' := [.ref 0]) (st' := []) (I1 := I) 1 rfl ?_
  refine WP.br (fun h1 => ?_) (fun h1 => ?_)
  · have h1 : ¬ m = 0 := fun q => h1 (nI_eq_r q)
    refine WP.run (pc' := 21) (L' := [.ref 0]) (st' := [.ref 247, .ref 31]) (I1 := I) 4 rfl ?_
    refine WP.callV (rest := []) rfl rfl (sp_takeBack (d := d) (o := ro) (m := m) ho hm ho1 hm1 (by omega) (tw_b (h4 (m - 1) (by omega)) (hI.2.2 (m - 1) (show m - 1 < m by omega)))) ?_
    refine WP.run (pc' := 28) (L' := [.ref 0]) (st' := [.ref 225]) (I1 := (becN (upN I 31 2 (nI (m - 1))) 247 (33 + 8 * ((ro + (m - 1)) % 24)))) 2 rfl ?_
    refine WP.callV (rest := []) rfl rfl (sp_forget (d := d + 1) (I := (becN (upN I 31 2 (nI (m - 1))) 247 (33 + 8 * ((ro + (m - 1)) % 24))))) ?_
    refine WP.run (pc' := 38) (L' := [.ref 0]) (st' := [.int ((forgN (becN (upN I 31 2 (nI (m - 1))) 247 (33 + 8 * ((ro + (m - 1)) % 24)))) 31 2)]) (I1 := (forgN (becN (upN I 31 2 (nI (m - 1))) 247 (33 + 8 * ((ro + (m - 1)) % 24))))) 3 rfl ?_
    refine WP.cg (st' := [.int (nI (m - 1))]) rfl (congrArg (fun z : Int32 => (.int z :: [] : List Value)) ((forgN_o (by decide) (by decide)).trans ((becN_fr (by omega)).trans upN_s))) rfl ?_
    exact WP.ret rfl rfl (by
          have e : nUndo (N, m, F) = ((nI (m - 1)), (F (m - 1), m - 1, F)) := if_neg (show ¬ m = 0 by omega)
          rw [e]
          have hu := undo_TS hI ho1 ho h4 (show 0 < m by omega)
          exact ⟨rfl, hu.1, hu.2, Or.inl forgN_F⟩)
  · have h1 : m = 0 := nI_eq_ (by omega) (by omega) (Decidable.byContradiction h1)
    refine WP.run (pc' := 12) (L' := [.ref 0]) (st' := [.int (-1000002)]) (I1 := I) 1 rfl ?_
    exact WP.ret rfl rfl (by
          have e : nUndo (N, m, F) = ((-1000002), (N, m, F)) := if_pos (show m = 0 by omega)
          rw [e]
          exact ⟨rfl, hS, Only.rfl_, Or.inr ⟨rfl, rfl⟩⟩)
theorem im_only {I : Pl} {a : Nat} (h : a = 255 ∨ a = 263) : Only I (becN I a 247) imP := fun o k q => becN_fr (by have q2 : ¬ (255 ≤ o ∧ o ≤ 270) := q; omega)
theorem im_put {I : Pl} {T : ImS} {N : Nat → Nat} {j : Nat} (hj : j < 2) (h : ImC I T) (hT : Tw I 247 N) (h8 : N 8 = 1) : ImC (becN I (255 + 8 * j) 247) (updF T.1 j 1, updF T.2 j N) := by
  intro k hk
  show (updF T.1 j 1 k = 0 ∧ _) ∨ (updF T.1 j 1 k = 1 ∧ Tw _ _ (updF T.2 j N k) ∧ updF T.2 j N k 8 = 1)
  by_cases q : k = j
  · rw [q, updF_s, updF_s]
    exact Or.inr ⟨rfl, becN_tw (by omega) hT, h8⟩
  · rw [updF_o q, updF_o q]
    rcases h k hk with ⟨a, b⟩ | ⟨a, b, c⟩
    · exact Or.inl ⟨a, by rw [becN_fr (by omega), b]⟩
    · exact Or.inr ⟨a, b.cg (fun o i x y => becN_fr (by omega)), c⟩
set_option maxRecDepth 100000 in
theorem sp_imageOf_0 {d : Nat} {I : Pl}  : Ev (d + 1) 113 [.ref 0, .int (nI 0)] (mem I) (some (.ref 255)) (mem I) := by
  refine Ev.only (EvX.enter rfl rfl rfl ?_)
  refine WP.run (pc' := 15) (L' := [.ref 0, .int (nI 0)]) (st' := [.ref 255]) (I1 := I) 5 rfl ?_
  exact WP.ret rfl rfl (⟨rfl, rfl⟩)
set_option maxRecDepth 100000 in
theorem sp_imageOf_1 {d : Nat} {I : Pl}  : Ev (d + 1) 113 [.ref 0, .int (nI 1)] (mem I) (some (.ref 263)) (mem I) := by
  refine Ev.only (EvX.enter rfl rfl rfl ?_)
  refine WP.run (pc' := 15) (L' := [.ref 0, .int (nI 1)]) (st' := [.ref 263]) (I1 := I) 4 rfl ?_
  exact WP.ret rfl rfl (⟨rfl, rfl⟩)
set_option maxRecDepth 100000 in
theorem cs_image {d : Nat} {I : Pl} {N : Nat → Nat} {T : ImS} {x : Int32} (hT : Tw I 247 N) (hN : TI N) (hIm : ImC I T) : EvX (d + 2) 114 [.ref 0, .int x] I (fun v K => v = some (.int (nImage N T x).1) ∧ ImC K (nImage N T x).2 ∧ Only I K imP) := by
  obtain ⟨b0, b1, b2, b3, b4, b5, b6, b7, b8, bS, bC, bS1, bC1, bZ, bG⟩ := id hN
  obtain ⟨s6, s7, s64⟩ := hN.set64
  refine EvX.enter rfl rfl rfl ?_
  refine WP.run (pc' := if x < 0 then 9 else 4) (L' := [.ref 0, .int x]) (st' := []) (I1 := I) 2 rfl ?_
  refine WP.br (fun h1 => ?_) (fun h1 => ?_)
  · have h1 : x.toInt < 0 := (iLtZ).mp h1
    refine WP.run (pc' := 11) (L' := [.ref 0, .int x]) (st' := [.int (-1000001)]) (I1 := I) 1 rfl ?_
    exact WP.ret rfl rfl (by
          have e : nImage N T x = ((-1000001), T) := by (unfold nImage; (repeat rw [nOf_nI (by omega)]); (repeat first | rw [if_pos (by first | assumption | omega | (refine inA_iff.mpr ?_; omega) | (intro q; have q2 := inA_iff.mp q; omega) | (intro q; omega) | (refine ⟨?_, ?_⟩ <;> rw [nI_int (by omega)] <;> omega) | (rw [nI_int (by omega)]; omega) | (intro q; rw [nI_int (by omega)] at q; omega) | (refine ⟨?_, ?_, ?_⟩ <;> omega) | (intro q; obtain ⟨q1, q2, q3⟩ := q; omega) | fail)] | rw [if_neg (by first | assumption | omega | (refine inA_iff.mpr ?_; omega) | (intro q; have q2 := inA_iff.mp q; omega) | (intro q; omega) | (refine ⟨?_, ?_⟩ <;> rw [nI_int (by omega)] <;> omega) | (rw [nI_int (by omega)]; omega) | (intro q; rw [nI_int (by omega)] at q; omega) | (refine ⟨?_, ?_, ?_⟩ <;> omega) | (intro q; obtain ⟨q1, q2, q3⟩ := q; omega) | fail)])) <;> rfl
          rw [e]
          exact ⟨rfl, hIm, Only.rfl_⟩)
  · have h1 : ¬ (x.toInt < 0) := fun q => h1 ((iLtZ).mpr q)
    refine WP.run (pc' := if x < (nI 2) then 12 else 9) (L' := [.ref 0, .int x]) (st' := []) (I1 := I) 3 rfl ?_
    refine WP.br (fun h2 => ?_) (fun h2 => ?_)
    · have h2 : x.toInt < 2 := (iLtL (n := 2) (by omega)).mp h2
      have hw : inA x 2 := (by refine inA_iff.mpr ?_; omega)
      obtain ⟨w1, hw1, rfl⟩ := inA_of hw (by decide)
      have hsw : w1 = 0 ∨ w1 = 1 := by omega
      rcases hsw with rfl | rfl
      · refine WP.run (pc' := 19) (L' := [.ref 0, .int (nI 0)]) (st' := [.int (I 247 0)]) (I1 := I) 3 rfl ?_
        refine WP.cg (st' := [.int (nI (N 8))]) rfl (congrArg (fun z : Int32 => (.int z :: [] : List Value)) (hT.f0)) rfl ?_
        refine WP.run (pc' := if ¬ (nI (N 8)) = 0 then 25 else 22) (L' := [.ref 0, .int (nI 0)]) (st' := []) (I1 := I) 1 rfl ?_
        refine WP.br (fun h3 => ?_) (fun h3 => ?_)
        · have h3 : ¬ N 8 = 0 := fun q => h3 (nI_eq_r q)
          refine WP.run (pc' := 27) (L' := [.ref 0, .int (nI 0)]) (st' := [.int (nI 0), .ref 0]) (I1 := I) 2 rfl ?_
          refine WP.callV (rest := []) rfl rfl (sp_imageOf_0 (d := d)) ?_
          refine WP.run (pc' := 34) (L' := [.ref 0, .int (nI 0)]) (st' := [.ref 247, .ref 255]) (I1 := I) 2 rfl ?_
          refine WP.callV (rest := []) rfl rfl (sp_become_255_247 (d := d) (tw_b hT hN)) ?_
          refine WP.run (pc' := 38) (L' := [.ref 0, .int (nI 0)]) (st' := [.int (nI 1)]) (I1 := (becN I 255 247)) 1 rfl ?_
          exact WP.ret rfl rfl (by
                      have e : nImage N T (nI 0) = ((nI 1), (updF T.1 0 1, updF T.2 0 N)) := by (unfold nImage; (repeat rw [nOf_nI (by omega)]); (repeat first | rw [if_pos (by first | assumption | omega | (refine inA_iff.mpr ?_; omega) | (intro q; have q2 := inA_iff.mp q; omega) | (intro q; omega) | (refine ⟨?_, ?_⟩ <;> rw [nI_int (by omega)] <;> omega) | (rw [nI_int (by omega)]; omega) | (intro q; rw [nI_int (by omega)] at q; omega) | (refine ⟨?_, ?_, ?_⟩ <;> omega) | (intro q; obtain ⟨q1, q2, q3⟩ := q; omega) | fail)] | rw [if_neg (by first | assumption | omega | (refine inA_iff.mpr ?_; omega) | (intro q; have q2 := inA_iff.mp q; omega) | (intro q; omega) | (refine ⟨?_, ?_⟩ <;> rw [nI_int (by omega)] <;> omega) | (rw [nI_int (by omega)]; omega) | (intro q; rw [nI_int (by omega)] at q; omega) | (refine ⟨?_, ?_, ?_⟩ <;> omega) | (intro q; obtain ⟨q1, q2, q3⟩ := q; omega) | fail)])) <;> rfl
                      rw [e]
                      exact ⟨rfl, im_put (j := 0) (by decide) hIm hT (by omega), im_only (by decide)⟩)
        · have h3 : N 8 = 0 := nI_eq_ (by omega) (by omega) (Decidable.byContradiction h3)
          refine WP.run (pc' := 24) (L' := [.ref 0, .int (nI 0)]) (st' := [.int (-1000002)]) (I1 := I) 1 rfl ?_
          exact WP.ret rfl rfl (by
                      have e : nImage N T (nI 0) = ((-1000002), T) := by (unfold nImage; (repeat rw [nOf_nI (by omega)]); (repeat first | rw [if_pos (by first | assumption | omega | (refine inA_iff.mpr ?_; omega) | (intro q; have q2 := inA_iff.mp q; omega) | (intro q; omega) | (refine ⟨?_, ?_⟩ <;> rw [nI_int (by omega)] <;> omega) | (rw [nI_int (by omega)]; omega) | (intro q; rw [nI_int (by omega)] at q; omega) | (refine ⟨?_, ?_, ?_⟩ <;> omega) | (intro q; obtain ⟨q1, q2, q3⟩ := q; omega) | fail)] | rw [if_neg (by first | assumption | omega | (refine inA_iff.mpr ?_; omega) | (intro q; have q2 := inA_iff.mp q; omega) | (intro q; omega) | (refine ⟨?_, ?_⟩ <;> rw [nI_int (by omega)] <;> omega) | (rw [nI_int (by omega)]; omega) | (intro q; rw [nI_int (by omega)] at q; omega) | (refine ⟨?_, ?_, ?_⟩ <;> omega) | (intro q; obtain ⟨q1, q2, q3⟩ := q; omega) | fail)])) <;> rfl
                      rw [e]
                      exact ⟨rfl, hIm, Only.rfl_⟩)
      · refine WP.run (pc' := 19) (L' := [.ref 0, .int (nI 1)]) (st' := [.int (I 247 0)]) (I1 := I) 3 rfl ?_
        refine WP.cg (st' := [.int (nI (N 8))]) rfl (congrArg (fun z : Int32 => (.int z :: [] : List Value)) (hT.f0)) rfl ?_
        refine WP.run (pc' := if ¬ (nI (N 8)) = 0 then 25 else 22) (L' := [.ref 0, .int (nI 1)]) (st' := []) (I1 := I) 1 rfl ?_
        refine WP.br (fun h4 => ?_) (fun h4 => ?_)
        · have h4 : ¬ N 8 = 0 := fun q => h4 (nI_eq_r q)
          refine WP.run (pc' := 27) (L' := [.ref 0, .int (nI 1)]) (st' := [.int (nI 1), .ref 0]) (I1 := I) 2 rfl ?_
          refine WP.callV (rest := []) rfl rfl (sp_imageOf_1 (d := d)) ?_
          refine WP.run (pc' := 34) (L' := [.ref 0, .int (nI 1)]) (st' := [.ref 247, .ref 263]) (I1 := I) 2 rfl ?_
          refine WP.callV (rest := []) rfl rfl (sp_become_263_247 (d := d) (tw_b hT hN)) ?_
          refine WP.run (pc' := 38) (L' := [.ref 0, .int (nI 1)]) (st' := [.int (nI 1)]) (I1 := (becN I 263 247)) 1 rfl ?_
          exact WP.ret rfl rfl (by
                      have e : nImage N T (nI 1) = ((nI 1), (updF T.1 1 1, updF T.2 1 N)) := by (unfold nImage; (repeat rw [nOf_nI (by omega)]); (repeat first | rw [if_pos (by first | assumption | omega | (refine inA_iff.mpr ?_; omega) | (intro q; have q2 := inA_iff.mp q; omega) | (intro q; omega) | (refine ⟨?_, ?_⟩ <;> rw [nI_int (by omega)] <;> omega) | (rw [nI_int (by omega)]; omega) | (intro q; rw [nI_int (by omega)] at q; omega) | (refine ⟨?_, ?_, ?_⟩ <;> omega) | (intro q; obtain ⟨q1, q2, q3⟩ := q; omega) | fail)] | rw [if_neg (by first | assumption | omega | (refine inA_iff.mpr ?_; omega) | (intro q; have q2 := inA_iff.mp q; omega) | (intro q; omega) | (refine ⟨?_, ?_⟩ <;> rw [nI_int (by omega)] <;> omega) | (rw [nI_int (by omega)]; omega) | (intro q; rw [nI_int (by omega)] at q; omega) | (refine ⟨?_, ?_, ?_⟩ <;> omega) | (intro q; obtain ⟨q1, q2, q3⟩ := q; omega) | fail)])) <;> rfl
                      rw [e]
                      exact ⟨rfl, im_put (j := 1) (by decide) hIm hT (by omega), im_only (by decide)⟩)
        · have h4 : N 8 = 0 := nI_eq_ (by omega) (by omega) (Decidable.byContradiction h4)
          refine WP.run (pc' := 24) (L' := [.ref 0, .int (nI 1)]) (st' := [.int (-1000002)]) (I1 := I) 1 rfl ?_
          exact WP.ret rfl rfl (by
                      have e : nImage N T (nI 1) = ((-1000002), T) := by (unfold nImage; (repeat rw [nOf_nI (by omega)]); (repeat first | rw [if_pos (by first | assumption | omega | (refine inA_iff.mpr ?_; omega) | (intro q; have q2 := inA_iff.mp q; omega) | (intro q; omega) | (refine ⟨?_, ?_⟩ <;> rw [nI_int (by omega)] <;> omega) | (rw [nI_int (by omega)]; omega) | (intro q; rw [nI_int (by omega)] at q; omega) | (refine ⟨?_, ?_, ?_⟩ <;> omega) | (intro q; obtain ⟨q1, q2, q3⟩ := q; omega) | fail)] | rw [if_neg (by first | assumption | omega | (refine inA_iff.mpr ?_; omega) | (intro q; have q2 := inA_iff.mp q; omega) | (intro q; omega) | (refine ⟨?_, ?_⟩ <;> rw [nI_int (by omega)] <;> omega) | (rw [nI_int (by omega)]; omega) | (intro q; rw [nI_int (by omega)] at q; omega) | (refine ⟨?_, ?_, ?_⟩ <;> omega) | (intro q; obtain ⟨q1, q2, q3⟩ := q; omega) | fail)])) <;> rfl
                      rw [e]
                      exact ⟨rfl, hIm, Only.rfl_⟩)
    · have h2 : ¬ (x.toInt < 2) := fun q => h2 ((iLtL (n := 2) (by omega)).mpr q)
      refine WP.run (pc' := 11) (L' := [.ref 0, .int x]) (st' := [.int (-1000001)]) (I1 := I) 1 rfl ?_
      exact WP.ret rfl rfl (by
              have e : nImage N T x = ((-1000001), T) := by (unfold nImage; (repeat rw [nOf_nI (by omega)]); (repeat first | rw [if_pos (by first | assumption | omega | (refine inA_iff.mpr ?_; omega) | (intro q; have q2 := inA_iff.mp q; omega) | (intro q; omega) | (refine ⟨?_, ?_⟩ <;> rw [nI_int (by omega)] <;> omega) | (rw [nI_int (by omega)]; omega) | (intro q; rw [nI_int (by omega)] at q; omega) | (refine ⟨?_, ?_, ?_⟩ <;> omega) | (intro q; obtain ⟨q1, q2, q3⟩ := q; omega) | fail)] | rw [if_neg (by first | assumption | omega | (refine inA_iff.mpr ?_; omega) | (intro q; have q2 := inA_iff.mp q; omega) | (intro q; omega) | (refine ⟨?_, ?_⟩ <;> rw [nI_int (by omega)] <;> omega) | (rw [nI_int (by omega)]; omega) | (intro q; rw [nI_int (by omega)] at q; omega) | (refine ⟨?_, ?_, ?_⟩ <;> omega) | (intro q; obtain ⟨q1, q2, q3⟩ := q; omega) | fail)])) <;> rfl
              rw [e]
              exact ⟨rfl, hIm, Only.rfl_⟩)
set_option maxRecDepth 100000 in
theorem cs_restore {d : Nat} {I : Pl} {N : Nat → Nat} {m : Nat} {F : Nat → Nat → Nat} {T : ImS} {x : Int32} (hS : TSC I (N, m, F)) (hI : TSI (N, m, F)) (hIm : ImC I T) (hImI : ImI T) : EvX (d + 3) 115 [.ref 0, .int x] I (fun v K => v = some (.int (nRestore (N, m, F) T x).1) ∧ TSC K (nRestore (N, m, F) T x).2 ∧ Only I K tsP ∧ (PlF K ∨ (K = I ∧ (nRestore (N, m, F) T x).2 = (N, m, F)))) := by
  refine EvX.enter rfl rfl rfl ?_
  refine WP.run (pc' := if x < 0 then 9 else 4) (L' := [.ref 0, .int x, UU]) (st' := []) (I1 := I) 2 rfl ?_
  refine WP.br (fun h1 => ?_) (fun h1 => ?_)
  · have h1 : x.toInt < 0 := (iLtZ).mp h1
    refine WP.run (pc' := 11) (L' := [.ref 0, .int x, UU]) (st' := [.int (-1000001)]) (I1 := I) 1 rfl ?_
    exact WP.ret rfl rfl (by
          have e : nRestore (N, m, F) T x = ((-1000001), (N, m, F)) := by (unfold nRestore; (repeat rw [nOf_nI (by omega)]); (repeat first | rw [if_pos (by first | assumption | omega | (refine inA_iff.mpr ?_; omega) | (intro q; have q2 := inA_iff.mp q; omega) | (intro q; omega) | (refine ⟨?_, ?_⟩ <;> rw [nI_int (by omega)] <;> omega) | (rw [nI_int (by omega)]; omega) | (intro q; rw [nI_int (by omega)] at q; omega) | (refine ⟨?_, ?_, ?_⟩ <;> omega) | (intro q; obtain ⟨q1, q2, q3⟩ := q; omega) | fail)] | rw [if_neg (by first | assumption | omega | (refine inA_iff.mpr ?_; omega) | (intro q; have q2 := inA_iff.mp q; omega) | (intro q; omega) | (refine ⟨?_, ?_⟩ <;> rw [nI_int (by omega)] <;> omega) | (rw [nI_int (by omega)]; omega) | (intro q; rw [nI_int (by omega)] at q; omega) | (refine ⟨?_, ?_, ?_⟩ <;> omega) | (intro q; obtain ⟨q1, q2, q3⟩ := q; omega) | fail)])) <;> rfl
          rw [e]
          exact ⟨rfl, hS, Only.rfl_, Or.inr ⟨rfl, rfl⟩⟩)
  · have h1 : ¬ (x.toInt < 0) := fun q => h1 ((iLtZ).mpr q)
    refine WP.run (pc' := if x < (nI 2) then 12 else 9) (L' := [.ref 0, .int x, UU]) (st' := []) (I1 := I) 3 rfl ?_
    refine WP.br (fun h2 => ?_) (fun h2 => ?_)
    · have h2 : x.toInt < 2 := (iLtL (n := 2) (by omega)).mp h2
      have hw : inA x 2 := (by refine inA_iff.mpr ?_; omega)
      obtain ⟨w1, hw1, rfl⟩ := inA_of hw (by decide)
      have hsw : w1 = 0 ∨ w1 = 1 := by omega
      rcases hsw with rfl | rfl
      · refine WP.run (pc' := 14) (L' := [.ref 0, .int (nI 0), UU]) (st' := [.int (nI 0), .ref 0]) (I1 := I) 2 rfl ?_
        refine WP.callV (rest := []) rfl rfl (sp_imageOf_0 (d := d + 1)) ?_
        have hIm2 := (hImI 0 (by decide)).2
        rcases hIm 0 (by decide) with ⟨tk, sk⟩ | ⟨tk, tw, t8⟩
        · refine WP.run (pc' := 22) (L' := [.ref 0, .int (nI 0), .ref 255]) (st' := [.int (I 255 0)]) (I1 := I) 3 rfl ?_
          refine WP.cg (st' := [.int (nI 0)]) rfl (congrArg (fun z : Int32 => ([.int z] : List Value)) (sk)) rfl ?_
          refine WP.run (pc' := 27) (L' := [.ref 0, .int (nI 0), .ref 255]) (st' := [.int (-1000002)]) (I1 := I) 2 rfl ?_
          exact WP.ret rfl rfl (by
                      have e : nRestore (N, m, F) T (nI 0) = ((-1000002), (N, m, F)) := by (unfold nRestore; (repeat rw [nOf_nI (by omega)]); (repeat first | rw [if_pos (by first | assumption | omega | (refine inA_iff.mpr ?_; omega) | (intro q; have q2 := inA_iff.mp q; omega) | (intro q; omega) | (refine ⟨?_, ?_⟩ <;> rw [nI_int (by omega)] <;> omega) | (rw [nI_int (by omega)]; omega) | (intro q; rw [nI_int (by omega)] at q; omega) | (refine ⟨?_, ?_, ?_⟩ <;> omega) | (intro q; obtain ⟨q1, q2, q3⟩ := q; omega) | fail)] | rw [if_neg (by first | assumption | omega | (refine inA_iff.mpr ?_; omega) | (intro q; have q2 := inA_iff.mp q; omega) | (intro q; omega) | (refine ⟨?_, ?_⟩ <;> rw [nI_int (by omega)] <;> omega) | (rw [nI_int (by omega)]; omega) | (intro q; rw [nI_int (by omega)] at q; omega) | (refine ⟨?_, ?_, ?_⟩ <;> omega) | (intro q; obtain ⟨q1, q2, q3⟩ := q; omega) | fail)])) <;> rfl
                      rw [e]
                      exact ⟨rfl, hS, Only.rfl_, Or.inr ⟨rfl, rfl⟩⟩)
        · refine WP.run (pc' := 22) (L' := [.ref 0, .int (nI 0), .ref 255]) (st' := [.int (I 255 0)]) (I1 := I) 3 rfl ?_
          refine WP.cg (st' := [.int (nI 1)]) rfl (congrArg (fun z : Int32 => ([.int z] : List Value)) (tw.f0.trans (by rw [t8]))) rfl ?_
          refine WP.run (pc' := 33) (L' := [.ref 0, .int (nI 0), .ref 255]) (st' := [.ref 255, .ref 247]) (I1 := I) 4 rfl ?_
          refine WP.callV (rest := []) rfl rfl (sp_become_247_255 (d := d + 1) (tw_b tw (hIm2 tk))) ?_
          refine WP.run (pc' := 37) (L' := [.ref 0, .int (nI 0), .ref 255]) (st' := [.ref 0]) (I1 := (becN I 247 255)) 1 rfl ?_
          refine WP.callV (rest := []) rfl rfl (sp_beginAnew (d := d) (I := (becN I 247 255))) ?_
          refine WP.run (pc' := 41) (L' := [.ref 0, .int (nI 0), .ref 255]) (st' := [.int (nI 1)]) (I1 := (anewN (becN I 247 255))) 1 rfl ?_
          exact WP.ret rfl rfl (by
                      have e : nRestore (N, m, F) T (nI 0) = ((nI 1), (T.2 0, 0, F)) := by (unfold nRestore; (repeat rw [nOf_nI (by omega)]); (repeat first | rw [if_pos (by first | assumption | omega | (refine inA_iff.mpr ?_; omega) | (intro q; have q2 := inA_iff.mp q; omega) | (intro q; omega) | (refine ⟨?_, ?_⟩ <;> rw [nI_int (by omega)] <;> omega) | (rw [nI_int (by omega)]; omega) | (intro q; rw [nI_int (by omega)] at q; omega) | (refine ⟨?_, ?_, ?_⟩ <;> omega) | (intro q; obtain ⟨q1, q2, q3⟩ := q; omega) | fail)] | rw [if_neg (by first | assumption | omega | (refine inA_iff.mpr ?_; omega) | (intro q; have q2 := inA_iff.mp q; omega) | (intro q; omega) | (refine ⟨?_, ?_⟩ <;> rw [nI_int (by omega)] <;> omega) | (rw [nI_int (by omega)]; omega) | (intro q; rw [nI_int (by omega)] at q; omega) | (refine ⟨?_, ?_, ?_⟩ <;> omega) | (intro q; obtain ⟨q1, q2, q3⟩ := q; omega) | fail)])) <;> rfl
                      rw [e]
                      have ha := anew_TS (F := F) (becN_tw (I := I) (a := 247) (b := 255) (by decide) tw) (fun o k q => becN_fr (by have q2 : ¬ (247 ≤ o ∧ o ≤ 254) := fun z => q (Or.inr z); omega))
                      exact ⟨rfl, ha.1, ha.2, Or.inl forgN_F⟩)
      · refine WP.run (pc' := 14) (L' := [.ref 0, .int (nI 1), UU]) (st' := [.int (nI 1), .ref 0]) (I1 := I) 2 rfl ?_
        refine WP.callV (rest := []) rfl rfl (sp_imageOf_1 (d := d + 1)) ?_
        have hIm2 := (hImI 1 (by decide)).2
        rcases hIm 1 (by decide) with ⟨tk, sk⟩ | ⟨tk, tw, t8⟩
        · refine WP.run (pc' := 22) (L' := [.ref 0, .int (nI 1), .ref 263]) (st' := [.int (I 263 0)]) (I1 := I) 3 rfl ?_
          refine WP.cg (st' := [.int (nI 0)]) rfl (congrArg (fun z : Int32 => ([.int z] : List Value)) (sk)) rfl ?_
          refine WP.run (pc' := 27) (L' := [.ref 0, .int (nI 1), .ref 263]) (st' := [.int (-1000002)]) (I1 := I) 2 rfl ?_
          exact WP.ret rfl rfl (by
                      have e : nRestore (N, m, F) T (nI 1) = ((-1000002), (N, m, F)) := by (unfold nRestore; (repeat rw [nOf_nI (by omega)]); (repeat first | rw [if_pos (by first | assumption | omega | (refine inA_iff.mpr ?_; omega) | (intro q; have q2 := inA_iff.mp q; omega) | (intro q; omega) | (refine ⟨?_, ?_⟩ <;> rw [nI_int (by omega)] <;> omega) | (rw [nI_int (by omega)]; omega) | (intro q; rw [nI_int (by omega)] at q; omega) | (refine ⟨?_, ?_, ?_⟩ <;> omega) | (intro q; obtain ⟨q1, q2, q3⟩ := q; omega) | fail)] | rw [if_neg (by first | assumption | omega | (refine inA_iff.mpr ?_; omega) | (intro q; have q2 := inA_iff.mp q; omega) | (intro q; omega) | (refine ⟨?_, ?_⟩ <;> rw [nI_int (by omega)] <;> omega) | (rw [nI_int (by omega)]; omega) | (intro q; rw [nI_int (by omega)] at q; omega) | (refine ⟨?_, ?_, ?_⟩ <;> omega) | (intro q; obtain ⟨q1, q2, q3⟩ := q; omega) | fail)])) <;> rfl
                      rw [e]
                      exact ⟨rfl, hS, Only.rfl_, Or.inr ⟨rfl, rfl⟩⟩)
        · refine WP.run (pc' := 22) (L' := [.ref 0, .int (nI 1), .ref 263]) (st' := [.int (I 263 0)]) (I1 := I) 3 rfl ?_
          refine WP.cg (st' := [.int (nI 1)]) rfl (congrArg (fun z : Int32 => ([.int z] : List Value)) (tw.f0.trans (by rw [t8]))) rfl ?_
          refine WP.run (pc' := 33) (L' := [.ref 0, .int (nI 1), .ref 263]) (st' := [.ref 263, .ref 247]) (I1 := I) 4 rfl ?_
          refine WP.callV (rest := []) rfl rfl (sp_become_247_263 (d := d + 1) (tw_b tw (hIm2 tk))) ?_
          refine WP.run (pc' := 37) (L' := [.ref 0, .int (nI 1), .ref 263]) (st' := [.ref 0]) (I1 := (becN I 247 263)) 1 rfl ?_
          refine WP.callV (rest := []) rfl rfl (sp_beginAnew (d := d) (I := (becN I 247 263))) ?_
          refine WP.run (pc' := 41) (L' := [.ref 0, .int (nI 1), .ref 263]) (st' := [.int (nI 1)]) (I1 := (anewN (becN I 247 263))) 1 rfl ?_
          exact WP.ret rfl rfl (by
                      have e : nRestore (N, m, F) T (nI 1) = ((nI 1), (T.2 1, 0, F)) := by (unfold nRestore; (repeat rw [nOf_nI (by omega)]); (repeat first | rw [if_pos (by first | assumption | omega | (refine inA_iff.mpr ?_; omega) | (intro q; have q2 := inA_iff.mp q; omega) | (intro q; omega) | (refine ⟨?_, ?_⟩ <;> rw [nI_int (by omega)] <;> omega) | (rw [nI_int (by omega)]; omega) | (intro q; rw [nI_int (by omega)] at q; omega) | (refine ⟨?_, ?_, ?_⟩ <;> omega) | (intro q; obtain ⟨q1, q2, q3⟩ := q; omega) | fail)] | rw [if_neg (by first | assumption | omega | (refine inA_iff.mpr ?_; omega) | (intro q; have q2 := inA_iff.mp q; omega) | (intro q; omega) | (refine ⟨?_, ?_⟩ <;> rw [nI_int (by omega)] <;> omega) | (rw [nI_int (by omega)]; omega) | (intro q; rw [nI_int (by omega)] at q; omega) | (refine ⟨?_, ?_, ?_⟩ <;> omega) | (intro q; obtain ⟨q1, q2, q3⟩ := q; omega) | fail)])) <;> rfl
                      rw [e]
                      have ha := anew_TS (F := F) (becN_tw (I := I) (a := 247) (b := 263) (by decide) tw) (fun o k q => becN_fr (by have q2 : ¬ (247 ≤ o ∧ o ≤ 254) := fun z => q (Or.inr z); omega))
                      exact ⟨rfl, ha.1, ha.2, Or.inl forgN_F⟩)
    · have h2 : ¬ (x.toInt < 2) := fun q => h2 ((iLtL (n := 2) (by omega)).mpr q)
      refine WP.run (pc' := 11) (L' := [.ref 0, .int x, UU]) (st' := [.int (-1000001)]) (I1 := I) 1 rfl ?_
      exact WP.ret rfl rfl (by
              have e : nRestore (N, m, F) T x = ((-1000001), (N, m, F)) := by (unfold nRestore; (repeat rw [nOf_nI (by omega)]); (repeat first | rw [if_pos (by first | assumption | omega | (refine inA_iff.mpr ?_; omega) | (intro q; have q2 := inA_iff.mp q; omega) | (intro q; omega) | (refine ⟨?_, ?_⟩ <;> rw [nI_int (by omega)] <;> omega) | (rw [nI_int (by omega)]; omega) | (intro q; rw [nI_int (by omega)] at q; omega) | (refine ⟨?_, ?_, ?_⟩ <;> omega) | (intro q; obtain ⟨q1, q2, q3⟩ := q; omega) | fail)] | rw [if_neg (by first | assumption | omega | (refine inA_iff.mpr ?_; omega) | (intro q; have q2 := inA_iff.mp q; omega) | (intro q; omega) | (refine ⟨?_, ?_⟩ <;> rw [nI_int (by omega)] <;> omega) | (rw [nI_int (by omega)]; omega) | (intro q; rw [nI_int (by omega)] at q; omega) | (refine ⟨?_, ?_, ?_⟩ <;> omega) | (intro q; obtain ⟨q1, q2, q3⟩ := q; omega) | fail)])) <;> rfl
              rw [e]
              exact ⟨rfl, hS, Only.rfl_, Or.inr ⟨rfl, rfl⟩⟩)
abbrev TpS : Type := Nat × (Nat → Nat)
def TpC (I : Pl) (T : TpS) : Prop := I 13 3 = nI T.1 ∧ ∀ i, i < T.1 → I 14 i = nI (T.2 i)
def TpM (I : Pl) (T : TpS) : Prop := I 271 9 = nI T.1 ∧ ∀ i, i < T.1 → I 278 i = nI (T.2 i)
def TpI (T : TpS) : Prop := T.1 ≤ 120 ∧ ∀ i, i < T.1 → T.2 i < 256
def fdP (o k : Nat) : Prop := (o = 13 ∧ k = 3) ∨ o = 14
def fdmP (o k : Nat) : Prop := (o = 271 ∧ k = 9) ∨ o = 278
def nFeed (T : TpS) (x : Int32) : Int32 × TpS := if inA x 256 then (if T.1 = 120 then (-1000003, T) else (nI (T.1 + 1), (T.1 + 1, updF T.2 T.1 (nOf x)))) else (-1000001, T)
theorem nFeed_I {T : TpS} {x : Int32} (h : TpI T) : TpI (nFeed T x).2 := by
  unfold nFeed
  obtain ⟨h1, h2⟩ := h
  split
  · rename_i hx
    obtain ⟨j, hj, rfl⟩ := inA_of hx (by decide)
    rw [nOf_nI (by omega)]
    split
    · exact ⟨h1, h2⟩
    · refine ⟨by show T.1 + 1 ≤ 120; omega, fun i hi => ?_⟩
      have hi : i < T.1 + 1 := hi
      show updF T.2 T.1 j i < 256
      by_cases q : i = T.1
      · rw [q, updF_s]
        exact hj
      · rw [updF_o q]
        exact h2 i (by omega)
  · exact ⟨h1, h2⟩
theorem TpC.add {I : Pl} {n j : Nat} {B : Nat → Nat} (h : TpC I (n, B)) : TpC (upN (upN I 14 n (nI j)) 13 3 (nI (n + 1))) (n + 1, updF B n j) := by
  refine ⟨upN_s, fun i hi => ?_⟩
  have hi : i < n + 1 := hi
  show _ = nI (updF B n j i)
  rw [upN_no (by decide)]
  by_cases q : i = n
  · rw [q, updF_s, upN_s]
  · rw [updF_o q, upN_nk q]
    exact h.2 i (show i < n by omega)
theorem TpM.add {I : Pl} {n j : Nat} {B : Nat → Nat} (h : TpM I (n, B)) : TpM (upN (upN I 278 n (nI j)) 271 9 (nI (n + 1))) (n + 1, updF B n j) := by
  refine ⟨upN_s, fun i hi => ?_⟩
  have hi : i < n + 1 := hi
  show _ = nI (updF B n j i)
  rw [upN_no (by decide)]
  by_cases q : i = n
  · rw [q, updF_s, upN_s]
  · rw [updF_o q, upN_nk q]
    exact h.2 i (show i < n by omega)
set_option maxRecDepth 100000 in
theorem sp_isFull {d : Nat} {I : Pl} {n : Nat} (hn : I 13 3 = nI n) (hn1 : n ≤ 120) : Ev (d + 1) 43 [.ref 13] (mem I) (some (.int (b2i (n = 120)))) (mem I) := by
  refine Ev.only (EvX.enter rfl rfl rfl ?_)
  refine WP.run (pc' := 4) (L' := [.ref 13]) (st' := [.int (I 13 3)]) (I1 := I) 2 rfl ?_
  refine WP.cg (st' := [.int (nI n)]) rfl (congrArg (fun z : Int32 => (.int z :: [] : List Value)) (hn)) rfl ?_
  refine WP.run (pc' := if (nI n) < (nI 120) then 13 else 9) (L' := [.ref 13]) (st' := []) (I1 := I) 2 rfl ?_
  refine WP.br (fun h1 => ?_) (fun h1 => ?_)
  · have h1 : n < 120 := nI_lt_ (by omega) (by omega) h1
    refine WP.run (pc' := 14) (L' := [.ref 13]) (st' := [.int (nI 0)]) (I1 := I) 1 rfl ?_
    exact WP.ret rfl rfl (⟨b2i01 (b2iF ((by omega))), rfl⟩)
  · have h1 : ¬ n < 120 := fun q => h1 (nI_lt_r (by omega) q)
    refine WP.run (pc' := 14) (L' := [.ref 13]) (st' := [.int (nI 1)]) (I1 := I) 2 rfl ?_
    exact WP.ret rfl rfl (⟨b2i01 (b2iT ((by omega))), rfl⟩)
set_option maxRecDepth 100000 in
theorem sp_append {d : Nat} {I : Pl} {n j : Nat} (hn : I 13 3 = nI n) (hn1 : n < 120) : Ev (d + 1) 44 [.ref 13, .int (nI j)] (mem I) (some (.int (nI (n + 1)))) (mem (upN (upN I 14 n (nI j)) 13 3 (nI (n + 1)))) := by
  refine Ev.only (EvX.enter rfl rfl rfl ?_)
  refine WP.run (pc' := 8) (L' := [.ref 13, .int (nI j)]) (st' := [.int (I 13 3), .ref 14]) (I1 := I) 4 rfl ?_
  refine WP.cg (st' := [.int (nI n), .ref 14]) rfl (congrArg (fun z : Int32 => (.int z :: [.ref 14] : List Value)) (hn)) rfl ?_
  refine WP.run (pc' := 9) (L' := [.ref 13, .int (nI j)]) (st' := [.int (nI j), .int (nI n), .ref 14]) (I1 := I) 1 rfl ?_
  refine WP.iast rfl rfl rfl (by omega) (by decide) ?_
  refine WP.run (pc' := 15) (L' := [.ref 13, .int (nI j)]) (st' := [.int (I 13 3), .ref 13]) (I1 := (upN I 14 n (nI j))) 3 rfl ?_
  refine WP.cg (st' := [.int (nI n), .ref 13]) rfl (congrArg (fun z : Int32 => (.int z :: [.ref 13] : List Value)) (hn)) rfl ?_
  refine WP.run (pc' := 17) (L' := [.ref 13, .int (nI j)]) (st' := [.int ((nI n) + (nI 1)), .ref 13]) (I1 := (upN I 14 n (nI j))) 2 rfl ?_
  refine WP.cg (st' := [.int (nI (n + 1)), .ref 13]) rfl (congrArg (fun z : Int32 => (.int z :: [.ref 13] : List Value)) (nI_add n 1)) rfl ?_
  refine WP.run (pc' := 24) (L' := [.ref 13, .int (nI j)]) (st' := [.int (nI (n + 1))]) (I1 := (upN (upN I 14 n (nI j)) 13 3 (nI (n + 1)))) 3 rfl ?_
  exact WP.ret rfl rfl (⟨rfl, rfl⟩)
set_option maxRecDepth 100000 in
theorem cs_feed {d : Nat} {I : Pl} {n : Nat} {B : Nat → Nat} {x : Int32} (hT : TpC I (n, B)) (hTI : TpI (n, B)) : EvX (d + 2) 86 [.ref 0, .int x] I (fun v K => v = some (.int (nFeed (n, B) x).1) ∧ TpC K (nFeed (n, B) x).2 ∧ Only I K fdP) := by
  have hn : I 13 3 = nI n := hT.1
  have hn1 : n ≤ 120 := hTI.1
  refine EvX.enter rfl rfl rfl ?_
  refine WP.run (pc' := if x < 0 then 11 else 4) (L' := [.ref 0, .int x]) (st' := []) (I1 := I) 2 rfl ?_
  refine WP.br (fun h1 => ?_) (fun h1 => ?_)
  · have h1 : x.toInt < 0 := (iLtZ).mp h1
    refine WP.run (pc' := 13) (L' := [.ref 0, .int x]) (st' := [.int (-1000001)]) (I1 := I) 1 rfl ?_
    exact WP.ret rfl rfl (by
          have e : nFeed (n, B) x = ((-1000001), (n, B)) := by (unfold nFeed; dsimp only; (repeat rw [nOf_nI (by omega)]); (repeat first | rw [if_pos (by first | assumption | omega | (refine inA_iff.mpr ?_; omega) | (intro q; have q2 := inA_iff.mp q; omega) | (intro q; omega) | (refine ⟨?_, ?_⟩ <;> rw [nI_int (by omega)] <;> omega) | (rw [nI_int (by omega)]; omega) | (intro q; rw [nI_int (by omega)] at q; omega) | (refine ⟨?_, ?_, ?_⟩ <;> omega) | (intro q; obtain ⟨q1, q2, q3⟩ := q; omega) | fail)] | rw [if_neg (by first | assumption | omega | (refine inA_iff.mpr ?_; omega) | (intro q; have q2 := inA_iff.mp q; omega) | (intro q; omega) | (refine ⟨?_, ?_⟩ <;> rw [nI_int (by omega)] <;> omega) | (rw [nI_int (by omega)]; omega) | (intro q; rw [nI_int (by omega)] at q; omega) | (refine ⟨?_, ?_, ?_⟩ <;> omega) | (intro q; obtain ⟨q1, q2, q3⟩ := q; omega) | fail)])) <;> rfl
          rw [e]
          exact ⟨rfl, hT, Only.rfl_⟩)
  · have h1 : ¬ (x.toInt < 0) := fun q => h1 ((iLtZ).mpr q)
    refine WP.run (pc' := if x ≤ (nI 255) then 14 else 11) (L' := [.ref 0, .int x]) (st' := []) (I1 := I) 3 rfl ?_
    refine WP.br (fun h2 => ?_) (fun h2 => ?_)
    · have h2 : x.toInt ≤ 255 := (iLeL (n := 255) (by omega)).mp h2
      have hx_j : inA x 256 := (by refine inA_iff.mpr ?_; omega)
      obtain ⟨j, hj, rfl⟩ := inA_of hx_j (by omega)
      refine WP.run (pc' := 18) (L' := [.ref 0, .int (nI j)]) (st' := [.ref 13]) (I1 := I) 2 rfl ?_
      refine WP.callB (rest := []) rfl rfl (sp_isFull (d := d) hn (by omega)) (fun h3 => ?_) (fun h3 => ?_)
      · refine WP.run (pc' := 26) (L' := [.ref 0, .int (nI j)]) (st' := [.int (-1000003)]) (I1 := I) 2 rfl ?_
        exact WP.ret rfl rfl (by
                  have e : nFeed (n, B) (nI j) = ((-1000003), (n, B)) := by (unfold nFeed; dsimp only; (repeat rw [nOf_nI (by omega)]); (repeat first | rw [if_pos (by first | assumption | omega | (refine inA_iff.mpr ?_; omega) | (intro q; have q2 := inA_iff.mp q; omega) | (intro q; omega) | (refine ⟨?_, ?_⟩ <;> rw [nI_int (by omega)] <;> omega) | (rw [nI_int (by omega)]; omega) | (intro q; rw [nI_int (by omega)] at q; omega) | (refine ⟨?_, ?_, ?_⟩ <;> omega) | (intro q; obtain ⟨q1, q2, q3⟩ := q; omega) | fail)] | rw [if_neg (by first | assumption | omega | (refine inA_iff.mpr ?_; omega) | (intro q; have q2 := inA_iff.mp q; omega) | (intro q; omega) | (refine ⟨?_, ?_⟩ <;> rw [nI_int (by omega)] <;> omega) | (rw [nI_int (by omega)]; omega) | (intro q; rw [nI_int (by omega)] at q; omega) | (refine ⟨?_, ?_, ?_⟩ <;> omega) | (intro q; obtain ⟨q1, q2, q3⟩ := q; omega) | fail)])) <;> rfl
                  rw [e]
                  exact ⟨rfl, hT, Only.rfl_⟩)
      · refine WP.run (pc' := 32) (L' := [.ref 0, .int (nI j)]) (st' := [.int (nI j), .ref 13]) (I1 := I) 4 rfl ?_
        refine WP.callV (rest := []) rfl rfl (sp_append (d := d) (j := j) hn (by omega)) ?_
        exact WP.ret rfl rfl (by
                  have e : nFeed (n, B) (nI j) = ((nI (n + 1)), (n + 1, updF B n j)) := by (unfold nFeed; dsimp only; (repeat rw [nOf_nI (by omega)]); (repeat first | rw [if_pos (by first | assumption | omega | (refine inA_iff.mpr ?_; omega) | (intro q; have q2 := inA_iff.mp q; omega) | (intro q; omega) | (refine ⟨?_, ?_⟩ <;> rw [nI_int (by omega)] <;> omega) | (rw [nI_int (by omega)]; omega) | (intro q; rw [nI_int (by omega)] at q; omega) | (refine ⟨?_, ?_, ?_⟩ <;> omega) | (intro q; obtain ⟨q1, q2, q3⟩ := q; omega) | fail)] | rw [if_neg (by first | assumption | omega | (refine inA_iff.mpr ?_; omega) | (intro q; have q2 := inA_iff.mp q; omega) | (intro q; omega) | (refine ⟨?_, ?_⟩ <;> rw [nI_int (by omega)] <;> omega) | (rw [nI_int (by omega)]; omega) | (intro q; rw [nI_int (by omega)] at q; omega) | (refine ⟨?_, ?_, ?_⟩ <;> omega) | (intro q; obtain ⟨q1, q2, q3⟩ := q; omega) | fail)])) <;> rfl
                  rw [e]
                  exact ⟨rfl, TpC.add hT, (Only.up Only.rfl_ (Or.inr rfl)).up (Or.inl ⟨rfl, rfl⟩)⟩)
    · have h2 : ¬ (x.toInt ≤ 255) := fun q => h2 ((iLeL (n := 255) (by omega)).mpr q)
      refine WP.run (pc' := 13) (L' := [.ref 0, .int x]) (st' := [.int (-1000001)]) (I1 := I) 1 rfl ?_
      exact WP.ret rfl rfl (by
              have e : nFeed (n, B) x = ((-1000001), (n, B)) := by (unfold nFeed; dsimp only; (repeat rw [nOf_nI (by omega)]); (repeat first | rw [if_pos (by first | assumption | omega | (refine inA_iff.mpr ?_; omega) | (intro q; have q2 := inA_iff.mp q; omega) | (intro q; omega) | (refine ⟨?_, ?_⟩ <;> rw [nI_int (by omega)] <;> omega) | (rw [nI_int (by omega)]; omega) | (intro q; rw [nI_int (by omega)] at q; omega) | (refine ⟨?_, ?_, ?_⟩ <;> omega) | (intro q; obtain ⟨q1, q2, q3⟩ := q; omega) | fail)] | rw [if_neg (by first | assumption | omega | (refine inA_iff.mpr ?_; omega) | (intro q; have q2 := inA_iff.mp q; omega) | (intro q; omega) | (refine ⟨?_, ?_⟩ <;> rw [nI_int (by omega)] <;> omega) | (rw [nI_int (by omega)]; omega) | (intro q; rw [nI_int (by omega)] at q; omega) | (refine ⟨?_, ?_, ?_⟩ <;> omega) | (intro q; obtain ⟨q1, q2, q3⟩ := q; omega) | fail)])) <;> rfl
              rw [e]
              exact ⟨rfl, hT, Only.rfl_⟩)
set_option maxRecDepth 100000 in
theorem ms_feed {d : Nat} {I : Pl} {n : Nat} {B : Nat → Nat} {x : Int32} (hT : TpM I (n, B)) (hTI : TpI (n, B)) : EvX (d + 2) 136 [.ref 271, .int x] I (fun v K => v = some (.int (nFeed (n, B) x).1) ∧ TpM K (nFeed (n, B) x).2 ∧ Only I K fdmP) := by
  have hn : I 271 9 = nI n := hT.1
  have hn1 : n ≤ 120 := hTI.1
  refine EvX.enter rfl rfl rfl ?_
  refine WP.run (pc' := 6) (L' := [.ref 271, .int x]) (st' := [.long (255 : Int64), .long (0 : Int64), .long x.toInt64]) (I1 := I) 4 rfl ?_
  refine WP.callB (rest := []) rfl rfl (sp_inA (d := d) (x := x) (n := 256) (hi := (255 : Int64)) rfl) (fun h1 => ?_) (fun h1 => ?_)
  · refine WP.run (pc' := 15) (L' := [.ref 271, .int x]) (st' := []) (I1 := I) 1 rfl ?_
    have hx_j : inA x 256 := (by assumption)
    obtain ⟨j, hj, rfl⟩ := inA_of hx_j (by omega)
    refine WP.run (pc' := 19) (L' := [.ref 271, .int (nI j)]) (st' := [.int (I 271 9)]) (I1 := I) 2 rfl ?_
    refine WP.cg (st' := [.int (nI n)]) rfl (congrArg (fun z : Int32 => (.int z :: [] : List Value)) (hn)) rfl ?_
    refine WP.run (pc' := if ¬ (nI n) = (nI 120) then 27 else 24) (L' := [.ref 271, .int (nI j)]) (st' := []) (I1 := I) 2 rfl ?_
    refine WP.br (fun h2 => ?_) (fun h2 => ?_)
    · have h2 : ¬ n = 120 := fun q => h2 (nI_eq_r q)
      refine WP.run (pc' := 35) (L' := [.ref 271, .int (nI j)]) (st' := [.int (I 271 9), .ref 278]) (I1 := I) 4 rfl ?_
      refine WP.cg (st' := [.int (nI n), .ref 278]) rfl (congrArg (fun z : Int32 => (.int z :: [.ref 278] : List Value)) (hn)) rfl ?_
      refine WP.run (pc' := 36) (L' := [.ref 271, .int (nI j)]) (st' := [.int (nI j), .int (nI n), .ref 278]) (I1 := I) 1 rfl ?_
      refine WP.iast rfl rfl rfl (by omega) (by decide) ?_
      refine WP.run (pc' := 42) (L' := [.ref 271, .int (nI j)]) (st' := [.int (I 271 9), .ref 271]) (I1 := (upN I 278 n (nI j))) 3 rfl ?_
      refine WP.cg (st' := [.int (nI n), .ref 271]) rfl (congrArg (fun z : Int32 => (.int z :: [.ref 271] : List Value)) (hn)) rfl ?_
      refine WP.run (pc' := 44) (L' := [.ref 271, .int (nI j)]) (st' := [.int ((nI n) + (nI 1)), .ref 271]) (I1 := (upN I 278 n (nI j))) 2 rfl ?_
      refine WP.cg (st' := [.int (nI (n + 1)), .ref 271]) rfl (congrArg (fun z : Int32 => (.int z :: [.ref 271] : List Value)) (nI_add n 1)) rfl ?_
      refine WP.run (pc' := 51) (L' := [.ref 271, .int (nI j)]) (st' := [.int (nI (n + 1))]) (I1 := (upN (upN I 278 n (nI j)) 271 9 (nI (n + 1)))) 3 rfl ?_
      exact WP.ret rfl rfl (by
              have e : nFeed (n, B) (nI j) = ((nI (n + 1)), (n + 1, updF B n j)) := by (unfold nFeed; dsimp only; (repeat rw [nOf_nI (by omega)]); (repeat first | rw [if_pos (by first | assumption | omega | (refine inA_iff.mpr ?_; omega) | (intro q; have q2 := inA_iff.mp q; omega) | (intro q; omega) | (refine ⟨?_, ?_⟩ <;> rw [nI_int (by omega)] <;> omega) | (rw [nI_int (by omega)]; omega) | (intro q; rw [nI_int (by omega)] at q; omega) | (refine ⟨?_, ?_, ?_⟩ <;> omega) | (intro q; obtain ⟨q1, q2, q3⟩ := q; omega) | fail)] | rw [if_neg (by first | assumption | omega | (refine inA_iff.mpr ?_; omega) | (intro q; have q2 := inA_iff.mp q; omega) | (intro q; omega) | (refine ⟨?_, ?_⟩ <;> rw [nI_int (by omega)] <;> omega) | (rw [nI_int (by omega)]; omega) | (intro q; rw [nI_int (by omega)] at q; omega) | (refine ⟨?_, ?_, ?_⟩ <;> omega) | (intro q; obtain ⟨q1, q2, q3⟩ := q; omega) | fail)])) <;> rfl
              rw [e]
              exact ⟨rfl, TpM.add hT, (Only.up Only.rfl_ (Or.inr rfl)).up (Or.inl ⟨rfl, rfl⟩)⟩)
    · have h2 : n = 120 := nI_eq_ (by omega) (by omega) (Decidable.byContradiction h2)
      refine WP.run (pc' := 26) (L' := [.ref 271, .int (nI j)]) (st' := [.int (-1000003)]) (I1 := I) 1 rfl ?_
      exact WP.ret rfl rfl (by
              have e : nFeed (n, B) (nI j) = ((-1000003), (n, B)) := by (unfold nFeed; dsimp only; (repeat rw [nOf_nI (by omega)]); (repeat first | rw [if_pos (by first | assumption | omega | (refine inA_iff.mpr ?_; omega) | (intro q; have q2 := inA_iff.mp q; omega) | (intro q; omega) | (refine ⟨?_, ?_⟩ <;> rw [nI_int (by omega)] <;> omega) | (rw [nI_int (by omega)]; omega) | (intro q; rw [nI_int (by omega)] at q; omega) | (refine ⟨?_, ?_, ?_⟩ <;> omega) | (intro q; obtain ⟨q1, q2, q3⟩ := q; omega) | fail)] | rw [if_neg (by first | assumption | omega | (refine inA_iff.mpr ?_; omega) | (intro q; have q2 := inA_iff.mp q; omega) | (intro q; omega) | (refine ⟨?_, ?_⟩ <;> rw [nI_int (by omega)] <;> omega) | (rw [nI_int (by omega)]; omega) | (intro q; rw [nI_int (by omega)] at q; omega) | (refine ⟨?_, ?_, ?_⟩ <;> omega) | (intro q; obtain ⟨q1, q2, q3⟩ := q; omega) | fail)])) <;> rfl
              rw [e]
              exact ⟨rfl, hT, Only.rfl_⟩)
  · refine WP.run (pc' := 14) (L' := [.ref 271, .int x]) (st' := [.int (-1000001)]) (I1 := I) 2 rfl ?_
    exact WP.ret rfl rfl (by
          have e : nFeed (n, B) x = ((-1000001), (n, B)) := by (unfold nFeed; dsimp only; (repeat rw [nOf_nI (by omega)]); (repeat first | rw [if_pos (by first | assumption | omega | (refine inA_iff.mpr ?_; omega) | (intro q; have q2 := inA_iff.mp q; omega) | (intro q; omega) | (refine ⟨?_, ?_⟩ <;> rw [nI_int (by omega)] <;> omega) | (rw [nI_int (by omega)]; omega) | (intro q; rw [nI_int (by omega)] at q; omega) | (refine ⟨?_, ?_, ?_⟩ <;> omega) | (intro q; obtain ⟨q1, q2, q3⟩ := q; omega) | fail)] | rw [if_neg (by first | assumption | omega | (refine inA_iff.mpr ?_; omega) | (intro q; have q2 := inA_iff.mp q; omega) | (intro q; omega) | (refine ⟨?_, ?_⟩ <;> rw [nI_int (by omega)] <;> omega) | (rw [nI_int (by omega)]; omega) | (intro q; rw [nI_int (by omega)] at q; omega) | (refine ⟨?_, ?_, ?_⟩ <;> omega) | (intro q; obtain ⟨q1, q2, q3⟩ := q; omega) | fail)])) <;> rfl
          rw [e]
          exact ⟨rfl, hT, Only.rfl_⟩)
