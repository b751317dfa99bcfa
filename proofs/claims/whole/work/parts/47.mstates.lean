/-! the reference: what changes the tower now -/
theorem T0.cgN {I : Pl} {A B : Nat → Nat} (h : T0 I A) (e : A = B) : T0 I B := e ▸ h
theorem upN_272 {J : Pl} {i o k : Nat} {v : Int32} (hi : i < 47) (q : ¬ (o = 272 ∧ k < 47)) : upN J 272 i v o k = J o k := by
  by_cases q1 : o = 272
  · exact upN_nk (by omega)
  · exact upN_no q1
theorem setN_comm {N : Nat → Nat} {i j a b : Nat} (h : ¬ i = j) : setN (setN N i a) j b = setN (setN N j b) i a := by
  funext k
  by_cases q1 : k = i
  · subst q1
    rw [setN_o h, setN_s, setN_s]
  · by_cases q2 : k = j
    · subst q2
      rw [setN_s, setN_o q1, setN_s]
    · rw [setN_o q2, setN_o q1, setN_o q1, setN_o q2]
set_option maxRecDepth 100000 in
theorem lm_put {d : Nat} {J : Pl} {a : Nat} (ha : J 271 1 = nI a) (ha24 : a < 24) : ∀ k, k ≤ 47 → WP d (149, 7, none, sc0) 59 [.ref 271, .int (nI k)] [] (outM J (188 + 47 * a) k) (fun v K => v = none ∧ K = upN (outM J (188 + 47 * a) 47) 271 1 (nI (a + 1))) := by
  refine loopUp (fun k hk ih => ?_)
  refine WP.run (pc' := if (nI 47) ≤ (nI k) then 95 else 65) (L' := [.ref 271, .int (nI k)]) (st' := []) (I1 := (outM J (188 + 47 * a) k)) 3 rfl ?_
  refine WP.br (fun h1 => ?_) (fun h1 => ?_)
  · have h1 : 47 ≤ k := nI_le_ (by omega) (by omega) h1
    refine WP.run (pc' := 100) (L' := [.ref 271, .int (nI k)]) (st' := [.int ((outM J (188 + 47 * a) k) 271 1), .ref 271]) (I1 := (outM J (188 + 47 * a) k)) 3 rfl ?_
    refine WP.cg (st' := [.int (nI a), .ref 271]) rfl (congrArg (fun z : Int32 => (.int z :: [.ref 271] : List Value)) ((outM_o _ _ _ (by decide)).trans ha)) rfl ?_
    refine WP.run (pc' := 102) (L' := [.ref 271, .int (nI k)]) (st' := [.int ((nI a) + (nI 1)), .ref 271]) (I1 := (outM J (188 + 47 * a) k)) 2 rfl ?_
    refine WP.cg (st' := [.int (nI (a + 1)), .ref 271]) rfl (congrArg (fun z : Int32 => (.int z :: [.ref 271] : List Value)) (nI_add a 1)) rfl ?_
    refine WP.run (pc' := 105) (L' := [.ref 271, .int (nI k)]) (st' := []) (I1 := (upN (outM J (188 + 47 * a) k) 271 1 (nI (a + 1)))) 1 rfl ?_
    exact WP.ret rfl rfl (⟨rfl, by rw [show 47 = k by omega]⟩)
  · have h1 : ¬ 47 ≤ k := fun q => h1 (nI_le_r (by omega) q)
    refine WP.run (pc' := 78) (L' := [.ref 271, .int (nI k)]) (st' := [.int ((outM J (188 + 47 * a) k) 271 1), .int (nI 47), .int (nI 188), .ref 272]) (I1 := (outM J (188 + 47 * a) k)) 6 rfl ?_
    refine WP.cg (st' := [.int (nI a), .int (nI 47), .int (nI 188), .ref 272]) rfl (congrArg (fun z : Int32 => (.int z :: [.int (nI 47), .int (nI 188), .ref 272] : List Value)) ((outM_o _ _ _ (by decide)).trans ha)) rfl ?_
    refine WP.run (pc' := 79) (L' := [.ref 271, .int (nI k)]) (st' := [.int ((nI 47) * (nI a)), .int (nI 188), .ref 272]) (I1 := (outM J (188 + 47 * a) k)) 1 rfl ?_
    refine WP.cg (st' := [.int (nI (47 * a)), .int (nI 188), .ref 272]) rfl (congrArg (fun z : Int32 => (.int z :: [.int (nI 188), .ref 272] : List Value)) (pk_mul 47 a)) rfl ?_
    refine WP.run (pc' := 80) (L' := [.ref 271, .int (nI k)]) (st' := [.int ((nI 188) + (nI (47 * a))), .ref 272]) (I1 := (outM J (188 + 47 * a) k)) 1 rfl ?_
    refine WP.cg (st' := [.int (nI (188 + (47 * a))), .ref 272]) rfl (congrArg (fun z : Int32 => (.int z :: [.ref 272] : List Value)) (nI_add 188 (47 * a))) rfl ?_
    refine WP.run (pc' := 82) (L' := [.ref 271, .int (nI k)]) (st' := [.int ((nI (188 + (47 * a))) + (nI k)), .ref 272]) (I1 := (outM J (188 + 47 * a) k)) 2 rfl ?_
    refine WP.cg (st' := [.int (nI ((188 + (47 * a)) + k)), .ref 272]) rfl (congrArg (fun z : Int32 => (.int z :: [.ref 272] : List Value)) (nI_add (188 + (47 * a)) k)) rfl ?_
    refine WP.run (pc' := 87) (L' := [.ref 271, .int (nI k)]) (st' := [.int (nI k), .ref 272, .int (nI ((188 + (47 * a)) + k)), .ref 272]) (I1 := (outM J (188 + 47 * a) k)) 3 rfl ?_
    refine WP.iald rfl rfl rfl (by omega) (by decide) ?_
    refine WP.iast rfl rfl rfl (by omega) (by decide) ?_
    refine WP.run (pc' := 92) (L' := [.ref 271, .int ((nI k) + nI 1)]) (st' := []) (I1 := (upN (outM J (188 + 47 * a) k) 272 ((188 + (47 * a)) + k) ((outM J (188 + 47 * a) k) 272 k))) 1 rfl ?_
    refine WP.cg (L' := [.ref 271, .int (nI (k + 1))]) (congrArg (fun z : Int32 => ([.ref 271, .int z] : List Value)) (nI_add k 1)) rfl rfl ?_
    refine WP.run (pc' := 59) (L' := [.ref 271, .int (nI (k + 1))]) (st' := []) (I1 := (upN (outM J (188 + 47 * a) k) 272 ((188 + (47 * a)) + k) ((outM J (188 + 47 * a) k) 272 k))) 1 rfl ?_
    refine WP.cg (L' := [.ref 271, .int (nI (k + 1))]) rfl rfl rfl (ih (by omega))
set_option maxRecDepth 100000 in
theorem lm_shift {d : Nat} {I : Pl} (hm : I 271 1 = nI 24) : ∀ k, k ≤ 1081 → WP d (149, 7, none, sc0) 11 [.ref 271, .int (nI k)] [] (shN I k) (fun v K => v = none ∧ K = upN (outM (upN (shN I 1081) 271 1 (nI 23)) (188 + 47 * 23) 47) 271 1 (nI (23 + 1))) := by
  refine loopUp (fun k hk ih => ?_)
  refine WP.run (pc' := if (nI 1081) ≤ (nI k) then 47 else 18) (L' := [.ref 271, .int (nI k)]) (st' := []) (I1 := (shN I k)) 3 rfl ?_
  refine WP.br (fun h1 => ?_) (fun h1 => ?_)
  · have h1 : 1081 ≤ k := nI_le_ (by omega) (by omega) h1
    refine WP.run (pc' := 52) (L' := [.ref 271, .int (nI k)]) (st' := [.int ((shN I k) 271 1), .ref 271]) (I1 := (shN I k)) 3 rfl ?_
    refine WP.cg (st' := [.int (nI 24), .ref 271]) rfl (congrArg (fun z : Int32 => (.int z :: [.ref 271] : List Value)) ((shN_o _ _ _ (by decide)).trans hm)) rfl ?_
    refine WP.run (pc' := 54) (L' := [.ref 271, .int (nI k)]) (st' := [.int ((nI 24) - (nI 1)), .ref 271]) (I1 := (shN I k)) 2 rfl ?_
    refine WP.cg (st' := [.int (nI 23), .ref 271]) rfl (congrArg (fun z : Int32 => (.int z :: [.ref 271] : List Value)) (rfl)) rfl ?_
    refine WP.run (pc' := 59) (L' := [.ref 271, .int (nI 0)]) (st' := []) (I1 := (upN (shN I k) 271 1 (nI 23))) 3 rfl ?_
    obtain rfl : k = 1081 := by omega
    exact lm_put (J := upN (shN I 1081) 271 1 (nI 23)) (a := 23) upN_s (by decide) 0 (Nat.zero_le _)
  · have h1 : ¬ 1081 ≤ k := fun q => h1 (nI_le_r (by omega) q)
    refine WP.run (pc' := 27) (L' := [.ref 271, .int (nI k)]) (st' := [.int ((nI 188) + (nI k)), .ref 272]) (I1 := (shN I k)) 5 rfl ?_
    refine WP.cg (st' := [.int (nI (188 + k)), .ref 272]) rfl (congrArg (fun z : Int32 => (.int z :: [.ref 272] : List Value)) (nI_add 188 k)) rfl ?_
    refine WP.run (pc' := 36) (L' := [.ref 271, .int (nI k)]) (st' := [.int ((nI 188) + (nI k)), .ref 272, .int (nI (188 + k)), .ref 272]) (I1 := (shN I k)) 5 rfl ?_
    refine WP.cg (st' := [.int (nI (188 + k)), .ref 272, .int (nI (188 + k)), .ref 272]) rfl (congrArg (fun z : Int32 => (.int z :: [.ref 272, .int (nI (188 + k)), .ref 272] : List Value)) (nI_add 188 k)) rfl ?_
    refine WP.run (pc' := 39) (L' := [.ref 271, .int (nI k)]) (st' := [.int ((nI (188 + k)) + (nI 47)), .ref 272, .int (nI (188 + k)), .ref 272]) (I1 := (shN I k)) 2 rfl ?_
    refine WP.cg (st' := [.int (nI ((188 + k) + 47)), .ref 272, .int (nI (188 + k)), .ref 272]) rfl (congrArg (fun z : Int32 => (.int z :: [.ref 272, .int (nI (188 + k)), .ref 272] : List Value)) (nI_add (188 + k) 47)) rfl ?_
    refine WP.iald rfl rfl rfl (by omega) (by decide) ?_
    refine WP.iast rfl rfl rfl (by omega) (by decide) ?_
    refine WP.run (pc' := 44) (L' := [.ref 271, .int ((nI k) + nI 1)]) (st' := []) (I1 := (upN (shN I k) 272 (188 + k) ((shN I k) 272 ((188 + k) + 47)))) 1 rfl ?_
    refine WP.cg (L' := [.ref 271, .int (nI (k + 1))]) (congrArg (fun z : Int32 => ([.ref 271, .int z] : List Value)) (nI_add k 1)) rfl rfl ?_
    refine WP.run (pc' := 11) (L' := [.ref 271, .int (nI (k + 1))]) (st' := []) (I1 := (upN (shN I k) 272 (188 + k) ((shN I k) 272 ((188 + k) + 47)))) 1 rfl ?_
    refine WP.cg (L' := [.ref 271, .int (nI (k + 1))]) rfl rfl rfl (ih (by omega))
set_option maxRecDepth 100000 in
theorem ms_minds0 {d : Nat} {I : Pl} {m : Nat} (hm : I 271 1 = nI m) (hm1 : m ≤ 24) : Ev (d + 1) 149 [.ref 271] (mem I) (none) (mem (mindN I m)) := by
  refine Ev.only (EvX.enter rfl rfl rfl ?_)
  refine WP.run (pc' := 4) (L' := [.ref 271, UU]) (st' := [.int (I 271 1)]) (I1 := I) 2 rfl ?_
  refine WP.cg (st' := [.int (nI m)]) rfl (congrArg (fun z : Int32 => (.int z :: [] : List Value)) (hm)) rfl ?_
  refine WP.run (pc' := if ¬ (nI m) = (nI 24) then 57 else 9) (L' := [.ref 271, UU]) (st' := []) (I1 := I) 2 rfl ?_
  refine WP.br (fun h1 => ?_) (fun h1 => ?_)
  · have h1 : ¬ m = 24 := fun q => h1 (nI_eq_r q)
    refine WP.run (pc' := 59) (L' := [.ref 271, .int (nI 0)]) (st' := []) (I1 := I) 2 rfl ?_
    unfold mindN
    rw [if_neg (by assumption)]
    exact lm_put hm (by omega) 0 (Nat.zero_le _)
  · have h1 : m = 24 := nI_eq_ (by omega) (by omega) (Decidable.byContradiction h1)
    refine WP.run (pc' := 11) (L' := [.ref 271, .int (nI 0)]) (st' := []) (I1 := I) 2 rfl ?_
    unfold mindN
    rw [if_pos (by assumption)]
    exact lm_shift (hm.trans (by rw [show m = 24 by assumption])) 0 (Nat.zero_le _)
theorem ms_minds {d : Nat} {I : Pl} {S : TwS} (hS : TSM I S) (hI : TSI S) : EvX (d + 1) 149 [.ref 271] I (fun v K => v = none ∧ TSM K (actS S) ∧ Only I K tsmP) := by
  obtain ⟨k1, k2⟩ := minds_TS hS hI
  exact ⟨none, _, ms_minds0 hS.2.1 hI.2.1, rfl, k1, k2⟩
set_option maxRecDepth 100000 in
theorem ms_plait {d : Nat} {I : Pl} {N : Nat → Nat} {m : Nat} {F : Nat → Nat → Nat} {x : Int32} (hS : TSM I (N, m, F)) (hI : TSI (N, m, F)) : EvX (d + 3) 155 [.ref 271, .int x] I (fun v K => v = some (.int (nPlait (N, m, F) x).1) ∧ TSM K (nPlait (N, m, F) x).2 ∧ Only I K tsmP) := by
  have hM : T0 I N := hS.1
  have hN : TI N := hI.1
  obtain ⟨b0, b1, b2, b3, b4, b5, b6, b7, b8, bS, bC, bS1, bC1, bZ, bG⟩ := id hN
  obtain ⟨s6, s7, s64⟩ := hN.set64
  refine EvX.enter rfl rfl rfl ?_
  refine WP.run (pc' := 1) (L' := [.ref 271, .int x]) (st' := [.ref 271]) (I1 := I) 1 rfl ?_
  refine WP.callB (rest := []) rfl rfl (ms_isNone (d := d + 1) hM hN) (fun h1 => ?_) (fun h1 => ?_)
  · refine WP.run (pc' := 9) (L' := [.ref 271, .int x]) (st' := [.int (-1000002)]) (I1 := I) 2 rfl ?_
    exact WP.ret rfl rfl (by
          have e : nPlait (N, m, F) x = ((-1000002), (N, m, F)) := by (unfold nPlait; dsimp only; (repeat rw [nOf_nI (by omega)]); (repeat first | rw [if_pos (by first | assumption | omega | (refine inA_iff.mpr ?_; omega) | (intro q; have q2 := inA_iff.mp q; omega) | (intro q; omega) | (refine ⟨?_, ?_⟩ <;> rw [nI_int (by omega)] <;> omega) | (rw [nI_int (by omega)]; omega) | (intro q; rw [nI_int (by omega)] at q; omega) | (refine ⟨?_, ?_, ?_⟩ <;> omega) | (intro q; obtain ⟨q1, q2, q3⟩ := q; omega) | fail)] | rw [if_neg (by first | assumption | omega | (refine inA_iff.mpr ?_; omega) | (intro q; have q2 := inA_iff.mp q; omega) | (intro q; omega) | (refine ⟨?_, ?_⟩ <;> rw [nI_int (by omega)] <;> omega) | (rw [nI_int (by omega)]; omega) | (intro q; rw [nI_int (by omega)] at q; omega) | (refine ⟨?_, ?_, ?_⟩ <;> omega) | (intro q; obtain ⟨q1, q2, q3⟩ := q; omega) | fail)])) <;> rfl
          rw [e]
          exact ⟨rfl, hS, Only.rfl_⟩)
  · refine WP.run (pc' := 12) (L' := [.ref 271, .int x]) (st' := [.int x, .ref 271]) (I1 := I) 3 rfl ?_
    refine WP.callB (rest := []) rfl rfl (ms_isSet (d := d) (x := x) hM hN) (fun h2 => ?_) (fun h2 => ?_)
    · refine WP.run (pc' := 21) (L' := [.ref 271, .int x]) (st' := []) (I1 := I) 1 rfl ?_
      have hx_j : inA x (2 ^ N 2) := (by assumption)
      obtain ⟨j, hj, rfl⟩ := inA_of hx_j (by omega)
      have hand := Nat.and_le_left (n := j) (m := N 7)
      refine WP.run (pc' := 28) (L' := [.ref 271, .int (nI j)]) (st' := [.int (nI 7), .ref 272, .int (nI j)]) (I1 := I) 4 rfl ?_
      refine WP.iald rfl rfl rfl (by omega) (by decide) ?_
      refine WP.cg (st' := [.int (nI (N 7)), .int (nI j)]) rfl (congrArg (fun z : Int32 => (.int z :: [.int (nI j)] : List Value)) (hM 7 (by omega))) rfl ?_
      refine WP.run (pc' := 30) (L' := [.ref 271, .int (nI j)]) (st' := [.int ((nI j) &&& (nI (N 7)))]) (I1 := I) 1 rfl ?_
      refine WP.cg (st' := [.int (nI (j &&& (N 7)))]) rfl (congrArg (fun z : Int32 => (.int z :: [] : List Value)) (nI_and j (N 7))) rfl ?_
      refine WP.run (pc' := if (nI (j &&& (N 7))) = 0 then 36 else 33) (L' := [.ref 271, .int (nI j)]) (st' := []) (I1 := I) 1 rfl ?_
      refine WP.br (fun h3 => ?_) (fun h3 => ?_)
      · have h3 : j &&& (N 7) = 0 := nI_eq_ (by omega) (by omega) h3
        refine WP.run (pc' := 37) (L' := [.ref 271, .int (nI j)]) (st' := [.ref 271]) (I1 := I) 1 rfl ?_
        refine WP.callX (rest := []) rfl rfl (ms_minds (d := d + 1) hS hI) (fun v J hv => ?_)
        obtain ⟨rfl, hB, hO⟩ := hv
        have hJ : T0 J N := hB.1
        refine WP.run (pc' := 47) (L' := [.ref 271, .int (nI j)]) (st' := [.int (nI j), .int (nI 6), .ref 272]) (I1 := J) 4 rfl ?_
        refine WP.iast rfl rfl rfl (by omega) (by decide) ?_
        refine WP.run (pc' := 49) (L' := [.ref 271, .int (nI j)]) (st' := [.int (nI j)]) (I1 := (upN J 272 6 (nI j))) 1 rfl ?_
        refine WP.callV (rest := []) rfl rfl (ms_ones (d := d + 1) (m := j) (by omega)) ?_
        exact WP.ret rfl rfl (by
                  have e : nPlait (N, m, F) (nI j) = ((nI (popc j)), (setN N 6 j, (actS (N, m, F)).2)) := by (unfold nPlait; dsimp only; (repeat rw [nOf_nI (by omega)]); (repeat first | rw [if_pos (by first | assumption | omega | (refine inA_iff.mpr ?_; omega) | (intro q; have q2 := inA_iff.mp q; omega) | (intro q; omega) | (refine ⟨?_, ?_⟩ <;> rw [nI_int (by omega)] <;> omega) | (rw [nI_int (by omega)]; omega) | (intro q; rw [nI_int (by omega)] at q; omega) | (refine ⟨?_, ?_, ?_⟩ <;> omega) | (intro q; obtain ⟨q1, q2, q3⟩ := q; omega) | fail)] | rw [if_neg (by first | assumption | omega | (refine inA_iff.mpr ?_; omega) | (intro q; have q2 := inA_iff.mp q; omega) | (intro q; omega) | (refine ⟨?_, ?_⟩ <;> rw [nI_int (by omega)] <;> omega) | (rw [nI_int (by omega)]; omega) | (intro q; rw [nI_int (by omega)] at q; omega) | (refine ⟨?_, ?_, ?_⟩ <;> omega) | (intro q; obtain ⟨q1, q2, q3⟩ := q; omega) | fail)])) <;> rfl
                  rw [e]
                  exact ⟨rfl, hB.now (T0.up hJ) (fun o k q => upN_272 (by omega) q), (Only.up hO (Or.inr ⟨rfl, Or.inl (by omega)⟩))⟩)
      · have h3 : ¬ j &&& (N 7) = 0 := fun q => h3 (nI_eq_r q)
        refine WP.run (pc' := 35) (L' := [.ref 271, .int (nI j)]) (st' := [.int (-1000002)]) (I1 := I) 1 rfl ?_
        exact WP.ret rfl rfl (by
                  have e : nPlait (N, m, F) (nI j) = ((-1000002), (N, m, F)) := by (unfold nPlait; dsimp only; (repeat rw [nOf_nI (by omega)]); (repeat first | rw [if_pos (by first | assumption | omega | (refine inA_iff.mpr ?_; omega) | (intro q; have q2 := inA_iff.mp q; omega) | (intro q; omega) | (refine ⟨?_, ?_⟩ <;> rw [nI_int (by omega)] <;> omega) | (rw [nI_int (by omega)]; omega) | (intro q; rw [nI_int (by omega)] at q; omega) | (refine ⟨?_, ?_, ?_⟩ <;> omega) | (intro q; obtain ⟨q1, q2, q3⟩ := q; omega) | fail)] | rw [if_neg (by first | assumption | omega | (refine inA_iff.mpr ?_; omega) | (intro q; have q2 := inA_iff.mp q; omega) | (intro q; omega) | (refine ⟨?_, ?_⟩ <;> rw [nI_int (by omega)] <;> omega) | (rw [nI_int (by omega)]; omega) | (intro q; rw [nI_int (by omega)] at q; omega) | (refine ⟨?_, ?_, ?_⟩ <;> omega) | (intro q; obtain ⟨q1, q2, q3⟩ := q; omega) | fail)])) <;> rfl
                  rw [e]
                  exact ⟨rfl, hS, Only.rfl_⟩)
    · refine WP.run (pc' := 20) (L' := [.ref 271, .int x]) (st' := [.int (-1000001)]) (I1 := I) 2 rfl ?_
      exact WP.ret rfl rfl (by
              have e : nPlait (N, m, F) x = ((-1000001), (N, m, F)) := by (unfold nPlait; dsimp only; (repeat rw [nOf_nI (by omega)]); (repeat first | rw [if_pos (by first | assumption | omega | (refine inA_iff.mpr ?_; omega) | (intro q; have q2 := inA_iff.mp q; omega) | (intro q; omega) | (refine ⟨?_, ?_⟩ <;> rw [nI_int (by omega)] <;> omega) | (rw [nI_int (by omega)]; omega) | (intro q; rw [nI_int (by omega)] at q; omega) | (refine ⟨?_, ?_, ?_⟩ <;> omega) | (intro q; obtain ⟨q1, q2, q3⟩ := q; omega) | fail)] | rw [if_neg (by first | assumption | omega | (refine inA_iff.mpr ?_; omega) | (intro q; have q2 := inA_iff.mp q; omega) | (intro q; omega) | (refine ⟨?_, ?_⟩ <;> rw [nI_int (by omega)] <;> omega) | (rw [nI_int (by omega)]; omega) | (intro q; rw [nI_int (by omega)] at q; omega) | (refine ⟨?_, ?_, ?_⟩ <;> omega) | (intro q; obtain ⟨q1, q2, q3⟩ := q; omega) | fail)])) <;> rfl
              rw [e]
              exact ⟨rfl, hS, Only.rfl_⟩)
set_option maxRecDepth 100000 in
theorem ms_cut_ {d : Nat} {I : Pl} {N : Nat → Nat} {m : Nat} {F : Nat → Nat → Nat} {x : Int32} (hS : TSM I (N, m, F)) (hI : TSI (N, m, F)) : EvX (d + 2) 163 [.ref 271, .int x] I (fun v K => v = some (.int (nCut (N, m, F) x).1) ∧ TSM K (nCut (N, m, F) x).2 ∧ Only I K tsmP) := by
  have hM : T0 I N := hS.1
  have hN : TI N := hI.1
  obtain ⟨b0, b1, b2, b3, b4, b5, b6, b7, b8, bS, bC, bS1, bC1, bZ, bG⟩ := id hN
  obtain ⟨s6, s7, s64⟩ := hN.set64
  refine EvX.enter rfl rfl rfl ?_
  refine WP.run (pc' := 1) (L' := [.ref 271, .int x]) (st' := [.ref 271]) (I1 := I) 1 rfl ?_
  refine WP.callB (rest := []) rfl rfl (ms_isNone (d := d) hM hN) (fun h1 => ?_) (fun h1 => ?_)
  · refine WP.run (pc' := 9) (L' := [.ref 271, .int x]) (st' := [.int (-1000002)]) (I1 := I) 2 rfl ?_
    exact WP.ret rfl rfl (by
          have e : nCut (N, m, F) x = ((-1000002), (N, m, F)) := by (unfold nCut; dsimp only; (repeat rw [nOf_nI (by omega)]); (repeat first | rw [if_pos (by first | assumption | omega | (refine inA_iff.mpr ?_; omega) | (intro q; have q2 := inA_iff.mp q; omega) | (intro q; omega) | (refine ⟨?_, ?_⟩ <;> rw [nI_int (by omega)] <;> omega) | (rw [nI_int (by omega)]; omega) | (intro q; rw [nI_int (by omega)] at q; omega) | (refine ⟨?_, ?_, ?_⟩ <;> omega) | (intro q; obtain ⟨q1, q2, q3⟩ := q; omega) | fail)] | rw [if_neg (by first | assumption | omega | (refine inA_iff.mpr ?_; omega) | (intro q; have q2 := inA_iff.mp q; omega) | (intro q; omega) | (refine ⟨?_, ?_⟩ <;> rw [nI_int (by omega)] <;> omega) | (rw [nI_int (by omega)]; omega) | (intro q; rw [nI_int (by omega)] at q; omega) | (refine ⟨?_, ?_, ?_⟩ <;> omega) | (intro q; obtain ⟨q1, q2, q3⟩ := q; omega) | fail)])) <;> rfl
          rw [e]
          exact ⟨rfl, hS, Only.rfl_⟩)
  · refine WP.run (pc' := 16) (L' := [.ref 271, .int x]) (st' := [.long (99 : Int64), .long (1 : Int64), .long x.toInt64]) (I1 := I) 5 rfl ?_
    refine WP.callB (rest := []) rfl rfl (sp_inR (d := d) (x := x) (lo := (1 : Int64)) (hi := (99 : Int64)) (a := 1) (b := 99) rfl rfl) (fun h2 => ?_) (fun h2 => ?_)
    · refine WP.run (pc' := 25) (L' := [.ref 271, .int x]) (st' := []) (I1 := I) 1 rfl ?_
      have hx_j : inA x 100 := (by refine inA_iff.mpr ?_; have hp : inR x 1 99 := (by assumption); have h1 := hp.1; have h2 := hp.2; omega)
      obtain ⟨j, hj, rfl⟩ := inA_of hx_j (by omega)
      refine WP.run (pc' := 30) (L' := [.ref 271, .int (nI j)]) (st' := [.int (nI 1), .ref 272]) (I1 := I) 3 rfl ?_
      refine WP.iald rfl rfl rfl (by omega) (by decide) ?_
      refine WP.cg (st' := [.int (nI (N 1))]) rfl (congrArg (fun z : Int32 => (.int z :: [] : List Value)) (hM 1 (by omega))) rfl ?_
      refine WP.run (pc' := if (nI j) ≤ (nI (N 1)) then 38 else 35) (L' := [.ref 271, .int (nI j)]) (st' := []) (I1 := I) 2 rfl ?_
      refine WP.br (fun h3 => ?_) (fun h3 => ?_)
      · have h3 : j ≤ N 1 := nI_le_ (by omega) (by omega) h3
        refine WP.run (pc' := 39) (L' := [.ref 271, .int (nI j)]) (st' := [.ref 271]) (I1 := I) 1 rfl ?_
        refine WP.callX (rest := []) rfl rfl (ms_minds (d := d) hS hI) (fun v J hv => ?_)
        obtain ⟨rfl, hB, hO⟩ := hv
        have hJ : T0 J N := hB.1
        refine WP.run (pc' := 48) (L' := [.ref 271, .int (nI j)]) (st' := [.int (nI 1), .ref 272, .int (nI 1), .ref 272]) (I1 := J) 4 rfl ?_
        refine WP.iald rfl rfl rfl (by omega) (by decide) ?_
        refine WP.cg (st' := [.int (nI (N 1)), .int (nI 1), .ref 272]) rfl (congrArg (fun z : Int32 => (.int z :: [.int (nI 1), .ref 272] : List Value)) ((hJ 1 (by omega)))) rfl ?_
        refine WP.run (pc' := 51) (L' := [.ref 271, .int (nI j)]) (st' := [.int ((nI (N 1)) - (nI j)), .int (nI 1), .ref 272]) (I1 := J) 2 rfl ?_
        refine WP.cg (st' := [.int (nI ((N 1) - j)), .int (nI 1), .ref 272]) rfl (congrArg (fun z : Int32 => (.int z :: [.int (nI 1), .ref 272] : List Value)) (pk_sub (a := N 1) (b := j) (by omega))) rfl ?_
        refine WP.iast rfl rfl rfl (by omega) (by decide) ?_
        refine WP.run (pc' := 57) (L' := [.ref 271, .int (nI j)]) (st' := [.int (nI 1), .ref 272]) (I1 := (upN J 272 1 (nI ((N 1) - j)))) 3 rfl ?_
        refine WP.iald rfl rfl rfl (by omega) (by decide) ?_
        refine WP.cg (st' := [.int (nI ((N 1) - j))]) rfl (congrArg (fun z : Int32 => (.int z :: [] : List Value)) (((T0.up hJ) 1 (by omega)).trans (congrArg nI (by rw [setN_s])))) rfl ?_
        exact WP.ret rfl rfl (by
                  have e : nCut (N, m, F) (nI j) = ((nI ((N 1) - j)), (setN N 1 (N 1 - j), (actS (N, m, F)).2)) := by (unfold nCut; dsimp only; (repeat rw [nOf_nI (by omega)]); (repeat first | rw [if_pos (by first | assumption | omega | (refine inA_iff.mpr ?_; omega) | (intro q; have q2 := inA_iff.mp q; omega) | (intro q; omega) | (refine ⟨?_, ?_⟩ <;> rw [nI_int (by omega)] <;> omega) | (rw [nI_int (by omega)]; omega) | (intro q; rw [nI_int (by omega)] at q; omega) | (refine ⟨?_, ?_, ?_⟩ <;> omega) | (intro q; obtain ⟨q1, q2, q3⟩ := q; omega) | fail)] | rw [if_neg (by first | assumption | omega | (refine inA_iff.mpr ?_; omega) | (intro q; have q2 := inA_iff.mp q; omega) | (intro q; omega) | (refine ⟨?_, ?_⟩ <;> rw [nI_int (by omega)] <;> omega) | (rw [nI_int (by omega)]; omega) | (intro q; rw [nI_int (by omega)] at q; omega) | (refine ⟨?_, ?_, ?_⟩ <;> omega) | (intro q; obtain ⟨q1, q2, q3⟩ := q; omega) | fail)])) <;> rfl
                  rw [e]
                  exact ⟨rfl, hB.now (T0.up hJ) (fun o k q => upN_272 (by omega) q), (Only.up hO (Or.inr ⟨rfl, Or.inl (by omega)⟩))⟩)
      · have h3 : ¬ j ≤ N 1 := fun q => h3 (nI_le_r (by omega) q)
        refine WP.run (pc' := 37) (L' := [.ref 271, .int (nI j)]) (st' := [.int (-1000002)]) (I1 := I) 1 rfl ?_
        exact WP.ret rfl rfl (by
                  have e : nCut (N, m, F) (nI j) = ((-1000002), (N, m, F)) := by (unfold nCut; dsimp only; (repeat rw [nOf_nI (by omega)]); (repeat first | rw [if_pos (by first | assumption | omega | (refine inA_iff.mpr ?_; omega) | (intro q; have q2 := inA_iff.mp q; omega) | (intro q; omega) | (refine ⟨?_, ?_⟩ <;> rw [nI_int (by omega)] <;> omega) | (rw [nI_int (by omega)]; omega) | (intro q; rw [nI_int (by omega)] at q; omega) | (refine ⟨?_, ?_, ?_⟩ <;> omega) | (intro q; obtain ⟨q1, q2, q3⟩ := q; omega) | fail)] | rw [if_neg (by first | assumption | omega | (refine inA_iff.mpr ?_; omega) | (intro q; have q2 := inA_iff.mp q; omega) | (intro q; omega) | (refine ⟨?_, ?_⟩ <;> rw [nI_int (by omega)] <;> omega) | (rw [nI_int (by omega)]; omega) | (intro q; rw [nI_int (by omega)] at q; omega) | (refine ⟨?_, ?_, ?_⟩ <;> omega) | (intro q; obtain ⟨q1, q2, q3⟩ := q; omega) | fail)])) <;> rfl
                  rw [e]
                  exact ⟨rfl, hS, Only.rfl_⟩)
    · refine WP.run (pc' := 24) (L' := [.ref 271, .int x]) (st' := [.int (-1000001)]) (I1 := I) 2 rfl ?_
      exact WP.ret rfl rfl (by
              have e : nCut (N, m, F) x = ((-1000001), (N, m, F)) := by (unfold nCut; dsimp only; (repeat rw [nOf_nI (by omega)]); (repeat first | rw [if_pos (by first | assumption | omega | (refine inA_iff.mpr ?_; omega) | (intro q; have q2 := inA_iff.mp q; omega) | (intro q; omega) | (refine ⟨?_, ?_⟩ <;> rw [nI_int (by omega)] <;> omega) | (rw [nI_int (by omega)]; omega) | (intro q; rw [nI_int (by omega)] at q; omega) | (refine ⟨?_, ?_, ?_⟩ <;> omega) | (intro q; obtain ⟨q1, q2, q3⟩ := q; omega) | fail)] | rw [if_neg (by first | assumption | omega | (refine inA_iff.mpr ?_; omega) | (intro q; have q2 := inA_iff.mp q; omega) | (intro q; omega) | (refine ⟨?_, ?_⟩ <;> rw [nI_int (by omega)] <;> omega) | (rw [nI_int (by omega)]; omega) | (intro q; rw [nI_int (by omega)] at q; omega) | (refine ⟨?_, ?_, ?_⟩ <;> omega) | (intro q; obtain ⟨q1, q2, q3⟩ := q; omega) | fail)])) <;> rfl
              rw [e]
              exact ⟨rfl, hS, Only.rfl_⟩)
set_option maxRecDepth 100000 in
theorem ms_peg {d : Nat} {I : Pl} {N : Nat → Nat} {m : Nat} {F : Nat → Nat → Nat} {x : Int32} (hS : TSM I (N, m, F)) (hI : TSI (N, m, F)) : EvX (d + 2) 164 [.ref 271, .int x] I (fun v K => v = some (.int (nPeg (N, m, F) x).1) ∧ TSM K (nPeg (N, m, F) x).2 ∧ Only I K tsmP) := by
  have hM : T0 I N := hS.1
  have hN : TI N := hI.1
  obtain ⟨b0, b1, b2, b3, b4, b5, b6, b7, b8, bS, bC, bS1, bC1, bZ, bG⟩ := id hN
  obtain ⟨s6, s7, s64⟩ := hN.set64
  refine EvX.enter rfl rfl rfl ?_
  refine WP.run (pc' := 1) (L' := [.ref 271, .int x]) (st' := [.ref 271]) (I1 := I) 1 rfl ?_
  refine WP.callB (rest := []) rfl rfl (ms_isNone (d := d) hM hN) (fun h1 => ?_) (fun h1 => ?_)
  · refine WP.run (pc' := 9) (L' := [.ref 271, .int x]) (st' := [.int (-1000002)]) (I1 := I) 2 rfl ?_
    exact WP.ret rfl rfl (by
          have e : nPeg (N, m, F) x = ((-1000002), (N, m, F)) := by (unfold nPeg; dsimp only; (repeat rw [nOf_nI (by omega)]); (repeat first | rw [if_pos (by first | assumption | omega | (refine inA_iff.mpr ?_; omega) | (intro q; have q2 := inA_iff.mp q; omega) | (intro q; omega) | (refine ⟨?_, ?_⟩ <;> rw [nI_int (by omega)] <;> omega) | (rw [nI_int (by omega)]; omega) | (intro q; rw [nI_int (by omega)] at q; omega) | (refine ⟨?_, ?_, ?_⟩ <;> omega) | (intro q; obtain ⟨q1, q2, q3⟩ := q; omega) | fail)] | rw [if_neg (by first | assumption | omega | (refine inA_iff.mpr ?_; omega) | (intro q; have q2 := inA_iff.mp q; omega) | (intro q; omega) | (refine ⟨?_, ?_⟩ <;> rw [nI_int (by omega)] <;> omega) | (rw [nI_int (by omega)]; omega) | (intro q; rw [nI_int (by omega)] at q; omega) | (refine ⟨?_, ?_, ?_⟩ <;> omega) | (intro q; obtain ⟨q1, q2, q3⟩ := q; omega) | fail)])) <;> rfl
          rw [e]
          exact ⟨rfl, hS, Only.rfl_⟩)
  · refine WP.run (pc' := 14) (L' := [.ref 271, .int x]) (st' := [.long (1 : Int64), .long (0 : Int64), .long x.toInt64]) (I1 := I) 5 rfl ?_
    refine WP.callB (rest := []) rfl rfl (sp_inA (d := d) (x := x) (n := 2) (hi := (1 : Int64)) rfl) (fun h2 => ?_) (fun h2 => ?_)
    · refine WP.run (pc' := 23) (L' := [.ref 271, .int x]) (st' := []) (I1 := I) 1 rfl ?_
      have hx_j : inA x 2 := (by assumption)
      obtain ⟨j, hj, rfl⟩ := inA_of hx_j (by omega)
      refine WP.run (pc' := 28) (L' := [.ref 271, .int (nI j)]) (st' := [.int (nI 5), .ref 272]) (I1 := I) 3 rfl ?_
      refine WP.iald rfl rfl rfl (by omega) (by decide) ?_
      refine WP.cg (st' := [.int (nI (N 5))]) rfl (congrArg (fun z : Int32 => (.int z :: [] : List Value)) (hM 5 (by omega))) rfl ?_
      refine WP.run (pc' := if ¬ (nI (N 5)) = (nI j) then 36 else 33) (L' := [.ref 271, .int (nI j)]) (st' := []) (I1 := I) 2 rfl ?_
      refine WP.br (fun h3 => ?_) (fun h3 => ?_)
      · have h3 : ¬ N 5 = j := fun q => h3 (nI_eq_r q)
        refine WP.run (pc' := 37) (L' := [.ref 271, .int (nI j)]) (st' := [.ref 271]) (I1 := I) 1 rfl ?_
        refine WP.callX (rest := []) rfl rfl (ms_minds (d := d) hS hI) (fun v J hv => ?_)
        obtain ⟨rfl, hB, hO⟩ := hv
        have hJ : T0 J N := hB.1
        refine WP.run (pc' := 46) (L' := [.ref 271, .int (nI j)]) (st' := [.int (nI j), .int (nI 5), .ref 272]) (I1 := J) 4 rfl ?_
        refine WP.iast rfl rfl rfl (by omega) (by decide) ?_
        refine WP.run (pc' := 48) (L' := [.ref 271, .int (nI j)]) (st' := [.int (nI 1)]) (I1 := (upN J 272 5 (nI j))) 1 rfl ?_
        exact WP.ret rfl rfl (by
                  have e : nPeg (N, m, F) (nI j) = ((nI 1), (setN N 5 j, (actS (N, m, F)).2)) := by (unfold nPeg; dsimp only; (repeat rw [nOf_nI (by omega)]); (repeat first | rw [if_pos (by first | assumption | omega | (refine inA_iff.mpr ?_; omega) | (intro q; have q2 := inA_iff.mp q; omega) | (intro q; omega) | (refine ⟨?_, ?_⟩ <;> rw [nI_int (by omega)] <;> omega) | (rw [nI_int (by omega)]; omega) | (intro q; rw [nI_int (by omega)] at q; omega) | (refine ⟨?_, ?_, ?_⟩ <;> omega) | (intro q; obtain ⟨q1, q2, q3⟩ := q; omega) | fail)] | rw [if_neg (by first | assumption | omega | (refine inA_iff.mpr ?_; omega) | (intro q; have q2 := inA_iff.mp q; omega) | (intro q; omega) | (refine ⟨?_, ?_⟩ <;> rw [nI_int (by omega)] <;> omega) | (rw [nI_int (by omega)]; omega) | (intro q; rw [nI_int (by omega)] at q; omega) | (refine ⟨?_, ?_, ?_⟩ <;> omega) | (intro q; obtain ⟨q1, q2, q3⟩ := q; omega) | fail)])) <;> rfl
                  rw [e]
                  exact ⟨rfl, hB.now (T0.up hJ) (fun o k q => upN_272 (by omega) q), (Only.up hO (Or.inr ⟨rfl, Or.inl (by omega)⟩))⟩)
      · have h3 : N 5 = j := nI_eq_ (by omega) (by omega) (Decidable.byContradiction h3)
        refine WP.run (pc' := 35) (L' := [.ref 271, .int (nI j)]) (st' := [.int (-1000002)]) (I1 := I) 1 rfl ?_
        exact WP.ret rfl rfl (by
                  have e : nPeg (N, m, F) (nI j) = ((-1000002), (N, m, F)) := by (unfold nPeg; dsimp only; (repeat rw [nOf_nI (by omega)]); (repeat first | rw [if_pos (by first | assumption | omega | (refine inA_iff.mpr ?_; omega) | (intro q; have q2 := inA_iff.mp q; omega) | (intro q; omega) | (refine ⟨?_, ?_⟩ <;> rw [nI_int (by omega)] <;> omega) | (rw [nI_int (by omega)]; omega) | (intro q; rw [nI_int (by omega)] at q; omega) | (refine ⟨?_, ?_, ?_⟩ <;> omega) | (intro q; obtain ⟨q1, q2, q3⟩ := q; omega) | fail)] | rw [if_neg (by first | assumption | omega | (refine inA_iff.mpr ?_; omega) | (intro q; have q2 := inA_iff.mp q; omega) | (intro q; omega) | (refine ⟨?_, ?_⟩ <;> rw [nI_int (by omega)] <;> omega) | (rw [nI_int (by omega)]; omega) | (intro q; rw [nI_int (by omega)] at q; omega) | (refine ⟨?_, ?_, ?_⟩ <;> omega) | (intro q; obtain ⟨q1, q2, q3⟩ := q; omega) | fail)])) <;> rfl
                  rw [e]
                  exact ⟨rfl, hS, Only.rfl_⟩)
    · refine WP.run (pc' := 22) (L' := [.ref 271, .int x]) (st' := [.int (-1000001)]) (I1 := I) 2 rfl ?_
      exact WP.ret rfl rfl (by
              have e : nPeg (N, m, F) x = ((-1000001), (N, m, F)) := by (unfold nPeg; dsimp only; (repeat rw [nOf_nI (by omega)]); (repeat first | rw [if_pos (by first | assumption | omega | (refine inA_iff.mpr ?_; omega) | (intro q; have q2 := inA_iff.mp q; omega) | (intro q; omega) | (refine ⟨?_, ?_⟩ <;> rw [nI_int (by omega)] <;> omega) | (rw [nI_int (by omega)]; omega) | (intro q; rw [nI_int (by omega)] at q; omega) | (refine ⟨?_, ?_, ?_⟩ <;> omega) | (intro q; obtain ⟨q1, q2, q3⟩ := q; omega) | fail)] | rw [if_neg (by first | assumption | omega | (refine inA_iff.mpr ?_; omega) | (intro q; have q2 := inA_iff.mp q; omega) | (intro q; omega) | (refine ⟨?_, ?_⟩ <;> rw [nI_int (by omega)] <;> omega) | (rw [nI_int (by omega)]; omega) | (intro q; rw [nI_int (by omega)] at q; omega) | (refine ⟨?_, ?_, ?_⟩ <;> omega) | (intro q; obtain ⟨q1, q2, q3⟩ := q; omega) | fail)])) <;> rfl
              rw [e]
              exact ⟨rfl, hS, Only.rfl_⟩)
set_option maxRecDepth 100000 in
theorem ms_day {d : Nat} {I : Pl} {N : Nat → Nat} {m : Nat} {F : Nat → Nat → Nat} (hS : TSM I (N, m, F)) (hI : TSI (N, m, F)) : EvX (d + 2) 162 [.ref 271] I (fun v K => v = some (.int (nDay (N, m, F)).1) ∧ TSM K (nDay (N, m, F)).2 ∧ Only I K tsmP) := by
  have hM : T0 I N := hS.1
  have hN : TI N := hI.1
  obtain ⟨b0, b1, b2, b3, b4, b5, b6, b7, b8, bS, bC, bS1, bC1, bZ, bG⟩ := id hN
  obtain ⟨s6, s7, s64⟩ := hN.set64
  refine EvX.enter rfl rfl rfl ?_
  refine WP.run (pc' := 1) (L' := [.ref 271]) (st' := [.ref 271]) (I1 := I) 1 rfl ?_
  refine WP.callB (rest := []) rfl rfl (ms_isNone (d := d) hM hN) (fun h1 => ?_) (fun h1 => ?_)
  · refine WP.run (pc' := 9) (L' := [.ref 271]) (st' := [.int (-1000002)]) (I1 := I) 2 rfl ?_
    exact WP.ret rfl rfl (by
          have e : nDay (N, m, F) = ((-1000002), (N, m, F)) := by (unfold nDay; dsimp only; (repeat rw [nOf_nI (by omega)]); (repeat first | rw [if_pos (by first | assumption | omega | (refine inA_iff.mpr ?_; omega) | (intro q; have q2 := inA_iff.mp q; omega) | (intro q; omega) | (refine ⟨?_, ?_⟩ <;> rw [nI_int (by omega)] <;> omega) | (rw [nI_int (by omega)]; omega) | (intro q; rw [nI_int (by omega)] at q; omega) | (refine ⟨?_, ?_, ?_⟩ <;> omega) | (intro q; obtain ⟨q1, q2, q3⟩ := q; omega) | fail)] | rw [if_neg (by first | assumption | omega | (refine inA_iff.mpr ?_; omega) | (intro q; have q2 := inA_iff.mp q; omega) | (intro q; omega) | (refine ⟨?_, ?_⟩ <;> rw [nI_int (by omega)] <;> omega) | (rw [nI_int (by omega)]; omega) | (intro q; rw [nI_int (by omega)] at q; omega) | (refine ⟨?_, ?_, ?_⟩ <;> omega) | (intro q; obtain ⟨q1, q2, q3⟩ := q; omega) | fail)])) <;> rfl
          rw [e]
          exact ⟨rfl, hS, Only.rfl_⟩)
  · refine WP.run (pc' := 15) (L' := [.ref 271]) (st' := [.int (nI 4), .ref 272]) (I1 := I) 4 rfl ?_
    refine WP.iald rfl rfl rfl (by omega) (by decide) ?_
    refine WP.cg (st' := [.int (nI (N 4))]) rfl (congrArg (fun z : Int32 => (.int z :: [] : List Value)) (hM 4 (by omega))) rfl ?_
    refine WP.run (pc' := if ¬ (nI (N 4)) = (nI 999) then 25 else 22) (L' := [.ref 271]) (st' := []) (I1 := I) 2 rfl ?_
    refine WP.br (fun h2 => ?_) (fun h2 => ?_)
    · have h2 : ¬ N 4 = 999 := fun q => h2 (nI_eq_r q)
      refine WP.run (pc' := 26) (L' := [.ref 271]) (st' := [.ref 271]) (I1 := I) 1 rfl ?_
      refine WP.callX (rest := []) rfl rfl (ms_minds (d := d) hS hI) (fun v J hv => ?_)
      obtain ⟨rfl, hB, hO⟩ := hv
      have hJ : T0 J N := hB.1
      refine WP.run (pc' := 35) (L' := [.ref 271]) (st' := [.int (nI 4), .ref 272, .int (nI 4), .ref 272]) (I1 := J) 4 rfl ?_
      refine WP.iald rfl rfl rfl (by omega) (by decide) ?_
      refine WP.cg (st' := [.int (nI (N 4)), .int (nI 4), .ref 272]) rfl (congrArg (fun z : Int32 => (.int z :: [.int (nI 4), .ref 272] : List Value)) ((hJ 4 (by omega)))) rfl ?_
      refine WP.run (pc' := 38) (L' := [.ref 271]) (st' := [.int ((nI (N 4)) + (nI 1)), .int (nI 4), .ref 272]) (I1 := J) 2 rfl ?_
      refine WP.cg (st' := [.int (nI ((N 4) + 1)), .int (nI 4), .ref 272]) rfl (congrArg (fun z : Int32 => (.int z :: [.int (nI 4), .ref 272] : List Value)) (nI_add (N 4) 1)) rfl ?_
      refine WP.iast rfl rfl rfl (by omega) (by decide) ?_
      refine WP.run (pc' := 45) (L' := [.ref 271]) (st' := [.int (nI 1), .ref 272, .int (nI 1), .ref 272]) (I1 := (upN J 272 4 (nI ((N 4) + 1)))) 4 rfl ?_
      refine WP.iald rfl rfl rfl (by omega) (by decide) ?_
      refine WP.cg (st' := [.int (nI (N 1)), .int (nI 1), .ref 272]) rfl (congrArg (fun z : Int32 => (.int z :: [.int (nI 1), .ref 272] : List Value)) (((T0.up hJ) 1 (by omega)).trans (congrArg nI (by rw [setN_o (by omega)])))) rfl ?_
      refine WP.run (pc' := 51) (L' := [.ref 271]) (st' := [.int (nI 1), .ref 272, .int (nI (N 1)), .int (nI 1), .ref 272]) (I1 := (upN J 272 4 (nI ((N 4) + 1)))) 3 rfl ?_
      refine WP.iald rfl rfl rfl (by omega) (by decide) ?_
      refine WP.cg (st' := [.int (nI (N 1)), .int (nI (N 1)), .int (nI 1), .ref 272]) rfl (congrArg (fun z : Int32 => (.int z :: [.int (nI (N 1)), .int (nI 1), .ref 272] : List Value)) (((T0.up hJ) 1 (by omega)).trans (congrArg nI (by rw [setN_o (by omega)])))) rfl ?_
      refine WP.run (pc' := if (nI 99) ≤ (nI (N 1)) then 61 else 57) (L' := [.ref 271]) (st' := [.int (nI (N 1)), .int (nI 1), .ref 272]) (I1 := (upN J 272 4 (nI ((N 4) + 1)))) 2 rfl ?_
      refine WP.br (fun h3 => ?_) (fun h3 => ?_)
      · have h3 : 99 ≤ N 1 := nI_le_ (by omega) (by omega) h3
        refine WP.run (pc' := 63) (L' := [.ref 271]) (st' := [.int ((nI (N 1)) + (nI 0)), .int (nI 1), .ref 272]) (I1 := (upN J 272 4 (nI ((N 4) + 1)))) 2 rfl ?_
        refine WP.cg (st' := [.int (nI ((N 1) + 0)), .int (nI 1), .ref 272]) rfl (congrArg (fun z : Int32 => (.int z :: [.int (nI 1), .ref 272] : List Value)) (nI_add (N 1) 0)) rfl ?_
        refine WP.iast rfl rfl rfl (by omega) (by decide) ?_
        refine WP.run (pc' := 69) (L' := [.ref 271]) (st' := [.int (nI 4), .ref 272]) (I1 := (upN (upN J 272 4 (nI ((N 4) + 1))) 272 1 (nI ((N 1) + 0)))) 3 rfl ?_
        refine WP.iald rfl rfl rfl (by omega) (by decide) ?_
        refine WP.cg (st' := [.int (nI ((N 4) + 1))]) rfl (congrArg (fun z : Int32 => (.int z :: [] : List Value)) (((T0.up (T0.up hJ)) 4 (by omega)).trans (congrArg nI (by rw [setN_o (by omega), setN_s])))) rfl ?_
        exact WP.ret rfl rfl (by
                  have e : nDay (N, m, F) = ((nI ((N 4) + 1)), (dayN N, (actS (N, m, F)).2)) := by (unfold nDay; dsimp only; (repeat rw [nOf_nI (by omega)]); (repeat first | rw [if_pos (by first | assumption | omega | (refine inA_iff.mpr ?_; omega) | (intro q; have q2 := inA_iff.mp q; omega) | (intro q; omega) | (refine ⟨?_, ?_⟩ <;> rw [nI_int (by omega)] <;> omega) | (rw [nI_int (by omega)]; omega) | (intro q; rw [nI_int (by omega)] at q; omega) | (refine ⟨?_, ?_, ?_⟩ <;> omega) | (intro q; obtain ⟨q1, q2, q3⟩ := q; omega) | fail)] | rw [if_neg (by first | assumption | omega | (refine inA_iff.mpr ?_; omega) | (intro q; have q2 := inA_iff.mp q; omega) | (intro q; omega) | (refine ⟨?_, ?_⟩ <;> rw [nI_int (by omega)] <;> omega) | (rw [nI_int (by omega)]; omega) | (intro q; rw [nI_int (by omega)] at q; omega) | (refine ⟨?_, ?_, ?_⟩ <;> omega) | (intro q; obtain ⟨q1, q2, q3⟩ := q; omega) | fail)])) <;> rfl
                  rw [e]
                  exact ⟨rfl, hB.now (T0.cgN (T0.up (T0.up hJ)) (by unfold dayN; rw [setN_comm (by decide)]; exact congrArg (fun z => setN (setN N 1 z) 4 (N 4 + 1)) (by omega))) (fun o k q => (upN_272 (by omega) q).trans (upN_272 (by omega) q)), (Only.up (Only.up hO (Or.inr ⟨rfl, Or.inl (by omega)⟩)) (Or.inr ⟨rfl, Or.inl (by omega)⟩))⟩)
      · have h3 : ¬ 99 ≤ N 1 := fun q => h3 (nI_le_r (by omega) q)
        refine WP.run (pc' := 63) (L' := [.ref 271]) (st' := [.int ((nI (N 1)) + (nI 1)), .int (nI 1), .ref 272]) (I1 := (upN J 272 4 (nI ((N 4) + 1)))) 3 rfl ?_
        refine WP.cg (st' := [.int (nI ((N 1) + 1)), .int (nI 1), .ref 272]) rfl (congrArg (fun z : Int32 => (.int z :: [.int (nI 1), .ref 272] : List Value)) (nI_add (N 1) 1)) rfl ?_
        refine WP.iast rfl rfl rfl (by omega) (by decide) ?_
        refine WP.run (pc' := 69) (L' := [.ref 271]) (st' := [.int (nI 4), .ref 272]) (I1 := (upN (upN J 272 4 (nI ((N 4) + 1))) 272 1 (nI ((N 1) + 1)))) 3 rfl ?_
        refine WP.iald rfl rfl rfl (by omega) (by decide) ?_
        refine WP.cg (st' := [.int (nI ((N 4) + 1))]) rfl (congrArg (fun z : Int32 => (.int z :: [] : List Value)) (((T0.up (T0.up hJ)) 4 (by omega)).trans (congrArg nI (by rw [setN_o (by omega), setN_s])))) rfl ?_
        exact WP.ret rfl rfl (by
                  have e : nDay (N, m, F) = ((nI ((N 4) + 1)), (dayN N, (actS (N, m, F)).2)) := by (unfold nDay; dsimp only; (repeat rw [nOf_nI (by omega)]); (repeat first | rw [if_pos (by first | assumption | omega | (refine inA_iff.mpr ?_; omega) | (intro q; have q2 := inA_iff.mp q; omega) | (intro q; omega) | (refine ⟨?_, ?_⟩ <;> rw [nI_int (by omega)] <;> omega) | (rw [nI_int (by omega)]; omega) | (intro q; rw [nI_int (by omega)] at q; omega) | (refine ⟨?_, ?_, ?_⟩ <;> omega) | (intro q; obtain ⟨q1, q2, q3⟩ := q; omega) | fail)] | rw [if_neg (by first | assumption | omega | (refine inA_iff.mpr ?_; omega) | (intro q; have q2 := inA_iff.mp q; omega) | (intro q; omega) | (refine ⟨?_, ?_⟩ <;> rw [nI_int (by omega)] <;> omega) | (rw [nI_int (by omega)]; omega) | (intro q; rw [nI_int (by omega)] at q; omega) | (refine ⟨?_, ?_, ?_⟩ <;> omega) | (intro q; obtain ⟨q1, q2, q3⟩ := q; omega) | fail)])) <;> rfl
                  rw [e]
                  exact ⟨rfl, hB.now (T0.cgN (T0.up (T0.up hJ)) (by unfold dayN; rw [setN_comm (by decide)]; exact congrArg (fun z => setN (setN N 1 z) 4 (N 4 + 1)) (by omega))) (fun o k q => (upN_272 (by omega) q).trans (upN_272 (by omega) q)), (Only.up (Only.up hO (Or.inr ⟨rfl, Or.inl (by omega)⟩)) (Or.inr ⟨rfl, Or.inl (by omega)⟩))⟩)
    · have h2 : N 4 = 999 := nI_eq_ (by omega) (by omega) (Decidable.byContradiction h2)
      refine WP.run (pc' := 24) (L' := [.ref 271]) (st' := [.int (-1000003)]) (I1 := I) 1 rfl ?_
      exact WP.ret rfl rfl (by
              have e : nDay (N, m, F) = ((-1000003), (N, m, F)) := by (unfold nDay; dsimp only; (repeat rw [nOf_nI (by omega)]); (repeat first | rw [if_pos (by first | assumption | omega | (refine inA_iff.mpr ?_; omega) | (intro q; have q2 := inA_iff.mp q; omega) | (intro q; omega) | (refine ⟨?_, ?_⟩ <;> rw [nI_int (by omega)] <;> omega) | (rw [nI_int (by omega)]; omega) | (intro q; rw [nI_int (by omega)] at q; omega) | (refine ⟨?_, ?_, ?_⟩ <;> omega) | (intro q; obtain ⟨q1, q2, q3⟩ := q; omega) | fail)] | rw [if_neg (by first | assumption | omega | (refine inA_iff.mpr ?_; omega) | (intro q; have q2 := inA_iff.mp q; omega) | (intro q; omega) | (refine ⟨?_, ?_⟩ <;> rw [nI_int (by omega)] <;> omega) | (rw [nI_int (by omega)]; omega) | (intro q; rw [nI_int (by omega)] at q; omega) | (refine ⟨?_, ?_, ?_⟩ <;> omega) | (intro q; obtain ⟨q1, q2, q3⟩ := q; omega) | fail)])) <;> rfl
              rw [e]
              exact ⟨rfl, hS, Only.rfl_⟩)
set_option maxRecDepth 100000 in
theorem lm_climb {d : Nat} {I J : Pl} {N : Nat → Nat} {m : Nat} {F : Nat → Nat → Nat} {c : Nat} (hN : TI N) (hB : TSM J (actS (N, m, F))) (hO : Only I J tsmP) (hc : c < N 3) : ∀ k, k ≤ 6 → ∀ y : Value, WP (d + 2) (161, 7, (some .int), sc0) 77 ([.ref 271, .int (nI c), .int (nI (pullN N (N (27 + c)))), .int (nI (brN N c k 6)), .int (nI (bkC (brN N c k) c)), y]) [] J (fun v K => v = some (.int (nI (popc (N 6) - popc (brN N c 6 6)))) ∧ TSM K (climbN N c, (actS (N, m, F)).2) ∧ Only I K tsmP) := by
  refine loopUp (fun k hk ih => ?_)
  intro y
  have hJ : T0 J N := hB.1
  obtain ⟨b0, b1, b2, b3, b4, b5, b6, b7, b8, bS, bC, bS1, bC1, bZ, bG⟩ := id hN
  obtain ⟨s6, s7, s64⟩ := hN.set64
  obtain ⟨bw, be, bo⟩ := bC c (by omega)
  have hM := brN_TI (c := c) hN k
  have h64 := hM.set64
  have hbl := bkC_lt (N := brN N c k) c
  have hpl := pullN_le (N := N) bw
  have e2 := brN_o (N := N) (c := c) k 2 (by omega)
  rw [e2] at hbl
  refine WP.run (pc' := if (nI (bkC (brN N c k) c)) = 0 then 104 else 82) (L' := [.ref 271, .int (nI c), .int (nI (pullN N (N (27 + c)))), .int (nI (brN N c k 6)), .int (nI (bkC (brN N c k) c)), y]) (st' := []) (I1 := J) 2 rfl ?_
  refine WP.br (fun h1 => ?_) (fun h1 => ?_)
  · have h1 : bkC (brN N c k) c = 0 := nI_eq_ (by omega) (by omega) h1
    have hQ : brN N c 6 = brN N c k := brN_six (by omega) (by assumption)
    refine WP.cg (L' := [.ref 271, .int (nI c), .int (nI (pullN N (N (27 + c)))), .int (nI (brN N c 6 6)), .int (nI (bkC (brN N c k) c)), y]) (by rw [hQ]) rfl rfl ?_
    have hM6 := brN_TI (c := c) hN 6
    have h646 := hM6.set64
    have hin := (brN_gone (c := c) hN 6).2
    have hsd := sdf_le (N 6) (brN N c 6 6)
    have hpp := popc_sdf2 (N 6) (by omega) (brN N c 6 6) (by omega) hin
    refine WP.run (pc' := 110) (L' := [.ref 271, .int (nI c), .int (nI (pullN N (N (27 + c)))), .int (nI (brN N c 6 6)), .int (nI (bkC (brN N c k) c)), y]) (st' := [.int (nI 6), .ref 272]) (I1 := J) 3 rfl ?_
    refine WP.iald rfl rfl rfl (by omega) (by decide) ?_
    refine WP.cg (st' := [.int (nI (N 6))]) rfl (congrArg (fun z : Int32 => (.int z :: [] : List Value)) ((hJ 6 (by omega)))) rfl ?_
    refine WP.run (pc' := 115) (L' := [.ref 271, .int (nI c), .int (nI (pullN N (N (27 + c)))), .int (nI (brN N c 6 6)), .int (nI (bkC (brN N c k) c)), y]) (st' := [.int ((nI (N 6)) &&& ((nI (brN N c 6 6)) ^^^ (-1)))]) (I1 := J) 4 rfl ?_
    refine WP.cg (st' := [.int (nI (sdf (N 6) (brN N c 6 6)))]) rfl (congrArg (fun z : Int32 => (.int z :: [] : List Value)) (nI_not _ _ (by omega) (by omega))) rfl ?_
    refine WP.run (pc' := 124) (L' := [.ref 271, .int (nI c), .int (nI (pullN N (N (27 + c)))), .int (nI (brN N c 6 6)), .int (nI (bkC (brN N c k) c)), .int (nI (sdf (N 6) (brN N c 6 6)))]) (st' := [.int (nI 7), .ref 272, .int (nI 7), .ref 272]) (I1 := J) 5 rfl ?_
    refine WP.iald rfl rfl rfl (by omega) (by decide) ?_
    refine WP.cg (st' := [.int (nI (N 7)), .int (nI 7), .ref 272]) rfl (congrArg (fun z : Int32 => (.int z :: [.int (nI 7), .ref 272] : List Value)) ((hJ 7 (by omega)))) rfl ?_
    refine WP.run (pc' := 128) (L' := [.ref 271, .int (nI c), .int (nI (pullN N (N (27 + c)))), .int (nI (brN N c 6 6)), .int (nI (bkC (brN N c k) c)), .int (nI (sdf (N 6) (brN N c 6 6)))]) (st' := [.int ((nI (N 7)) ||| (nI (sdf (N 6) (brN N c 6 6)))), .int (nI 7), .ref 272]) (I1 := J) 2 rfl ?_
    refine WP.cg (st' := [.int (nI ((N 7) ||| (sdf (N 6) (brN N c 6 6)))), .int (nI 7), .ref 272]) rfl (congrArg (fun z : Int32 => (.int z :: [.int (nI 7), .ref 272] : List Value)) (nI_or (N 7) (sdf (N 6) (brN N c 6 6)))) rfl ?_
    refine WP.iast rfl rfl rfl (by omega) (by decide) ?_
    refine WP.run (pc' := 136) (L' := [.ref 271, .int (nI c), .int (nI (pullN N (N (27 + c)))), .int (nI (brN N c 6 6)), .int (nI (bkC (brN N c k) c)), .int (nI (sdf (N 6) (brN N c 6 6)))]) (st' := [.int (nI (brN N c 6 6)), .int (nI 6), .ref 272]) (I1 := (upN J 272 7 (nI ((N 7) ||| (sdf (N 6) (brN N c 6 6)))))) 4 rfl ?_
    refine WP.iast rfl rfl rfl (by omega) (by decide) ?_
    refine WP.run (pc' := 145) (L' := [.ref 271, .int (nI c), .int (nI (pullN N (N (27 + c)))), .int (nI (brN N c 6 6)), .int (nI (bkC (brN N c k) c)), .int (nI (sdf (N 6) (brN N c 6 6)))]) (st' := [.int ((nI 42) + (nI c)), .ref 272]) (I1 := (upN (upN J 272 7 (nI ((N 7) ||| (sdf (N 6) (brN N c 6 6))))) 272 6 (nI (brN N c 6 6)))) 5 rfl ?_
    refine WP.cg (st' := [.int (nI (42 + c)), .ref 272]) rfl (congrArg (fun z : Int32 => (.int z :: [.ref 272] : List Value)) (nI_add 42 c)) rfl ?_
    refine WP.run (pc' := 146) (L' := [.ref 271, .int (nI c), .int (nI (pullN N (N (27 + c)))), .int (nI (brN N c 6 6)), .int (nI (bkC (brN N c k) c)), .int (nI (sdf (N 6) (brN N c 6 6)))]) (st' := [.int (nI (42 + c)), .ref 272, .int (nI (42 + c)), .ref 272]) (I1 := (upN (upN J 272 7 (nI ((N 7) ||| (sdf (N 6) (brN N c 6 6))))) 272 6 (nI (brN N c 6 6)))) 1 rfl ?_
    refine WP.iald rfl rfl rfl (by omega) (by decide) ?_
    refine WP.cg (st' := [.int (nI (N (42 + c))), .int (nI (42 + c)), .ref 272]) rfl (congrArg (fun z : Int32 => (.int z :: [.int (nI (42 + c)), .ref 272] : List Value)) (((T0.up (T0.up hJ)) (42 + c) (by omega)).trans (congrArg nI (by rw [setN_o (by omega), setN_o (by omega)])))) rfl ?_
    refine WP.run (pc' := if ¬ (nI (brN N c 6 6)) = 0 then 155 else 151) (L' := [.ref 271, .int (nI c), .int (nI (pullN N (N (27 + c)))), .int (nI (brN N c 6 6)), .int (nI (bkC (brN N c k) c)), .int (nI (sdf (N 6) (brN N c 6 6)))]) (st' := [.int (nI (N (42 + c))), .int (nI (42 + c)), .ref 272]) (I1 := (upN (upN J 272 7 (nI ((N 7) ||| (sdf (N 6) (brN N c 6 6))))) 272 6 (nI (brN N c 6 6)))) 2 rfl ?_
    refine WP.br (fun h2 => ?_) (fun h2 => ?_)
    · have h2 : ¬ brN N c 6 6 = 0 := fun q => h2 (nI_eq_r q)
      have hz0 : ¬ brN N c 6 6 = 0 := by omega
      refine WP.run (pc' := 157) (L' := [.ref 271, .int (nI c), .int (nI (pullN N (N (27 + c)))), .int (nI (brN N c 6 6)), .int (nI (bkC (brN N c k) c)), .int (nI (sdf (N 6) (brN N c 6 6)))]) (st' := [.int ((nI (N (42 + c))) + (nI 0)), .int (nI (42 + c)), .ref 272]) (I1 := (upN (upN J 272 7 (nI ((N 7) ||| (sdf (N 6) (brN N c 6 6))))) 272 6 (nI (brN N c 6 6)))) 2 rfl ?_
      refine WP.cg (st' := [.int (nI ((N (42 + c)) + 0)), .int (nI (42 + c)), .ref 272]) rfl (congrArg (fun z : Int32 => (.int z :: [.int (nI (42 + c)), .ref 272] : List Value)) (nI_add (N (42 + c)) 0)) rfl ?_
      refine WP.iast rfl rfl rfl (by omega) (by decide) ?_
      refine WP.run (pc' := 162) (L' := [.ref 271, .int (nI c), .int (nI (pullN N (N (27 + c)))), .int (nI (brN N c 6 6)), .int (nI (bkC (brN N c k) c)), .int (nI (sdf (N 6) (brN N c 6 6)))]) (st' := [.int (nI (brN N c 6 6)), .int (nI (pullN N (N (27 + c)))), .int (nI (brN N c 6 6)), .ref 271]) (I1 := (upN (upN (upN J 272 7 (nI ((N 7) ||| (sdf (N 6) (brN N c 6 6))))) 272 6 (nI (brN N c 6 6))) 272 (42 + c) (nI ((N (42 + c)) + 0)))) 4 rfl ?_
      refine WP.callV (rest := [.int (nI (brN N c 6 6)), .ref 271]) rfl rfl (ms_shareOf (d := d) (p := pullN N (N (27 + c))) (m := brN N c 6 6) (by omega) (by omega)) ?_
      refine WP.callX (rest := []) rfl rfl (ms_wears (d := d) (I := (upN (upN (upN J 272 7 (nI ((N 7) ||| (sdf (N 6) (brN N c 6 6))))) 272 6 (nI (brN N c 6 6))) 272 (42 + c) (nI ((N (42 + c)) + 0)))) (m := brN N c 6 6) (sh := shareN (pullN N (N (27 + c))) (brN N c 6 6)) (T0.up (T0.up (T0.up hJ))) Only.rfl_ (TI.fell (by rw [← brN_fun hN]; exact hM6)) (by omega) (by have := shareN_le (p := pullN N (N (27 + c))) (m := brN N c 6 6); omega) (fun s hs hb => by have hs2 : s < N 2 := (by rw [setN_o (show ¬ 2 = 42 + c by omega), setN_o (show ¬ 2 = 6 by omega), setN_o (show ¬ 2 = 7 by omega)] at hs; exact hs); have hH := climb_H hN hc s hs2 hb; rw [setN_o (by omega), setN_o (by omega), setN_o (by omega), setN_o (by omega), setN_o (by omega), setN_o (by omega)]; exact hH)) (fun v J2 hv => ?_)
      obtain ⟨rfl, hT2, hO2⟩ := hv
      refine WP.run (pc' := 170) (L' := [.ref 271, .int (nI c), .int (nI (pullN N (N (27 + c)))), .int (nI (brN N c 6 6)), .int (nI (bkC (brN N c k) c)), .int (nI (sdf (N 6) (brN N c 6 6)))]) (st' := [.int (nI (sdf (N 6) (brN N c 6 6)))]) (I1 := J2) 1 rfl ?_
      refine WP.callV (rest := []) rfl rfl (ms_ones (d := d + 1) (m := sdf (N 6) (brN N c 6 6)) (by omega)) ?_
      exact WP.ret rfl rfl (by
              refine ⟨by rw [hpp], hB.now (T0.cgN hT2 ?_) (fun o k q => (hO2 o k (fun z => q ⟨z.1, by have := z.2; omega⟩)).trans ((fun o k q => (upN_272 (by omega) q).trans ((upN_272 (by omega) q).trans (upN_272 (by omega) q))) o k q)), (Only.up (Only.up (Only.up hO (Or.inr ⟨rfl, Or.inl (by omega)⟩)) (Or.inr ⟨rfl, Or.inl (by omega)⟩)) (Or.inr ⟨rfl, Or.inl (by omega)⟩)).tr (hO2.wk (fun o k z => Or.inr ⟨z.1, Or.inl (by have := z.2; omega)⟩))⟩
              have hcm := climb_M (c := c) hN
              rw [setN_o (show ¬ 42 + c = 6 by omega), setN_o (show ¬ 42 + c = 7 by omega)] at hcm
              rw [setN_o (show ¬ 2 = 42 + c by omega), setN_o (show ¬ 2 = 6 by omega), setN_o (show ¬ 2 = 7 by omega), ← hcm]
              first | rw [if_pos hz0] | rw [if_neg hz0])
    · have h2 : brN N c 6 6 = 0 := nI_eq_ (by omega) (by omega) (Decidable.byContradiction h2)
      have hz0 : brN N c 6 6 = 0 := by omega
      refine WP.run (pc' := 157) (L' := [.ref 271, .int (nI c), .int (nI (pullN N (N (27 + c)))), .int (nI (brN N c 6 6)), .int (nI (bkC (brN N c k) c)), .int (nI (sdf (N 6) (brN N c 6 6)))]) (st' := [.int ((nI (N (42 + c))) + (nI 1)), .int (nI (42 + c)), .ref 272]) (I1 := (upN (upN J 272 7 (nI ((N 7) ||| (sdf (N 6) (brN N c 6 6))))) 272 6 (nI (brN N c 6 6)))) 3 rfl ?_
      refine WP.cg (st' := [.int (nI ((N (42 + c)) + 1)), .int (nI (42 + c)), .ref 272]) rfl (congrArg (fun z : Int32 => (.int z :: [.int (nI (42 + c)), .ref 272] : List Value)) (nI_add (N (42 + c)) 1)) rfl ?_
      refine WP.iast rfl rfl rfl (by omega) (by decide) ?_
      refine WP.run (pc' := 162) (L' := [.ref 271, .int (nI c), .int (nI (pullN N (N (27 + c)))), .int (nI (brN N c 6 6)), .int (nI (bkC (brN N c k) c)), .int (nI (sdf (N 6) (brN N c 6 6)))]) (st' := [.int (nI (brN N c 6 6)), .int (nI (pullN N (N (27 + c)))), .int (nI (brN N c 6 6)), .ref 271]) (I1 := (upN (upN (upN J 272 7 (nI ((N 7) ||| (sdf (N 6) (brN N c 6 6))))) 272 6 (nI (brN N c 6 6))) 272 (42 + c) (nI ((N (42 + c)) + 1)))) 4 rfl ?_
      refine WP.callV (rest := [.int (nI (brN N c 6 6)), .ref 271]) rfl rfl (ms_shareOf (d := d) (p := pullN N (N (27 + c))) (m := brN N c 6 6) (by omega) (by omega)) ?_
      refine WP.callX (rest := []) rfl rfl (ms_wears (d := d) (I := (upN (upN (upN J 272 7 (nI ((N 7) ||| (sdf (N 6) (brN N c 6 6))))) 272 6 (nI (brN N c 6 6))) 272 (42 + c) (nI ((N (42 + c)) + 1)))) (m := brN N c 6 6) (sh := shareN (pullN N (N (27 + c))) (brN N c 6 6)) (T0.up (T0.up (T0.up hJ))) Only.rfl_ (TI.fell (by rw [← brN_fun hN]; exact hM6)) (by omega) (by have := shareN_le (p := pullN N (N (27 + c))) (m := brN N c 6 6); omega) (fun s hs hb => by have hs2 : s < N 2 := (by rw [setN_o (show ¬ 2 = 42 + c by omega), setN_o (show ¬ 2 = 6 by omega), setN_o (show ¬ 2 = 7 by omega)] at hs; exact hs); have hH := climb_H hN hc s hs2 hb; rw [setN_o (by omega), setN_o (by omega), setN_o (by omega), setN_o (by omega), setN_o (by omega), setN_o (by omega)]; exact hH)) (fun v J2 hv => ?_)
      obtain ⟨rfl, hT2, hO2⟩ := hv
      refine WP.run (pc' := 170) (L' := [.ref 271, .int (nI c), .int (nI (pullN N (N (27 + c)))), .int (nI (brN N c 6 6)), .int (nI (bkC (brN N c k) c)), .int (nI (sdf (N 6) (brN N c 6 6)))]) (st' := [.int (nI (sdf (N 6) (brN N c 6 6)))]) (I1 := J2) 1 rfl ?_
      refine WP.callV (rest := []) rfl rfl (ms_ones (d := d + 1) (m := sdf (N 6) (brN N c 6 6)) (by omega)) ?_
      exact WP.ret rfl rfl (by
              refine ⟨by rw [hpp], hB.now (T0.cgN hT2 ?_) (fun o k q => (hO2 o k (fun z => q ⟨z.1, by have := z.2; omega⟩)).trans ((fun o k q => (upN_272 (by omega) q).trans ((upN_272 (by omega) q).trans (upN_272 (by omega) q))) o k q)), (Only.up (Only.up (Only.up hO (Or.inr ⟨rfl, Or.inl (by omega)⟩)) (Or.inr ⟨rfl, Or.inl (by omega)⟩)) (Or.inr ⟨rfl, Or.inl (by omega)⟩)).tr (hO2.wk (fun o k z => Or.inr ⟨z.1, Or.inl (by have := z.2; omega)⟩))⟩
              have hcm := climb_M (c := c) hN
              rw [setN_o (show ¬ 42 + c = 6 by omega), setN_o (show ¬ 42 + c = 7 by omega)] at hcm
              rw [setN_o (show ¬ 2 = 42 + c by omega), setN_o (show ¬ 2 = 6 by omega), setN_o (show ¬ 2 = 7 by omega), ← hcm]
              first | rw [if_pos hz0] | rw [if_neg hz0])
  · have h1 : ¬ bkC (brN N c k) c = 0 := fun q => h1 (nI_eq_r q)
    refine WP.run (pc' := 88) (L' := [.ref 271, .int (nI c), .int (nI (pullN N (N (27 + c)))), .int (nI (brN N c k 6)), .int (nI (bkC (brN N c k) c)), y]) (st' := [.int ((nI (brN N c k 6)) &&& ((nI (bkC (brN N c k) c)) ^^^ (-1)))]) (I1 := J) 5 rfl ?_
    refine WP.cg (st' := [.int (nI (sdf (brN N c k 6) (bkC (brN N c k) c)))]) rfl (congrArg (fun z : Int32 => (.int z :: [] : List Value)) (nI_not _ _ (by omega) (by omega))) rfl ?_
    refine WP.run (pc' := 89) (L' := [.ref 271, .int (nI c), .int (nI (pullN N (N (27 + c)))), .int (nI (sdf (brN N c k 6) (bkC (brN N c k) c))), .int (nI (bkC (brN N c k) c)), y]) (st' := []) (I1 := J) 1 rfl ?_
    have e6 : brN N c (k + 1) 6 = sdf (brN N c k 6) (bkC (brN N c k) c) := by
      rw [brN_e, if_neg (by assumption)]
      unfold brS
      rw [setN_o (by decide), setN_s]
    have hM2 := brN_TI (c := c) hN (k + 1)
    have h642 := hM2.set64
    refine WP.cg (L' := [.ref 271, .int (nI c), .int (nI (pullN N (N (27 + c)))), .int (nI (brN N c (k + 1) 6)), .int (nI (bkC (brN N c k) c)), y]) (by rw [e6]) rfl rfl ?_
    refine WP.run (pc' := 93) (L' := [.ref 271, .int (nI c), .int (nI (pullN N (N (27 + c)))), .int (nI (brN N c (k + 1) 6)), .int (nI (bkC (brN N c k) c)), y]) (st' := [.int (nI (brN N c (k + 1) 6)), .int (nI (pullN N (N (27 + c)))), .int (nI (brN N c (k + 1) 6)), .ref 271]) (I1 := J) 4 rfl ?_
    refine WP.callV (rest := [.int (nI (brN N c (k + 1) 6)), .ref 271]) rfl rfl (ms_shareOf (d := d) (p := pullN N (N (27 + c))) (m := brN N c (k + 1) 6) (by omega) (by omega)) ?_
    refine WP.callV (rest := []) rfl rfl (ms_breaking (d := d) (m := brN N c (k + 1) 6) (sh := shareN (pullN N (N (27 + c))) (brN N c (k + 1) 6)) hJ hN (by omega) (by have := shareN_le (p := pullN N (N (27 + c))) (m := brN N c (k + 1) 6); omega)) ?_
    refine WP.run (pc' := 77) (L' := [.ref 271, .int (nI c), .int (nI (pullN N (N (27 + c)))), .int (nI (brN N c (k + 1) 6)), .int (nI (brkN N (brN N c (k + 1) 6) (shareN (pullN N (N (27 + c))) (brN N c (k + 1) 6)))), y]) (st' := []) (I1 := J) 2 rfl ?_
    have hk6 : k < 6 := by
      rcases Nat.lt_or_ge k 6 with q | q
      · exact q
      · exfalso
        obtain rfl : k = 6 := by omega
        exact absurd (brN_end (c := c) hN) (by assumption)
    refine WP.cg (L' := [.ref 271, .int (nI c), .int (nI (pullN N (N (27 + c)))), .int (nI (brN N c (k + 1) 6)), .int (nI (bkC (brN N c (k + 1)) c)), y]) (by rw [bkC_brN]) rfl rfl (ih hk6 _)
set_option maxRecDepth 100000 in
theorem ms_climb {d : Nat} {I : Pl} {N : Nat → Nat} {m : Nat} {F : Nat → Nat → Nat} {x : Int32} (hS : TSM I (N, m, F)) (hI : TSI (N, m, F)) : EvX (d + 3) 161 [.ref 271, .int x] I (fun v K => v = some (.int (nClimb (N, m, F) x).1) ∧ TSM K (nClimb (N, m, F) x).2 ∧ Only I K tsmP) := by
  have hM : T0 I N := hS.1
  have hN : TI N := hI.1
  obtain ⟨b0, b1, b2, b3, b4, b5, b6, b7, b8, bS, bC, bS1, bC1, bZ, bG⟩ := id hN
  obtain ⟨s6, s7, s64⟩ := hN.set64
  refine EvX.enter rfl rfl rfl ?_
  refine WP.run (pc' := 2) (L' := [.ref 271, .int x, UU, UU, UU, UU]) (st' := [.int x, .ref 271]) (I1 := I) 2 rfl ?_
  refine WP.callB (rest := []) rfl rfl (ms_isClimber (d := d) (x := x) hM hN) (fun h1 => ?_) (fun h1 => ?_)
  · refine WP.run (pc' := 11) (L' := [.ref 271, .int x, UU, UU, UU, UU]) (st' := []) (I1 := I) 1 rfl ?_
    have hx_j : inA x (N 3) := (by assumption)
    obtain ⟨j, hj, rfl⟩ := inA_of hx_j (by omega)
    obtain ⟨bw, be, bo⟩ := bC j (by omega)
    have hpl := pullN_le (N := N) bw
    refine WP.run (pc' := 16) (L' := [.ref 271, .int (nI j), UU, UU, UU, UU]) (st' := [.int (nI 1), .ref 272]) (I1 := I) 3 rfl ?_
    refine WP.iald rfl rfl rfl (by omega) (by decide) ?_
    refine WP.cg (st' := [.int (nI (N 1))]) rfl (congrArg (fun z : Int32 => (.int z :: [] : List Value)) (hM 1 (by omega))) rfl ?_
    refine WP.run (pc' := 22) (L' := [.ref 271, .int (nI j), UU, UU, UU, UU]) (st' := [.int (nI 0), .ref 272, .int (nI (N 1))]) (I1 := I) 3 rfl ?_
    refine WP.iald rfl rfl rfl (by omega) (by decide) ?_
    refine WP.cg (st' := [.int (nI (N 0)), .int (nI (N 1))]) rfl (congrArg (fun z : Int32 => (.int z :: [.int (nI (N 1))] : List Value)) (hM 0 (by omega))) rfl ?_
    refine WP.run (pc' := if (nI (N 1)) < (nI (N 0)) then 36 else 26) (L' := [.ref 271, .int (nI j), UU, UU, UU, UU]) (st' := []) (I1 := I) 1 rfl ?_
    refine WP.br (fun h2 => ?_) (fun h2 => ?_)
    · have h2 : N 1 < N 0 := nI_lt_ (by omega) (by omega) h2
      refine WP.run (pc' := 38) (L' := [.ref 271, .int (nI j), UU, UU, UU, UU]) (st' := [.int (-1000002)]) (I1 := I) 1 rfl ?_
      exact WP.ret rfl rfl (by
              have e : nClimb (N, m, F) (nI j) = ((-1000002), (N, m, F)) := by (unfold nClimb; dsimp only; (repeat rw [nOf_nI (by omega)]); (repeat first | rw [if_pos (by first | assumption | omega | (refine inA_iff.mpr ?_; omega) | (intro q; have q2 := inA_iff.mp q; omega) | (intro q; omega) | (refine ⟨?_, ?_⟩ <;> rw [nI_int (by omega)] <;> omega) | (rw [nI_int (by omega)]; omega) | (intro q; rw [nI_int (by omega)] at q; omega) | (refine ⟨?_, ?_, ?_⟩ <;> omega) | (intro q; obtain ⟨q1, q2, q3⟩ := q; omega) | fail)] | rw [if_neg (by first | assumption | omega | (refine inA_iff.mpr ?_; omega) | (intro q; have q2 := inA_iff.mp q; omega) | (intro q; omega) | (refine ⟨?_, ?_⟩ <;> rw [nI_int (by omega)] <;> omega) | (rw [nI_int (by omega)]; omega) | (intro q; rw [nI_int (by omega)] at q; omega) | (refine ⟨?_, ?_, ?_⟩ <;> omega) | (intro q; obtain ⟨q1, q2, q3⟩ := q; omega) | fail)])) <;> rfl
              rw [e]
              exact ⟨rfl, hS, Only.rfl_⟩)
    · have h2 : ¬ N 1 < N 0 := fun q => h2 (nI_lt_r (by omega) q)
      refine WP.run (pc' := 32) (L' := [.ref 271, .int (nI j), UU, UU, UU, UU]) (st' := [.int (nI 6), .ref 272]) (I1 := I) 3 rfl ?_
      refine WP.iald rfl rfl rfl (by omega) (by decide) ?_
      refine WP.cg (st' := [.int (nI (N 6))]) rfl (congrArg (fun z : Int32 => (.int z :: [] : List Value)) (hM 6 (by omega))) rfl ?_
      refine WP.run (pc' := if ¬ (nI (N 6)) = 0 then 39 else 36) (L' := [.ref 271, .int (nI j), UU, UU, UU, UU]) (st' := []) (I1 := I) 1 rfl ?_
      refine WP.br (fun h3 => ?_) (fun h3 => ?_)
      · have h3 : ¬ N 6 = 0 := fun q => h3 (nI_eq_r q)
        refine WP.run (pc' := 40) (L' := [.ref 271, .int (nI j), UU, UU, UU, UU]) (st' := [.ref 271]) (I1 := I) 1 rfl ?_
        refine WP.callX (rest := []) rfl rfl (ms_minds (d := d + 1) hS hI) (fun v J hv => ?_)
        obtain ⟨rfl, hB, hO⟩ := hv
        have hJ : T0 J N := hB.1
        refine WP.run (pc' := 52) (L' := [.ref 271, .int (nI j), UU, UU, UU, UU]) (st' := [.int ((nI 27) + (nI j)), .ref 272, .ref 271]) (I1 := J) 6 rfl ?_
        refine WP.cg (st' := [.int (nI (27 + j)), .ref 272, .ref 271]) rfl (congrArg (fun z : Int32 => (.int z :: [.ref 272, .ref 271] : List Value)) (nI_add 27 j)) rfl ?_
        refine WP.iald rfl rfl rfl (by omega) (by decide) ?_
        refine WP.cg (st' := [.int (nI (N (27 + j))), .ref 271]) rfl (congrArg (fun z : Int32 => (.int z :: [.ref 271] : List Value)) ((hJ (27 + j) (by omega)))) rfl ?_
        refine WP.callV (rest := []) rfl rfl (ms_pullOf (d := d + 1) (w := N (27 + j)) hJ hN (by omega)) ?_
        refine WP.run (pc' := 63) (L' := [.ref 271, .int (nI j), .int (nI (pullN N (N (27 + j)))), UU, UU, UU]) (st' := [.int (nI 6), .ref 272]) (I1 := J) 4 rfl ?_
        refine WP.iald rfl rfl rfl (by omega) (by decide) ?_
        refine WP.cg (st' := [.int (nI (N 6))]) rfl (congrArg (fun z : Int32 => (.int z :: [] : List Value)) ((hJ 6 (by omega)))) rfl ?_
        refine WP.run (pc' := 69) (L' := [.ref 271, .int (nI j), .int (nI (pullN N (N (27 + j)))), .int (nI (N 6)), UU, UU]) (st' := [.int (nI (N 6)), .int (nI (pullN N (N (27 + j)))), .int (nI (N 6)), .ref 271]) (I1 := J) 5 rfl ?_
        refine WP.callV (rest := [.int (nI (N 6)), .ref 271]) rfl rfl (ms_shareOf (d := d) (p := pullN N (N (27 + j))) (m := N 6) (by omega) (by omega)) ?_
        refine WP.callV (rest := []) rfl rfl (ms_breaking (d := d) (m := N 6) (sh := shareN (pullN N (N (27 + j))) (N 6)) hJ hN (by omega) (by have := shareN_le (p := pullN N (N (27 + j))) (m := N 6); omega)) ?_
        refine WP.run (pc' := 77) (L' := [.ref 271, .int (nI j), .int (nI (pullN N (N (27 + j)))), .int (nI (N 6)), .int (nI (brkN N (N 6) (shareN (pullN N (N (27 + j))) (N 6)))), UU]) (st' := []) (I1 := J) 1 rfl ?_
        have e : nClimb (N, m, F) (nI j) = (nI (popc (N 6) - popc (brN N j 6 6)), (climbN N j, (actS (N, m, F)).2)) := by (unfold nClimb; dsimp only; (repeat rw [nOf_nI (by omega)]); (repeat first | rw [if_pos (by first | assumption | omega | (refine inA_iff.mpr ?_; omega) | (intro q; have q2 := inA_iff.mp q; omega) | (intro q; omega) | (refine ⟨?_, ?_⟩ <;> rw [nI_int (by omega)] <;> omega) | (rw [nI_int (by omega)]; omega) | (intro q; rw [nI_int (by omega)] at q; omega) | (refine ⟨?_, ?_, ?_⟩ <;> omega) | (intro q; obtain ⟨q1, q2, q3⟩ := q; omega) | fail)] | rw [if_neg (by first | assumption | omega | (refine inA_iff.mpr ?_; omega) | (intro q; have q2 := inA_iff.mp q; omega) | (intro q; omega) | (refine ⟨?_, ?_⟩ <;> rw [nI_int (by omega)] <;> omega) | (rw [nI_int (by omega)]; omega) | (intro q; rw [nI_int (by omega)] at q; omega) | (refine ⟨?_, ?_, ?_⟩ <;> omega) | (intro q; obtain ⟨q1, q2, q3⟩ := q; omega) | fail)])) <;> rfl
        rw [e]
        refine WP.cg (L' := [.ref 271, .int (nI j), .int (nI (pullN N (N (27 + j)))), .int (nI (brN N j 0 6)), .int (nI (bkC (brN N j 0) j)), UU]) (by rw [bkC_brN]; rfl) rfl rfl ?_
        exact lm_climb hN hB hO hj 0 (Nat.zero_le _) _
      · have h3 : N 6 = 0 := nI_eq_ (by omega) (by omega) (Decidable.byContradiction h3)
        refine WP.run (pc' := 38) (L' := [.ref 271, .int (nI j), UU, UU, UU, UU]) (st' := [.int (-1000002)]) (I1 := I) 1 rfl ?_
        exact WP.ret rfl rfl (by
                  have e : nClimb (N, m, F) (nI j) = ((-1000002), (N, m, F)) := by (unfold nClimb; dsimp only; (repeat rw [nOf_nI (by omega)]); (repeat first | rw [if_pos (by first | assumption | omega | (refine inA_iff.mpr ?_; omega) | (intro q; have q2 := inA_iff.mp q; omega) | (intro q; omega) | (refine ⟨?_, ?_⟩ <;> rw [nI_int (by omega)] <;> omega) | (rw [nI_int (by omega)]; omega) | (intro q; rw [nI_int (by omega)] at q; omega) | (refine ⟨?_, ?_, ?_⟩ <;> omega) | (intro q; obtain ⟨q1, q2, q3⟩ := q; omega) | fail)] | rw [if_neg (by first | assumption | omega | (refine inA_iff.mpr ?_; omega) | (intro q; have q2 := inA_iff.mp q; omega) | (intro q; omega) | (refine ⟨?_, ?_⟩ <;> rw [nI_int (by omega)] <;> omega) | (rw [nI_int (by omega)]; omega) | (intro q; rw [nI_int (by omega)] at q; omega) | (refine ⟨?_, ?_, ?_⟩ <;> omega) | (intro q; obtain ⟨q1, q2, q3⟩ := q; omega) | fail)])) <;> rfl
                  rw [e]
                  exact ⟨rfl, hS, Only.rfl_⟩)
  · refine WP.run (pc' := 10) (L' := [.ref 271, .int x, UU, UU, UU, UU]) (st' := [.int (-1000001)]) (I1 := I) 2 rfl ?_
    exact WP.ret rfl rfl (by
          have e : nClimb (N, m, F) x = ((-1000001), (N, m, F)) := by (unfold nClimb; dsimp only; (repeat rw [nOf_nI (by omega)]); (repeat first | rw [if_pos (by first | assumption | omega | (refine inA_iff.mpr ?_; omega) | (intro q; have q2 := inA_iff.mp q; omega) | (intro q; omega) | (refine ⟨?_, ?_⟩ <;> rw [nI_int (by omega)] <;> omega) | (rw [nI_int (by omega)]; omega) | (intro q; rw [nI_int (by omega)] at q; omega) | (refine ⟨?_, ?_, ?_⟩ <;> omega) | (intro q; obtain ⟨q1, q2, q3⟩ := q; omega) | fail)] | rw [if_neg (by first | assumption | omega | (refine inA_iff.mpr ?_; omega) | (intro q; have q2 := inA_iff.mp q; omega) | (intro q; omega) | (refine ⟨?_, ?_⟩ <;> rw [nI_int (by omega)] <;> omega) | (rw [nI_int (by omega)]; omega) | (intro q; rw [nI_int (by omega)] at q; omega) | (refine ⟨?_, ?_, ?_⟩ <;> omega) | (intro q; obtain ⟨q1, q2, q3⟩ := q; omega) | fail)])) <;> rfl
          rw [e]
          exact ⟨rfl, hS, Only.rfl_⟩)
set_option maxRecDepth 100000 in
theorem lm_undo {d : Nat} {J : Pl} {a : Nat} (ha : J 271 1 = nI a) (ha24 : a < 24) : ∀ k, k ≤ 47 → WP d (150, 7, (some .int), sc0) 22 [.ref 271, .int (nI k)] [] (inM J (188 + 47 * a) k) (fun v K => v = some (.int (nI a)) ∧ K = inM J (188 + 47 * a) 47) := by
  refine loopUp (fun k hk ih => ?_)
  refine WP.run (pc' := if (nI 47) ≤ (nI k) then 58 else 28) (L' := [.ref 271, .int (nI k)]) (st' := []) (I1 := (inM J (188 + 47 * a) k)) 3 rfl ?_
  refine WP.br (fun h1 => ?_) (fun h1 => ?_)
  · have h1 : 47 ≤ k := nI_le_ (by omega) (by omega) h1
    refine WP.run (pc' := 62) (L' := [.ref 271, .int (nI k)]) (st' := [.int ((inM J (188 + 47 * a) k) 271 1)]) (I1 := (inM J (188 + 47 * a) k)) 2 rfl ?_
    refine WP.cg (st' := [.int (nI a)]) rfl (congrArg (fun z : Int32 => (.int z :: [] : List Value)) ((inM_o _ _ _ (by decide)).trans ha)) rfl ?_
    exact WP.ret rfl rfl (⟨rfl, by rw [show 47 = k by omega]⟩)
  · have h1 : ¬ 47 ≤ k := fun q => h1 (nI_le_r (by omega) q)
    refine WP.run (pc' := 46) (L' := [.ref 271, .int (nI k)]) (st' := [.int ((inM J (188 + 47 * a) k) 271 1), .int (nI 47), .int (nI 188), .ref 272, .int (nI k), .ref 272]) (I1 := (inM J (188 + 47 * a) k)) 9 rfl ?_
    refine WP.cg (st' := [.int (nI a), .int (nI 47), .int (nI 188), .ref 272, .int (nI k), .ref 272]) rfl (congrArg (fun z : Int32 => (.int z :: [.int (nI 47), .int (nI 188), .ref 272, .int (nI k), .ref 272] : List Value)) ((inM_o _ _ _ (by decide)).trans ha)) rfl ?_
    refine WP.run (pc' := 47) (L' := [.ref 271, .int (nI k)]) (st' := [.int ((nI 47) * (nI a)), .int (nI 188), .ref 272, .int (nI k), .ref 272]) (I1 := (inM J (188 + 47 * a) k)) 1 rfl ?_
    refine WP.cg (st' := [.int (nI (47 * a)), .int (nI 188), .ref 272, .int (nI k), .ref 272]) rfl (congrArg (fun z : Int32 => (.int z :: [.int (nI 188), .ref 272, .int (nI k), .ref 272] : List Value)) (pk_mul 47 a)) rfl ?_
    refine WP.run (pc' := 48) (L' := [.ref 271, .int (nI k)]) (st' := [.int ((nI 188) + (nI (47 * a))), .ref 272, .int (nI k), .ref 272]) (I1 := (inM J (188 + 47 * a) k)) 1 rfl ?_
    refine WP.cg (st' := [.int (nI (188 + (47 * a))), .ref 272, .int (nI k), .ref 272]) rfl (congrArg (fun z : Int32 => (.int z :: [.ref 272, .int (nI k), .ref 272] : List Value)) (nI_add 188 (47 * a))) rfl ?_
    refine WP.run (pc' := 50) (L' := [.ref 271, .int (nI k)]) (st' := [.int ((nI (188 + (47 * a))) + (nI k)), .ref 272, .int (nI k), .ref 272]) (I1 := (inM J (188 + 47 * a) k)) 2 rfl ?_
    refine WP.cg (st' := [.int (nI ((188 + (47 * a)) + k)), .ref 272, .int (nI k), .ref 272]) rfl (congrArg (fun z : Int32 => (.int z :: [.ref 272, .int (nI k), .ref 272] : List Value)) (nI_add (188 + (47 * a)) k)) rfl ?_
    refine WP.iald rfl rfl rfl (by omega) (by decide) ?_
    refine WP.iast rfl rfl rfl (by omega) (by decide) ?_
    refine WP.run (pc' := 55) (L' := [.ref 271, .int ((nI k) + nI 1)]) (st' := []) (I1 := (upN (inM J (188 + 47 * a) k) 272 k ((inM J (188 + 47 * a) k) 272 ((188 + (47 * a)) + k)))) 1 rfl ?_
    refine WP.cg (L' := [.ref 271, .int (nI (k + 1))]) (congrArg (fun z : Int32 => ([.ref 271, .int z] : List Value)) (nI_add k 1)) rfl rfl ?_
    refine WP.run (pc' := 22) (L' := [.ref 271, .int (nI (k + 1))]) (st' := []) (I1 := (upN (inM J (188 + 47 * a) k) 272 k ((inM J (188 + 47 * a) k) 272 ((188 + (47 * a)) + k)))) 1 rfl ?_
    refine WP.cg (L' := [.ref 271, .int (nI (k + 1))]) rfl rfl rfl (ih (by omega))
set_option maxRecDepth 100000 in
theorem ms_undo {d : Nat} {I : Pl} {N : Nat → Nat} {m : Nat} {F : Nat → Nat → Nat} (hS : TSM I (N, m, F)) (hI : TSI (N, m, F)) : EvX (d + 1) 150 [.ref 271] I (fun v K => v = some (.int (nUndo (N, m, F)).1) ∧ TSM K (nUndo (N, m, F)).2 ∧ Only I K tsmP) := by
  have hm : I 271 1 = nI m := hS.2.1
  have hm1 : m ≤ 24 := hI.2.1
  refine EvX.enter rfl rfl rfl ?_
  refine WP.run (pc' := 4) (L' := [.ref 271, UU]) (st' := [.int (I 271 1)]) (I1 := I) 2 rfl ?_
  refine WP.cg (st' := [.int (nI m)]) rfl (congrArg (fun z : Int32 => (.int z :: [] : List Value)) (hm)) rfl ?_
  refine WP.run (pc' := if ¬ (nI m) = 0 then 10 else 7) (L' := [.ref 271, UU]) (st' := []) (I1 := I) 1 rfl ?_
  refine WP.br (fun h1 => ?_) (fun h1 => ?_)
  · have h1 : ¬ m = 0 := fun q => h1 (nI_eq_r q)
    refine WP.run (pc' := 15) (L' := [.ref 271, UU]) (st' := [.int (I 271 1), .ref 271]) (I1 := I) 3 rfl ?_
    refine WP.cg (st' := [.int (nI m), .ref 271]) rfl (congrArg (fun z : Int32 => (.int z :: [.ref 271] : List Value)) (hm)) rfl ?_
    refine WP.run (pc' := 17) (L' := [.ref 271, UU]) (st' := [.int ((nI m) - (nI 1)), .ref 271]) (I1 := I) 2 rfl ?_
    refine WP.cg (st' := [.int (nI (m - 1)), .ref 271]) rfl (congrArg (fun z : Int32 => (.int z :: [.ref 271] : List Value)) (pk_sub (a := m) (b := 1) (by omega))) rfl ?_
    refine WP.run (pc' := 22) (L' := [.ref 271, .int (nI 0)]) (st' := []) (I1 := (upN I 271 1 (nI (m - 1)))) 3 rfl ?_
    have e : nUndo (N, m, F) = (nI (m - 1), (F (m - 1), m - 1, F)) := if_neg (show ¬ m = 0 by omega)
    rw [e]
    have hu := mundo_TS hS hI (show 0 < m by omega)
    obtain ⟨r, K, g1, rfl, rfl⟩ := lm_undo (d := d) (J := (upN I 271 1 (nI (m - 1)))) (a := m - 1) upN_s (by omega) 0 (Nat.zero_le _)
    exact ⟨_, _, g1, rfl, hu.1, hu.2⟩
  · have h1 : m = 0 := nI_eq_ (by omega) (by omega) (Decidable.byContradiction h1)
    refine WP.run (pc' := 9) (L' := [.ref 271, UU]) (st' := [.int (-1000002)]) (I1 := I) 1 rfl ?_
    exact WP.ret rfl rfl (by
          have e : nUndo (N, m, F) = ((-1000002), (N, m, F)) := if_pos (show m = 0 by omega)
          rw [e]
          exact ⟨rfl, hS, Only.rfl_⟩)
set_option maxRecDepth 100000 in
theorem lm_image {d : Nat} {I : Pl} {j : Nat} (hj : j < 2) : ∀ k, k ≤ 47 → WP (d + 1) (188, 7, (some .int), sc0) 25 [.ref 271, .int (nI j), .int (nI k)] [] (outM I (47 * (j + 1)) k) (fun v K => v = some (.int (nI 1)) ∧ K = upN (outM I (47 * (j + 1)) 47) 273 j (nI 1)) := by
  refine loopUp (fun k hk ih => ?_)
  refine WP.run (pc' := if (nI 47) ≤ (nI k) then 56 else 31) (L' := [.ref 271, .int (nI j), .int (nI k)]) (st' := []) (I1 := (outM I (47 * (j + 1)) k)) 3 rfl ?_
  refine WP.br (fun h1 => ?_) (fun h1 => ?_)
  · have h1 : 47 ≤ k := nI_le_ (by omega) (by omega) h1
    refine WP.run (pc' := 62) (L' := [.ref 271, .int (nI j), .int (nI k)]) (st' := [.int (nI 1), .int (nI j), .ref 273]) (I1 := (outM I (47 * (j + 1)) k)) 4 rfl ?_
    refine WP.bast rfl rfl rfl (by omega) (by decide) (by decide) ?_
    refine WP.run (pc' := 64) (L' := [.ref 271, .int (nI j), .int (nI k)]) (st' := [.int (nI 1)]) (I1 := (upN (outM I (47 * (j + 1)) k) 273 j (nI 1))) 1 rfl ?_
    exact WP.ret rfl rfl (⟨rfl, by rw [show 47 = k by omega]⟩)
  · have h1 : ¬ 47 ≤ k := fun q => h1 (nI_le_r (by omega) q)
    refine WP.run (pc' := 40) (L' := [.ref 271, .int (nI j), .int (nI k)]) (st' := [.int ((nI j) + (nI 1)), .int (nI 47), .ref 272]) (I1 := (outM I (47 * (j + 1)) k)) 6 rfl ?_
    refine WP.cg (st' := [.int (nI (j + 1)), .int (nI 47), .ref 272]) rfl (congrArg (fun z : Int32 => (.int z :: [.int (nI 47), .ref 272] : List Value)) (nI_add j 1)) rfl ?_
    refine WP.run (pc' := 41) (L' := [.ref 271, .int (nI j), .int (nI k)]) (st' := [.int ((nI 47) * (nI (j + 1))), .ref 272]) (I1 := (outM I (47 * (j + 1)) k)) 1 rfl ?_
    refine WP.cg (st' := [.int (nI (47 * (j + 1))), .ref 272]) rfl (congrArg (fun z : Int32 => (.int z :: [.ref 272] : List Value)) (pk_mul 47 (j + 1))) rfl ?_
    refine WP.run (pc' := 43) (L' := [.ref 271, .int (nI j), .int (nI k)]) (st' := [.int ((nI (47 * (j + 1))) + (nI k)), .ref 272]) (I1 := (outM I (47 * (j + 1)) k)) 2 rfl ?_
    refine WP.cg (st' := [.int (nI ((47 * (j + 1)) + k)), .ref 272]) rfl (congrArg (fun z : Int32 => (.int z :: [.ref 272] : List Value)) (nI_add (47 * (j + 1)) k)) rfl ?_
    refine WP.run (pc' := 48) (L' := [.ref 271, .int (nI j), .int (nI k)]) (st' := [.int (nI k), .ref 272, .int (nI ((47 * (j + 1)) + k)), .ref 272]) (I1 := (outM I (47 * (j + 1)) k)) 3 rfl ?_
    refine WP.iald rfl rfl rfl (by omega) (by decide) ?_
    refine WP.iast rfl rfl rfl (by omega) (by decide) ?_
    refine WP.run (pc' := 53) (L' := [.ref 271, .int (nI j), .int ((nI k) + nI 1)]) (st' := []) (I1 := (upN (outM I (47 * (j + 1)) k) 272 ((47 * (j + 1)) + k) ((outM I (47 * (j + 1)) k) 272 k))) 1 rfl ?_
    refine WP.cg (L' := [.ref 271, .int (nI j), .int (nI (k + 1))]) (congrArg (fun z : Int32 => ([.ref 271, .int (nI j), .int z] : List Value)) (nI_add k 1)) rfl rfl ?_
    refine WP.run (pc' := 25) (L' := [.ref 271, .int (nI j), .int (nI (k + 1))]) (st' := []) (I1 := (upN (outM I (47 * (j + 1)) k) 272 ((47 * (j + 1)) + k) ((outM I (47 * (j + 1)) k) 272 k))) 1 rfl ?_
    refine WP.cg (L' := [.ref 271, .int (nI j), .int (nI (k + 1))]) rfl rfl rfl (ih (by omega))
set_option maxRecDepth 100000 in
theorem ms_image {d : Nat} {I : Pl} {N : Nat → Nat} {T : ImS} {x : Int32} (hM : T0 I N) (hN : TI N) (hIm : ImM I T) : EvX (d + 2) 188 [.ref 271, .int x] I (fun v K => v = some (.int (nImage N T x).1) ∧ ImM K (nImage N T x).2 ∧ Only I K immP) := by
  obtain ⟨b0, b1, b2, b3, b4, b5, b6, b7, b8, bS, bC, bS1, bC1, bZ, bG⟩ := id hN
  obtain ⟨s6, s7, s64⟩ := hN.set64
  refine EvX.enter rfl rfl rfl ?_
  refine WP.run (pc' := 4) (L' := [.ref 271, .int x, UU]) (st' := [.long (1 : Int64), .long (0 : Int64), .long x.toInt64]) (I1 := I) 4 rfl ?_
  refine WP.callB (rest := []) rfl rfl (sp_inA (d := d) (x := x) (n := 2) (hi := (1 : Int64)) rfl) (fun h1 => ?_) (fun h1 => ?_)
  · refine WP.run (pc' := 13) (L' := [.ref 271, .int x, UU]) (st' := []) (I1 := I) 1 rfl ?_
    have hx_j : inA x 2 := (by assumption)
    obtain ⟨j, hj, rfl⟩ := inA_of hx_j (by omega)
    refine WP.run (pc' := 14) (L' := [.ref 271, .int (nI j), UU]) (st' := [.ref 271]) (I1 := I) 1 rfl ?_
    refine WP.callB (rest := []) rfl rfl (ms_isNone (d := d) hM hN) (fun h2 => ?_) (fun h2 => ?_)
    · refine WP.run (pc' := 22) (L' := [.ref 271, .int (nI j), UU]) (st' := [.int (-1000002)]) (I1 := I) 2 rfl ?_
      exact WP.ret rfl rfl (by
              have e : nImage N T (nI j) = ((-1000002), T) := by (unfold nImage; (repeat rw [nOf_nI (by omega)]); (repeat first | rw [if_pos (by first | assumption | omega | (refine inA_iff.mpr ?_; omega) | (intro q; have q2 := inA_iff.mp q; omega) | (intro q; omega) | (refine ⟨?_, ?_⟩ <;> rw [nI_int (by omega)] <;> omega) | (rw [nI_int (by omega)]; omega) | (intro q; rw [nI_int (by omega)] at q; omega) | (refine ⟨?_, ?_, ?_⟩ <;> omega) | (intro q; obtain ⟨q1, q2, q3⟩ := q; omega) | fail)] | rw [if_neg (by first | assumption | omega | (refine inA_iff.mpr ?_; omega) | (intro q; have q2 := inA_iff.mp q; omega) | (intro q; omega) | (refine ⟨?_, ?_⟩ <;> rw [nI_int (by omega)] <;> omega) | (rw [nI_int (by omega)]; omega) | (intro q; rw [nI_int (by omega)] at q; omega) | (refine ⟨?_, ?_, ?_⟩ <;> omega) | (intro q; obtain ⟨q1, q2, q3⟩ := q; omega) | fail)])) <;> rfl
              rw [e]
              exact ⟨rfl, hIm, Only.rfl_⟩)
    · refine WP.run (pc' := 25) (L' := [.ref 271, .int (nI j), .int (nI 0)]) (st' := []) (I1 := I) 3 rfl ?_
      have e : nImage N T (nI j) = (nI 1, (updF T.1 j 1, updF T.2 j N)) := by (unfold nImage; (repeat rw [nOf_nI (by omega)]); (repeat first | rw [if_pos (by first | assumption | omega | (refine inA_iff.mpr ?_; omega) | (intro q; have q2 := inA_iff.mp q; omega) | (intro q; omega) | (refine ⟨?_, ?_⟩ <;> rw [nI_int (by omega)] <;> omega) | (rw [nI_int (by omega)]; omega) | (intro q; rw [nI_int (by omega)] at q; omega) | (refine ⟨?_, ?_, ?_⟩ <;> omega) | (intro q; obtain ⟨q1, q2, q3⟩ := q; omega) | fail)] | rw [if_neg (by first | assumption | omega | (refine inA_iff.mpr ?_; omega) | (intro q; have q2 := inA_iff.mp q; omega) | (intro q; omega) | (refine ⟨?_, ?_⟩ <;> rw [nI_int (by omega)] <;> omega) | (rw [nI_int (by omega)]; omega) | (intro q; rw [nI_int (by omega)] at q; omega) | (refine ⟨?_, ?_, ?_⟩ <;> omega) | (intro q; obtain ⟨q1, q2, q3⟩ := q; omega) | fail)])) <;> rfl
      rw [e]
      have hu := mimage hj hM hIm
      obtain ⟨r, K, g1, rfl, rfl⟩ := lm_image (d := d) (I := I) (j := j) hj 0 (Nat.zero_le _)
      exact ⟨_, _, g1, rfl, hu.1, hu.2⟩
  · refine WP.run (pc' := 12) (L' := [.ref 271, .int x, UU]) (st' := [.int (-1000001)]) (I1 := I) 2 rfl ?_
    exact WP.ret rfl rfl (by
          have e : nImage N T x = ((-1000001), T) := by (unfold nImage; (repeat rw [nOf_nI (by omega)]); (repeat first | rw [if_pos (by first | assumption | omega | (refine inA_iff.mpr ?_; omega) | (intro q; have q2 := inA_iff.mp q; omega) | (intro q; omega) | (refine ⟨?_, ?_⟩ <;> rw [nI_int (by omega)] <;> omega) | (rw [nI_int (by omega)]; omega) | (intro q; rw [nI_int (by omega)] at q; omega) | (refine ⟨?_, ?_, ?_⟩ <;> omega) | (intro q; obtain ⟨q1, q2, q3⟩ := q; omega) | fail)] | rw [if_neg (by first | assumption | omega | (refine inA_iff.mpr ?_; omega) | (intro q; have q2 := inA_iff.mp q; omega) | (intro q; omega) | (refine ⟨?_, ?_⟩ <;> rw [nI_int (by omega)] <;> omega) | (rw [nI_int (by omega)]; omega) | (intro q; rw [nI_int (by omega)] at q; omega) | (refine ⟨?_, ?_, ?_⟩ <;> omega) | (intro q; obtain ⟨q1, q2, q3⟩ := q; omega) | fail)])) <;> rfl
          rw [e]
          exact ⟨rfl, hIm, Only.rfl_⟩)
set_option maxRecDepth 100000 in
theorem lm_restore {d : Nat} {I : Pl} {j : Nat} (hj : j < 2) : ∀ k, k ≤ 47 → WP (d + 1) (189, 7, (some .int), sc0) 27 [.ref 271, .int (nI j), .int (nI k)] [] (inM I (47 * (j + 1)) k) (fun v K => v = some (.int (nI 1)) ∧ K = upN (inM I (47 * (j + 1)) 47) 271 1 (nI 0)) := by
  refine loopUp (fun k hk ih => ?_)
  refine WP.run (pc' := if (nI 47) ≤ (nI k) then 58 else 33) (L' := [.ref 271, .int (nI j), .int (nI k)]) (st' := []) (I1 := (inM I (47 * (j + 1)) k)) 3 rfl ?_
  refine WP.br (fun h1 => ?_) (fun h1 => ?_)
  · have h1 : 47 ≤ k := nI_le_ (by omega) (by omega) h1
    refine WP.run (pc' := 64) (L' := [.ref 271, .int (nI j), .int (nI k)]) (st' := [.int (nI 1)]) (I1 := (upN (inM I (47 * (j + 1)) k) 271 1 (nI 0))) 4 rfl ?_
    exact WP.ret rfl rfl (⟨rfl, by rw [show 47 = k by omega]⟩)
  · have h1 : ¬ 47 ≤ k := fun q => h1 (nI_le_r (by omega) q)
    refine WP.run (pc' := 47) (L' := [.ref 271, .int (nI j), .int (nI k)]) (st' := [.int ((nI j) + (nI 1)), .int (nI 47), .ref 272, .int (nI k), .ref 272]) (I1 := (inM I (47 * (j + 1)) k)) 9 rfl ?_
    refine WP.cg (st' := [.int (nI (j + 1)), .int (nI 47), .ref 272, .int (nI k), .ref 272]) rfl (congrArg (fun z : Int32 => (.int z :: [.int (nI 47), .ref 272, .int (nI k), .ref 272] : List Value)) (nI_add j 1)) rfl ?_
    refine WP.run (pc' := 48) (L' := [.ref 271, .int (nI j), .int (nI k)]) (st' := [.int ((nI 47) * (nI (j + 1))), .ref 272, .int (nI k), .ref 272]) (I1 := (inM I (47 * (j + 1)) k)) 1 rfl ?_
    refine WP.cg (st' := [.int (nI (47 * (j + 1))), .ref 272, .int (nI k), .ref 272]) rfl (congrArg (fun z : Int32 => (.int z :: [.ref 272, .int (nI k), .ref 272] : List Value)) (pk_mul 47 (j + 1))) rfl ?_
    refine WP.run (pc' := 50) (L' := [.ref 271, .int (nI j), .int (nI k)]) (st' := [.int ((nI (47 * (j + 1))) + (nI k)), .ref 272, .int (nI k), .ref 272]) (I1 := (inM I (47 * (j + 1)) k)) 2 rfl ?_
    refine WP.cg (st' := [.int (nI ((47 * (j + 1)) + k)), .ref 272, .int (nI k), .ref 272]) rfl (congrArg (fun z : Int32 => (.int z :: [.ref 272, .int (nI k), .ref 272] : List Value)) (nI_add (47 * (j + 1)) k)) rfl ?_
    refine WP.iald rfl rfl rfl (by omega) (by decide) ?_
    refine WP.iast rfl rfl rfl (by omega) (by decide) ?_
    refine WP.run (pc' := 55) (L' := [.ref 271, .int (nI j), .int ((nI k) + nI 1)]) (st' := []) (I1 := (upN (inM I (47 * (j + 1)) k) 272 k ((inM I (47 * (j + 1)) k) 272 ((47 * (j + 1)) + k)))) 1 rfl ?_
    refine WP.cg (L' := [.ref 271, .int (nI j), .int (nI (k + 1))]) (congrArg (fun z : Int32 => ([.ref 271, .int (nI j), .int z] : List Value)) (nI_add k 1)) rfl rfl ?_
    refine WP.run (pc' := 27) (L' := [.ref 271, .int (nI j), .int (nI (k + 1))]) (st' := []) (I1 := (upN (inM I (47 * (j + 1)) k) 272 k ((inM I (47 * (j + 1)) k) 272 ((47 * (j + 1)) + k)))) 1 rfl ?_
    refine WP.cg (L' := [.ref 271, .int (nI j), .int (nI (k + 1))]) rfl rfl rfl (ih (by omega))
set_option maxRecDepth 100000 in
theorem ms_restore {d : Nat} {I : Pl} {N : Nat → Nat} {m : Nat} {F : Nat → Nat → Nat} {T : ImS} {x : Int32} (hS : TSM I (N, m, F)) (hI : TSI (N, m, F)) (hIm : ImM I T) (hImI : ImI T) : EvX (d + 2) 189 [.ref 271, .int x] I (fun v K => v = some (.int (nRestore (N, m, F) T x).1) ∧ TSM K (nRestore (N, m, F) T x).2 ∧ Only I K tsmP) := by
  refine EvX.enter rfl rfl rfl ?_
  refine WP.run (pc' := 4) (L' := [.ref 271, .int x, UU]) (st' := [.long (1 : Int64), .long (0 : Int64), .long x.toInt64]) (I1 := I) 4 rfl ?_
  refine WP.callB (rest := []) rfl rfl (sp_inA (d := d) (x := x) (n := 2) (hi := (1 : Int64)) rfl) (fun h1 => ?_) (fun h1 => ?_)
  · refine WP.run (pc' := 13) (L' := [.ref 271, .int x, UU]) (st' := []) (I1 := I) 1 rfl ?_
    have hx_j : inA x 2 := (by assumption)
    obtain ⟨j, hj, rfl⟩ := inA_of hx_j (by omega)
    have hk1 := (hImI j hj).1
    refine WP.run (pc' := 18) (L' := [.ref 271, .int (nI j), UU]) (st' := [.int (nI j), .ref 273]) (I1 := I) 3 rfl ?_
    refine WP.bald rfl rfl rfl (by omega) (by decide) ?_
    refine WP.cg (st' := [.int (nI (T.1 j))]) rfl (congrArg (fun z : Int32 => (.int z :: [] : List Value)) ((hIm j (by omega)).1)) rfl ?_
    refine WP.run (pc' := if ¬ (nI (T.1 j)) = 0 then 25 else 22) (L' := [.ref 271, .int (nI j), UU]) (st' := []) (I1 := I) 1 rfl ?_
    refine WP.br (fun h2 => ?_) (fun h2 => ?_)
    · have h2 : ¬ T.1 j = 0 := fun q => h2 (nI_eq_r q)
      refine WP.run (pc' := 27) (L' := [.ref 271, .int (nI j), .int (nI 0)]) (st' := []) (I1 := I) 2 rfl ?_
      have hk1 := (hImI j hj).1
      have e : nRestore (N, m, F) T (nI j) = (nI 1, (T.2 j, 0, F)) := by (unfold nRestore; (repeat rw [nOf_nI (by omega)]); (repeat first | rw [if_pos (by first | assumption | omega | (refine inA_iff.mpr ?_; omega) | (intro q; have q2 := inA_iff.mp q; omega) | (intro q; omega) | (refine ⟨?_, ?_⟩ <;> rw [nI_int (by omega)] <;> omega) | (rw [nI_int (by omega)]; omega) | (intro q; rw [nI_int (by omega)] at q; omega) | (refine ⟨?_, ?_, ?_⟩ <;> omega) | (intro q; obtain ⟨q1, q2, q3⟩ := q; omega) | fail)] | rw [if_neg (by first | assumption | omega | (refine inA_iff.mpr ?_; omega) | (intro q; have q2 := inA_iff.mp q; omega) | (intro q; omega) | (refine ⟨?_, ?_⟩ <;> rw [nI_int (by omega)] <;> omega) | (rw [nI_int (by omega)]; omega) | (intro q; rw [nI_int (by omega)] at q; omega) | (refine ⟨?_, ?_, ?_⟩ <;> omega) | (intro q; obtain ⟨q1, q2, q3⟩ := q; omega) | fail)])) <;> rfl
      rw [e]
      have hu := mrestore (F := F) hj hIm (by omega)
      obtain ⟨r, K, g1, rfl, rfl⟩ := lm_restore (d := d) (I := I) (j := j) hj 0 (Nat.zero_le _)
      exact ⟨_, _, g1, rfl, hu.1, hu.2⟩
    · have h2 : T.1 j = 0 := nI_eq_ (by omega) (by omega) (Decidable.byContradiction h2)
      refine WP.run (pc' := 24) (L' := [.ref 271, .int (nI j), UU]) (st' := [.int (-1000002)]) (I1 := I) 1 rfl ?_
      exact WP.ret rfl rfl (by
              have e : nRestore (N, m, F) T (nI j) = ((-1000002), (N, m, F)) := by (unfold nRestore; (repeat rw [nOf_nI (by omega)]); (repeat first | rw [if_pos (by first | assumption | omega | (refine inA_iff.mpr ?_; omega) | (intro q; have q2 := inA_iff.mp q; omega) | (intro q; omega) | (refine ⟨?_, ?_⟩ <;> rw [nI_int (by omega)] <;> omega) | (rw [nI_int (by omega)]; omega) | (intro q; rw [nI_int (by omega)] at q; omega) | (refine ⟨?_, ?_, ?_⟩ <;> omega) | (intro q; obtain ⟨q1, q2, q3⟩ := q; omega) | fail)] | rw [if_neg (by first | assumption | omega | (refine inA_iff.mpr ?_; omega) | (intro q; have q2 := inA_iff.mp q; omega) | (intro q; omega) | (refine ⟨?_, ?_⟩ <;> rw [nI_int (by omega)] <;> omega) | (rw [nI_int (by omega)]; omega) | (intro q; rw [nI_int (by omega)] at q; omega) | (refine ⟨?_, ?_, ?_⟩ <;> omega) | (intro q; obtain ⟨q1, q2, q3⟩ := q; omega) | fail)])) <;> rfl
              rw [e]
              exact ⟨rfl, hS, Only.rfl_⟩)
  · refine WP.run (pc' := 12) (L' := [.ref 271, .int x, UU]) (st' := [.int (-1000001)]) (I1 := I) 2 rfl ?_
    exact WP.ret rfl rfl (by
          have e : nRestore (N, m, F) T x = ((-1000001), (N, m, F)) := by (unfold nRestore; (repeat rw [nOf_nI (by omega)]); (repeat first | rw [if_pos (by first | assumption | omega | (refine inA_iff.mpr ?_; omega) | (intro q; have q2 := inA_iff.mp q; omega) | (intro q; omega) | (refine ⟨?_, ?_⟩ <;> rw [nI_int (by omega)] <;> omega) | (rw [nI_int (by omega)]; omega) | (intro q; rw [nI_int (by omega)] at q; omega) | (refine ⟨?_, ?_, ?_⟩ <;> omega) | (intro q; obtain ⟨q1, q2, q3⟩ := q; omega) | fail)] | rw [if_neg (by first | assumption | omega | (refine inA_iff.mpr ?_; omega) | (intro q; have q2 := inA_iff.mp q; omega) | (intro q; omega) | (refine ⟨?_, ?_⟩ <;> rw [nI_int (by omega)] <;> omega) | (rw [nI_int (by omega)]; omega) | (intro q; rw [nI_int (by omega)] at q; omega) | (refine ⟨?_, ?_, ?_⟩ <;> omega) | (intro q; obtain ⟨q1, q2, q3⟩ := q; omega) | fail)])) <;> rfl
          rw [e]
          exact ⟨rfl, hS, Only.rfl_⟩)
