/-! what the calls that only read answer: those with loops, storm, count, trace -/
set_option maxRecDepth 100000 in
theorem lc_needed {d : Nat} {I : Pl} {j : Nat} {N : Nat → Nat} (hT : Tw I 247 N) (hN : TI N) (hj : j < N 3) : ∀ k, k ≤ N 2 → ∀ y : Value, WP (d + 3) (103, 6, (some .int), sc0) 44 ([.ref 0, .int (nI j), .int (nI (neP N (N (27 + j)) k)), .int (nI k), y]) [] I (fun v J => v = some (.int (nI (neP N (N (27 + j)) (N 2)))) ∧ J = I) := by
  refine loopUp (fun k hk ih => ?_)
  intro y
  obtain ⟨b0, b1, b2, b3, b4, b5, b6, b7, b8, bS, bC, bS1, bC1, bZ, bG⟩ := id hN
  obtain ⟨s6, s7, s64⟩ := hN.set64
  have hnl := neP_lt N (N (27 + j)) k
  have hp2 : 2 ^ k ≤ 2 ^ 6 := Nat.pow_le_pow_right (by decide) (by omega)
  have hp0 := Nat.two_pow_pos k
  have hbl := bitN_lt (N 6) k
  have hbb : bitN (N 6) k * 2 ^ k ≤ 1 * 2 ^ k := Nat.mul_le_mul_right _ (by omega)
  refine WP.run (pc' := 52) (L' := [.ref 0, .int (nI j), .int (nI (neP N (N (27 + j)) k)), .int (nI k), y]) (st' := [.int (I 247 7), .int (nI k)]) (I1 := I) 4 rfl ?_
  refine WP.cg (st' := [.int (nI (N 2)), .int (nI k)]) rfl (congrArg (fun z : Int32 => (.int z :: [.int (nI k)] : List Value)) (hT.f7)) rfl ?_
  refine WP.run (pc' := if (nI (N 2)) ≤ (nI k) then 107 else 55) (L' := [.ref 0, .int (nI j), .int (nI (neP N (N (27 + j)) k)), .int (nI k), y]) (st' := []) (I1 := I) 1 rfl ?_
  refine WP.br (fun h1 => ?_) (fun h1 => ?_)
  · have h1 : N 2 ≤ k := nI_le_ (by omega) (by omega) h1
    refine WP.run (pc' := 108) (L' := [.ref 0, .int (nI j), .int (nI (neP N (N (27 + j)) k)), .int (nI k), y]) (st' := [.int (nI (neP N (N (27 + j)) k))]) (I1 := I) 1 rfl ?_
    exact WP.ret rfl rfl (⟨by rw [show k = N 2 by omega], rfl⟩)
  · have h1 : ¬ N 2 ≤ k := fun q => h1 (nI_le_r (by omega) q)
    refine WP.run (pc' := 62) (L' := [.ref 0, .int (nI j), .int (nI (neP N (N (27 + j)) k)), .int (nI k), y]) (st' := [.int (I 247 5)]) (I1 := I) 3 rfl ?_
    refine WP.cg (st' := [.int (nI (N 6))]) rfl (congrArg (fun z : Int32 => (.int z :: [] : List Value)) (hT.f5)) rfl ?_
    refine WP.run (pc' := 65) (L' := [.ref 0, .int (nI j), .int (nI (neP N (N (27 + j)) k)), .int (nI k), y]) (st' := [.int ((nI 1) <<< ((nI k) &&& 31)), .int (nI (N 6))]) (I1 := I) 3 rfl ?_
    refine WP.cg (st' := [.int (nI (2 ^ k)), .int (nI (N 6))]) rfl (congrArg (fun z : Int32 => (.int z :: [.int (nI (N 6))] : List Value)) (nI_shl1 k (by omega))) rfl ?_
    refine WP.run (pc' := 66) (L' := [.ref 0, .int (nI j), .int (nI (neP N (N (27 + j)) k)), .int (nI k), y]) (st' := [.int ((nI (N 6)) &&& (nI (2 ^ k)))]) (I1 := I) 1 rfl ?_
    refine WP.cg (st' := [.int (nI (bitN (N 6) k * 2 ^ k))]) rfl (congrArg (fun z : Int32 => (.int z :: [] : List Value)) ((nI_and _ _).trans (congrArg nI (bit_pow k (by omega) (N 6) (by omega))))) rfl ?_
    refine WP.run (pc' := if (nI (bitN (N 6) k * 2 ^ k)) = 0 then 101 else 73) (L' := [.ref 0, .int (nI j), .int (nI (neP N (N (27 + j)) k)), .int (nI k), .int (nI (bitN (N 6) k * 2 ^ k))]) (st' := []) (I1 := I) 3 rfl ?_
    refine WP.br (fun h2 => ?_) (fun h2 => ?_)
    · have h2 : bitN (N 6) k * 2 ^ k = 0 := nI_eq_ (by omega) (by omega) h2
      have hb1 : ¬ bitN (N 6) k = 1 := fun q => by
        have q1 : bitN (N 6) k * 2 ^ k = 2 ^ k := by rw [q, Nat.one_mul]
        omega
      refine WP.run (pc' := 104) (L' := [.ref 0, .int (nI j), .int (nI (neP N (N (27 + j)) k)), .int ((nI k) + nI 1), .int (nI (bitN (N 6) k * 2 ^ k))]) (st' := []) (I1 := I) 1 rfl ?_
      refine WP.cg (L' := [.ref 0, .int (nI j), .int (nI (neP N (N (27 + j)) k)), .int (nI (k + 1)), .int (nI (bitN (N 6) k * 2 ^ k))]) (congrArg (fun z : Int32 => ([.ref 0, .int (nI j), .int (nI (neP N (N (27 + j)) k)), .int z, .int (nI (bitN (N 6) k * 2 ^ k))] : List Value)) (nI_add k 1)) rfl rfl ?_
      refine WP.run (pc' := 44) (L' := [.ref 0, .int (nI j), .int (nI (neP N (N (27 + j)) k)), .int (nI (k + 1)), .int (nI (bitN (N 6) k * 2 ^ k))]) (st' := []) (I1 := I) 1 rfl ?_
      refine WP.cg (L' := [.ref 0, .int (nI j), .int (nI (neP N (N (27 + j)) (k + 1))), .int (nI (k + 1)), .int (nI (bitN (N 6) k * 2 ^ k))]) (congrArg (fun z : Nat => ([.ref 0, .int (nI j), .int (nI z), .int (nI (k + 1)), .int (nI (bitN (N 6) k * 2 ^ k))] : List Value)) (by show _ = neP N (N (27 + j)) k + _; first | (rw [if_neg (fun q => absurd q.1 hb1)]; rfl) | (rw [if_neg (fun q => absurd (by assumption) q.2)]; rfl))) rfl rfl (ih (by omega) _)
    · have h2 : ¬ bitN (N 6) k * 2 ^ k = 0 := fun q => h2 (nI_eq_r q)
      have hb1 : bitN (N 6) k = 1 := by
        rcases Nat.lt_or_ge (bitN (N 6) k) 1 with q | q
        · have q0 : bitN (N 6) k = 0 := by omega
          have q1 : bitN (N 6) k * 2 ^ k = 0 := by rw [q0, Nat.zero_mul]
          omega
        · omega
      have hp3 : 2 ^ k ≤ 2 ^ 5 := Nat.pow_le_pow_right (by decide) (by omega)
      refine WP.cg (L' := [.ref 0, .int (nI j), .int (nI (neP N (N (27 + j)) k)), .int (nI k), .int (nI (2 ^ k))]) (congrArg (fun z : Nat => ([.ref 0, .int (nI j), .int (nI (neP N (N (27 + j)) k)), .int (nI k), .int (nI z)] : List Value)) (by rw [hb1, Nat.one_mul])) rfl rfl ?_
      have hsd := sdf_le (N 6) (2 ^ k)
      refine WP.run (pc' := 85) (L' := [.ref 0, .int (nI j), .int (nI (neP N (N (27 + j)) k)), .int (nI k), .int (nI (2 ^ k))]) (st' := [.int (I 247 5), .int (nI j), .ref 247]) (I1 := I) 6 rfl ?_
      refine WP.cg (st' := [.int (nI (N 6)), .int (nI j), .ref 247]) rfl (congrArg (fun z : Int32 => (.int z :: [.int (nI j), .ref 247] : List Value)) (hT.f5)) rfl ?_
      refine WP.run (pc' := 90) (L' := [.ref 0, .int (nI j), .int (nI (neP N (N (27 + j)) k)), .int (nI k), .int (nI (2 ^ k))]) (st' := [.int ((nI (N 6)) &&& ((nI (2 ^ k)) ^^^ (-1))), .int (nI j), .ref 247]) (I1 := I) 4 rfl ?_
      refine WP.cg (st' := [.int (nI (sdf (N 6) (2 ^ k))), .int (nI j), .ref 247]) rfl (congrArg (fun z : Int32 => (.int z :: [.int (nI j), .ref 247] : List Value)) (nI_not _ _ (by omega) (by omega))) rfl ?_
      refine WP.callB (rest := []) rfl rfl (sp_isBorne (d := d) (c := j) (m := sdf (N 6) (2 ^ k)) hT hN (by omega) (by omega)) (fun h3 => ?_) (fun h3 => ?_)
      · refine WP.run (pc' := 101) (L' := [.ref 0, .int (nI j), .int (nI (neP N (N (27 + j)) k)), .int (nI k), .int (nI (2 ^ k))]) (st' := []) (I1 := I) 1 rfl ?_
        refine WP.run (pc' := 104) (L' := [.ref 0, .int (nI j), .int (nI (neP N (N (27 + j)) k)), .int ((nI k) + nI 1), .int (nI (2 ^ k))]) (st' := []) (I1 := I) 1 rfl ?_
        refine WP.cg (L' := [.ref 0, .int (nI j), .int (nI (neP N (N (27 + j)) k)), .int (nI (k + 1)), .int (nI (2 ^ k))]) (congrArg (fun z : Int32 => ([.ref 0, .int (nI j), .int (nI (neP N (N (27 + j)) k)), .int z, .int (nI (2 ^ k))] : List Value)) (nI_add k 1)) rfl rfl ?_
        refine WP.run (pc' := 44) (L' := [.ref 0, .int (nI j), .int (nI (neP N (N (27 + j)) k)), .int (nI (k + 1)), .int (nI (2 ^ k))]) (st' := []) (I1 := I) 1 rfl ?_
        refine WP.cg (L' := [.ref 0, .int (nI j), .int (nI (neP N (N (27 + j)) (k + 1))), .int (nI (k + 1)), .int (nI (2 ^ k))]) (congrArg (fun z : Nat => ([.ref 0, .int (nI j), .int (nI z), .int (nI (k + 1)), .int (nI (2 ^ k))] : List Value)) (by show _ = neP N (N (27 + j)) k + _; first | (rw [if_neg (fun q => absurd q.1 hb1)]; rfl) | (rw [if_neg (fun q => absurd (by assumption) q.2)]; rfl))) rfl rfl (ih (by omega) _)
      · refine WP.run (pc' := 100) (L' := [.ref 0, .int (nI j), .int (nI (neP N (N (27 + j)) k)), .int (nI k), .int (nI (2 ^ k))]) (st' := [.int ((nI (neP N (N (27 + j)) k)) ||| (nI (2 ^ k)))]) (I1 := I) 4 rfl ?_
        refine WP.cg (st' := [.int (nI ((neP N (N (27 + j)) k) ||| (2 ^ k)))]) rfl (congrArg (fun z : Int32 => (.int z :: [] : List Value)) (nI_or (neP N (N (27 + j)) k) (2 ^ k))) rfl ?_
        refine WP.run (pc' := 101) (L' := [.ref 0, .int (nI j), .int (nI ((neP N (N (27 + j)) k) ||| (2 ^ k))), .int (nI k), .int (nI (2 ^ k))]) (st' := []) (I1 := I) 1 rfl ?_
        refine WP.run (pc' := 104) (L' := [.ref 0, .int (nI j), .int (nI ((neP N (N (27 + j)) k) ||| (2 ^ k))), .int ((nI k) + nI 1), .int (nI (2 ^ k))]) (st' := []) (I1 := I) 1 rfl ?_
        refine WP.cg (L' := [.ref 0, .int (nI j), .int (nI ((neP N (N (27 + j)) k) ||| (2 ^ k))), .int (nI (k + 1)), .int (nI (2 ^ k))]) (congrArg (fun z : Int32 => ([.ref 0, .int (nI j), .int (nI ((neP N (N (27 + j)) k) ||| (2 ^ k))), .int z, .int (nI (2 ^ k))] : List Value)) (nI_add k 1)) rfl rfl ?_
        refine WP.run (pc' := 44) (L' := [.ref 0, .int (nI j), .int (nI ((neP N (N (27 + j)) k) ||| (2 ^ k))), .int (nI (k + 1)), .int (nI (2 ^ k))]) (st' := []) (I1 := I) 1 rfl ?_
        refine WP.cg (L' := [.ref 0, .int (nI j), .int (nI (neP N (N (27 + j)) (k + 1))), .int (nI (k + 1)), .int (nI (2 ^ k))]) (congrArg (fun z : Nat => ([.ref 0, .int (nI j), .int (nI z), .int (nI (k + 1)), .int (nI (2 ^ k))] : List Value)) (by have := neP_lt N (N (27 + j)) k; show _ = neP N (N (27 + j)) k + _; rw [if_pos ⟨by assumption, by assumption⟩, or_pow this])) rfl rfl (ih (by omega) _)
set_option maxRecDepth 100000 in
theorem cs_needed {d : Nat} {I : Pl} {N : Nat → Nat} {x : Int32} (hT : Tw I 247 N) (hN : TI N)  : Ev (d + 4) 103 [.ref 0, .int x] (mem I) (some (.int (aNeeded N x))) (mem I) := by
  obtain ⟨b0, b1, b2, b3, b4, b5, b6, b7, b8, bS, bC, bS1, bC1, bZ, bG⟩ := id hN
  obtain ⟨s6, s7, s64⟩ := hN.set64
  refine Ev.only (EvX.enter rfl rfl rfl ?_)
  refine WP.run (pc' := 5) (L' := [.ref 0, .int x, UU, UU, UU]) (st' := [.int x, .ref 247]) (I1 := I) 3 rfl ?_
  refine WP.callB (rest := []) rfl rfl (sp_isClimber (d := d + 2) (x := x) hT hN) (fun h1 => ?_) (fun h1 => ?_)
  · refine WP.run (pc' := 14) (L' := [.ref 0, .int x, UU, UU, UU]) (st' := []) (I1 := I) 1 rfl ?_
    have hx_j : inA x (N 3) := (by assumption)
    obtain ⟨j, hj, rfl⟩ := inA_of hx_j (by omega)
    refine WP.run (pc' := 26) (L' := [.ref 0, .int (nI j), UU, UU, UU]) (st' := [.int (I 247 5), .int (nI j), .ref 247]) (I1 := I) 6 rfl ?_
    refine WP.cg (st' := [.int (nI (N 6)), .int (nI j), .ref 247]) rfl (congrArg (fun z : Int32 => (.int z :: [.int (nI j), .ref 247] : List Value)) (hT.f5)) rfl ?_
    refine WP.callB (rest := []) rfl rfl (sp_isBorne (d := d) (c := j) (m := N 6) hT hN (by omega) (by omega)) (fun h2 => ?_) (fun h2 => ?_)
    · refine WP.run (pc' := 44) (L' := [.ref 0, .int (nI j), .int (nI 0), .int (nI 0), UU]) (st' := []) (I1 := I) 5 rfl ?_
      unfold aNeeded
      rw [nOf_nI (by omega), if_pos (by assumption), if_pos (by assumption)]
      exact lc_needed hT hN hj 0 (Nat.zero_le _) _
    · refine WP.run (pc' := 39) (L' := [.ref 0, .int (nI j), UU, UU, UU]) (st' := [.int (I 247 5)]) (I1 := I) 4 rfl ?_
      refine WP.cg (st' := [.int (nI (N 6))]) rfl (congrArg (fun z : Int32 => (.int z :: [] : List Value)) (hT.f5)) rfl ?_
      exact WP.ret rfl rfl (⟨by (unfold aNeeded; (repeat rw [nOf_nI (by omega)]); (repeat first | rw [if_pos (by first | assumption | omega | (refine inA_iff.mpr ?_; omega) | (intro q; have q2 := inA_iff.mp q; omega) | (intro q; omega) | (refine ⟨?_, ?_⟩ <;> rw [nI_int (by omega)] <;> omega) | (rw [nI_int (by omega)]; omega) | (intro q; rw [nI_int (by omega)] at q; omega) | (refine ⟨?_, ?_, ?_⟩ <;> omega) | (intro q; obtain ⟨q1, q2, q3⟩ := q; omega) | fail)] | rw [if_neg (by first | assumption | omega | (refine inA_iff.mpr ?_; omega) | (intro q; have q2 := inA_iff.mp q; omega) | (intro q; omega) | (refine ⟨?_, ?_⟩ <;> rw [nI_int (by omega)] <;> omega) | (rw [nI_int (by omega)]; omega) | (intro q; rw [nI_int (by omega)] at q; omega) | (refine ⟨?_, ?_, ?_⟩ <;> omega) | (intro q; obtain ⟨q1, q2, q3⟩ := q; omega) | fail)])) <;> rfl, rfl⟩)
  · refine WP.run (pc' := 13) (L' := [.ref 0, .int x, UU, UU, UU]) (st' := [.int (-1000001)]) (I1 := I) 2 rfl ?_
    exact WP.ret rfl rfl (⟨by (unfold aNeeded; (repeat rw [nOf_nI (by omega)]); (repeat first | rw [if_pos (by first | assumption | omega | (refine inA_iff.mpr ?_; omega) | (intro q; have q2 := inA_iff.mp q; omega) | (intro q; omega) | (refine ⟨?_, ?_⟩ <;> rw [nI_int (by omega)] <;> omega) | (rw [nI_int (by omega)]; omega) | (intro q; rw [nI_int (by omega)] at q; omega) | (refine ⟨?_, ?_, ?_⟩ <;> omega) | (intro q; obtain ⟨q1, q2, q3⟩ := q; omega) | fail)] | rw [if_neg (by first | assumption | omega | (refine inA_iff.mpr ?_; omega) | (intro q; have q2 := inA_iff.mp q; omega) | (intro q; omega) | (refine ⟨?_, ?_⟩ <;> rw [nI_int (by omega)] <;> omega) | (rw [nI_int (by omega)]; omega) | (intro q; rw [nI_int (by omega)] at q; omega) | (refine ⟨?_, ?_, ?_⟩ <;> omega) | (intro q; obtain ⟨q1, q2, q3⟩ := q; omega) | fail)])) <;> rfl, rfl⟩)
set_option maxRecDepth 100000 in
theorem lc_cut {d : Nat} {I : Pl} {N : Nat → Nat} (hT : Tw I 247 N) (hN : TI N) : ∀ k, k ≤ 9 → WP (d + 1) (105, 6, (some .int), sc0) 36 ([.ref 0, .int ((nI (min (N 1 + 200) (cmP N k))) - (nI 200)), .int (nI k)]) [] I (fun v J => v = some (.int (if min (N 1 + 200) (cmP N 9) < 200 then -1000000 else nI (min (N 1 + 200) (cmP N 9) - 200))) ∧ J = I) := by
  refine loopUp (fun k hk ih => ?_)
  obtain ⟨b0, b1, b2, b3, b4, b5, b6, b7, b8, bS, bC, bS1, bC1, bZ, bG⟩ := id hN
  have hml : min (N 1 + 200) (cmP N k) ≤ 300 := Nat.le_trans (Nat.min_le_left _ _) (by omega)
  have hdl := dueN_lt (n := N 4 + k) hN
  refine WP.run (pc' := if (nI 9) ≤ (nI k) then 81 else 42) (L' := [.ref 0, .int ((nI (min (N 1 + 200) (cmP N k))) - (nI 200)), .int (nI k)]) (st' := []) (I1 := I) 3 rfl ?_
  refine WP.br (fun h1 => ?_) (fun h1 => ?_)
  · have h1 : 9 ≤ k := nI_le_ (by omega) (by omega) h1
    rw [show (9 : Nat) = k by omega]
    refine WP.run (pc' := if (0 : Int32) ≤ (nI (min (N 1 + 200) (cmP N k)) - nI 200) then 90 else 85) (L' := [.ref 0, .int ((nI (min (N 1 + 200) (cmP N k))) - (nI 200)), .int (nI k)]) (st' := []) (I1 := I) 2 rfl ?_
    refine WP.br (fun h1 => ?_) (fun h1 => ?_)
    · have h1 := (le_sub_ (a := 0) (by omega) (by omega) (by omega)).mp h1
      rw [if_neg (by omega)]
      refine WP.run (pc' := 91) (L' := [.ref 0, .int ((nI (min (N 1 + 200) (cmP N k))) - (nI 200)), .int (nI k)]) (st' := [.int ((nI (min (N 1 + 200) (cmP N k))) - (nI 200))]) (I1 := I) 1 rfl ?_
      exact WP.ret rfl rfl (⟨by rw [pk_sub (by omega)], rfl⟩)
    · have h1 : ¬ _ := fun q => h1 ((le_sub_ (a := 0) (by omega) (by omega) (by omega)).mpr q)
      rw [if_pos (by omega)]
      refine WP.run (pc' := 91) (L' := [.ref 0, .int ((nI (min (N 1 + 200) (cmP N k))) - (nI 200)), .int (nI k)]) (st' := [.int (-1000000)]) (I1 := I) 2 rfl ?_
      exact WP.ret rfl rfl (⟨rfl, rfl⟩)
  · have h1 : ¬ 9 ≤ k := fun q => h1 (nI_le_r (by omega) q)
    refine WP.run (pc' := 47) (L' := [.ref 0, .int ((nI (min (N 1 + 200) (cmP N k))) - (nI 200)), .int (nI k)]) (st' := [.int (nI k), .ref 247]) (I1 := I) 3 rfl ?_
    refine WP.callV (rest := []) rfl rfl (sp_dueIn (d := d) (n := k) hT hN (by omega)) ?_
    refine WP.run (pc' := if (nI (dueN N (N 4 + k))) = 0 then 75 else 53) (L' := [.ref 0, .int ((nI (min (N 1 + 200) (cmP N k))) - (nI 200)), .int (nI k)]) (st' := []) (I1 := I) 1 rfl ?_
    refine WP.br (fun h2 => ?_) (fun h2 => ?_)
    · have h2 : dueN N (N 4 + k) = 0 := nI_eq_ (by omega) (by omega) h2
      refine WP.run (pc' := 78) (L' := [.ref 0, .int ((nI (min (N 1 + 200) (cmP N k))) - (nI 200)), .int ((nI k) + nI 1)]) (st' := []) (I1 := I) 1 rfl ?_
      refine WP.cg (L' := [.ref 0, .int ((nI (min (N 1 + 200) (cmP N k))) - (nI 200)), .int (nI (k + 1))]) (congrArg (fun z : Int32 => ([.ref 0, .int ((nI (min (N 1 + 200) (cmP N k))) - (nI 200)), .int z] : List Value)) (nI_add k 1)) rfl rfl ?_
      refine WP.run (pc' := 36) (L' := [.ref 0, .int ((nI (min (N 1 + 200) (cmP N k))) - (nI 200)), .int (nI (k + 1))]) (st' := []) (I1 := I) 1 rfl ?_
      refine WP.cg (L' := [.ref 0, .int ((nI (min (N 1 + 200) (cmP N (k + 1)))) - (nI 200)), .int (nI (k + 1))]) (congrArg (fun z : Nat => ([.ref 0, .int ((nI z) - (nI 200)), .int (nI (k + 1))] : List Value)) (by rw [show cmP N (k + 1) = _ from if_pos (by assumption)])) rfl rfl (ih (by omega))
    · have h2 : ¬ dueN N (N 4 + k) = 0 := fun q => h2 (nI_eq_r q)
      refine WP.run (pc' := 61) (L' := [.ref 0, .int ((nI (min (N 1 + 200) (cmP N k))) - (nI 200)), .int (nI k)]) (st' := [.int (I 247 2), .int ((nI (min (N 1 + 200) (cmP N k))) - (nI 200))]) (I1 := I) 4 rfl ?_
      refine WP.cg (st' := [.int (nI (N 1)), .int ((nI (min (N 1 + 200) (cmP N k))) - (nI 200))]) rfl (congrArg (fun z : Int32 => (.int z :: [.int ((nI (min (N 1 + 200) (cmP N k))) - (nI 200))] : List Value)) (hT.f2)) rfl ?_
      refine WP.run (pc' := 63) (L' := [.ref 0, .int ((nI (min (N 1 + 200) (cmP N k))) - (nI 200)), .int (nI k)]) (st' := [.int ((nI (N 1)) + (nI k)), .int ((nI (min (N 1 + 200) (cmP N k))) - (nI 200))]) (I1 := I) 2 rfl ?_
      refine WP.cg (st' := [.int (nI ((N 1) + k)), .int ((nI (min (N 1 + 200) (cmP N k))) - (nI 200))]) rfl (congrArg (fun z : Int32 => (.int z :: [.int ((nI (min (N 1 + 200) (cmP N k))) - (nI 200))] : List Value)) (nI_add (N 1) k)) rfl ?_
      refine WP.run (pc' := 70) (L' := [.ref 0, .int ((nI (min (N 1 + 200) (cmP N k))) - (nI 200)), .int (nI k)]) (st' := [.int (I 247 1), .int (nI ((N 1) + k)), .int ((nI (min (N 1 + 200) (cmP N k))) - (nI 200))]) (I1 := I) 3 rfl ?_
      refine WP.cg (st' := [.int (nI (N 0)), .int (nI ((N 1) + k)), .int ((nI (min (N 1 + 200) (cmP N k))) - (nI 200))]) rfl (congrArg (fun z : Int32 => (.int z :: [.int (nI ((N 1) + k)), .int ((nI (min (N 1 + 200) (cmP N k))) - (nI 200))] : List Value)) (hT.f1)) rfl ?_
      refine WP.run (pc' := 71) (L' := [.ref 0, .int ((nI (min (N 1 + 200) (cmP N k))) - (nI 200)), .int (nI k)]) (st' := [.int ((nI ((N 1) + k)) - (nI (N 0))), .int ((nI (min (N 1 + 200) (cmP N k))) - (nI 200))]) (I1 := I) 1 rfl ?_
      refine WP.cg (st' := [.int ((nI ((N 1) + k)) - (nI (N 0))), .int ((nI (min (N 1 + 200) (cmP N k))) - (nI 200))]) rfl (congrArg (fun z : Int32 => (.int z :: [.int ((nI (min (N 1 + 200) (cmP N k))) - (nI 200))] : List Value)) (rfl)) rfl ?_
      refine WP.callV (rest := []) rfl rfl (sp_minD (d := d) (p := min (N 1 + 200) (cmP N k)) (c := (N 1) + k) (w := N 0) (by omega) (by omega) (by omega)) ?_
      refine WP.run (pc' := 78) (L' := [.ref 0, .int ((nI (min (min (N 1 + 200) (cmP N k)) (((N 1) + k) + 200 - (N 0)))) - (nI 200)), .int ((nI k) + nI 1)]) (st' := []) (I1 := I) 2 rfl ?_
      refine WP.cg (L' := [.ref 0, .int ((nI (min (min (N 1 + 200) (cmP N k)) (((N 1) + k) + 200 - (N 0)))) - (nI 200)), .int (nI (k + 1))]) (congrArg (fun z : Int32 => ([.ref 0, .int ((nI (min (min (N 1 + 200) (cmP N k)) (((N 1) + k) + 200 - (N 0)))) - (nI 200)), .int z] : List Value)) (nI_add k 1)) rfl rfl ?_
      refine WP.run (pc' := 36) (L' := [.ref 0, .int ((nI (min (min (N 1 + 200) (cmP N k)) (((N 1) + k) + 200 - (N 0)))) - (nI 200)), .int (nI (k + 1))]) (st' := []) (I1 := I) 1 rfl ?_
      refine WP.cg (L' := [.ref 0, .int ((nI (min (N 1 + 200) (cmP N (k + 1)))) - (nI 200)), .int (nI (k + 1))]) (congrArg (fun z : Nat => ([.ref 0, .int ((nI z) - (nI 200)), .int (nI (k + 1))] : List Value)) (by rw [show cmP N (k + 1) = _ from if_neg (by assumption), Nat.min_assoc])) rfl rfl (ih (by omega))
set_option maxRecDepth 100000 in
theorem cs_cut {d : Nat} {I : Pl} {N : Nat → Nat} (hT : Tw I 247 N) (hN : TI N)  : Ev (d + 2) 105 [.ref 0] (mem I) (some (.int (aCut N))) (mem I) := by
  obtain ⟨b0, b1, b2, b3, b4, b5, b6, b7, b8, bS, bC, bS1, bC1, bZ, bG⟩ := id hN
  obtain ⟨s6, s7, s64⟩ := hN.set64
  refine Ev.only (EvX.enter rfl rfl rfl ?_)
  refine WP.run (pc' := 7) (L' := [.ref 0, UU, UU]) (st' := [.int (I 247 0)]) (I1 := I) 3 rfl ?_
  refine WP.cg (st' := [.int (nI (N 8))]) rfl (congrArg (fun z : Int32 => (.int z :: [] : List Value)) (hT.f0)) rfl ?_
  refine WP.run (pc' := if ¬ (nI (N 8)) = 0 then 13 else 10) (L' := [.ref 0, UU, UU]) (st' := []) (I1 := I) 1 rfl ?_
  refine WP.br (fun h1 => ?_) (fun h1 => ?_)
  · have h1 : ¬ N 8 = 0 := fun q => h1 (nI_eq_r q)
    refine WP.run (pc' := 20) (L' := [.ref 0, UU, UU]) (st' := [.int (I 247 8)]) (I1 := I) 3 rfl ?_
    refine WP.cg (st' := [.int (nI (N 3))]) rfl (congrArg (fun z : Int32 => (.int z :: [] : List Value)) (hT.f8)) rfl ?_
    refine WP.run (pc' := if ¬ (nI (N 3)) = 0 then 26 else 23) (L' := [.ref 0, UU, UU]) (st' := []) (I1 := I) 1 rfl ?_
    refine WP.br (fun h2 => ?_) (fun h2 => ?_)
    · have h2 : ¬ N 3 = 0 := fun q => h2 (nI_eq_r q)
      refine WP.run (pc' := 33) (L' := [.ref 0, UU, UU]) (st' := [.int (I 247 2)]) (I1 := I) 3 rfl ?_
      refine WP.cg (st' := [.int (nI (N 1))]) rfl (congrArg (fun z : Int32 => (.int z :: [] : List Value)) (hT.f2)) rfl ?_
      refine WP.run (pc' := 36) (L' := [.ref 0, .int (nI (N 1)), .int (nI 0)]) (st' := []) (I1 := I) 3 rfl ?_
      unfold aCut
      rw [if_neg (by assumption), if_neg (by assumption)]
      refine WP.cg (L' := [.ref 0, .int ((nI (min (N 1 + 200) (cmP N 0))) - (nI 200)), .int (nI 0)]) (by rw [show min (N 1 + 200) (cmP N 0) = N 1 + 200 from Nat.min_eq_left (by show _ ≤ 1000000000; omega), pk_sub (by omega), Nat.add_sub_cancel]) rfl rfl ?_
      exact lc_cut hT hN 0 (Nat.zero_le _)
    · have h2 : N 3 = 0 := nI_eq_ (by omega) (by omega) (Decidable.byContradiction h2)
      refine WP.run (pc' := 25) (L' := [.ref 0, UU, UU]) (st' := [.int (-1000000)]) (I1 := I) 1 rfl ?_
      exact WP.ret rfl rfl (⟨by (unfold aCut; (repeat rw [nOf_nI (by omega)]); (repeat first | rw [if_pos (by first | assumption | omega | (refine inA_iff.mpr ?_; omega) | (intro q; have q2 := inA_iff.mp q; omega) | (intro q; omega) | (refine ⟨?_, ?_⟩ <;> rw [nI_int (by omega)] <;> omega) | (rw [nI_int (by omega)]; omega) | (intro q; rw [nI_int (by omega)] at q; omega) | (refine ⟨?_, ?_, ?_⟩ <;> omega) | (intro q; obtain ⟨q1, q2, q3⟩ := q; omega) | fail)] | rw [if_neg (by first | assumption | omega | (refine inA_iff.mpr ?_; omega) | (intro q; have q2 := inA_iff.mp q; omega) | (intro q; omega) | (refine ⟨?_, ?_⟩ <;> rw [nI_int (by omega)] <;> omega) | (rw [nI_int (by omega)]; omega) | (intro q; rw [nI_int (by omega)] at q; omega) | (refine ⟨?_, ?_, ?_⟩ <;> omega) | (intro q; obtain ⟨q1, q2, q3⟩ := q; omega) | fail)])) <;> rfl, rfl⟩)
  · have h1 : N 8 = 0 := nI_eq_ (by omega) (by omega) (Decidable.byContradiction h1)
    refine WP.run (pc' := 12) (L' := [.ref 0, UU, UU]) (st' := [.int (-1000002)]) (I1 := I) 1 rfl ?_
    exact WP.ret rfl rfl (⟨by (unfold aCut; (repeat rw [nOf_nI (by omega)]); (repeat first | rw [if_pos (by first | assumption | omega | (refine inA_iff.mpr ?_; omega) | (intro q; have q2 := inA_iff.mp q; omega) | (intro q; omega) | (refine ⟨?_, ?_⟩ <;> rw [nI_int (by omega)] <;> omega) | (rw [nI_int (by omega)]; omega) | (intro q; rw [nI_int (by omega)] at q; omega) | (refine ⟨?_, ?_, ?_⟩ <;> omega) | (intro q; obtain ⟨q1, q2, q3⟩ := q; omega) | fail)] | rw [if_neg (by first | assumption | omega | (refine inA_iff.mpr ?_; omega) | (intro q; have q2 := inA_iff.mp q; omega) | (intro q; omega) | (refine ⟨?_, ?_⟩ <;> rw [nI_int (by omega)] <;> omega) | (rw [nI_int (by omega)]; omega) | (intro q; rw [nI_int (by omega)] at q; omega) | (refine ⟨?_, ?_, ?_⟩ <;> omega) | (intro q; obtain ⟨q1, q2, q3⟩ := q; omega) | fail)])) <;> rfl, rfl⟩)
set_option maxRecDepth 100000 in
theorem cs_storm {d : Nat} {I : Pl} {N : Nat → Nat} {x p w : Int32} (hT : Tw I 247 N) (hN : TI N)  : Ev (d + 5) 112 [.ref 0, .int x, .int p, .int w] (mem I) (some (.int (aStorm N x p w))) (mem I) := by
  obtain ⟨b0, b1, b2, b3, b4, b5, b6, b7, b8, bS, bC, bS1, bC1, bZ, bG⟩ := id hN
  obtain ⟨s6, s7, s64⟩ := hN.set64
  have hp6 := popc_le (N 6)
  have h10 : 10 ^ popc (N 6) ≤ 10 ^ 6 := Nat.pow_le_pow_right (by decide) hp6
  have h10p : 0 < 10 ^ popc (N 6) := Nat.pow_pos (by decide)
  refine Ev.only (EvX.enter rfl rfl rfl ?_)
  refine WP.run (pc' := 5) (L' := [.ref 0, .int x, .int p, .int w, UU, UU, UU]) (st' := [.int x, .ref 247]) (I1 := I) 3 rfl ?_
  refine WP.callB (rest := []) rfl rfl (sp_isClimber (d := d + 3) (x := x) hT hN) (fun h1 => ?_) (fun h1 => ?_)
  · refine WP.run (pc' := 11) (L' := [.ref 0, .int x, .int p, .int w, UU, UU, UU]) (st' := []) (I1 := I) 1 rfl ?_
    have hx_j : inA x (N 3) := (by assumption)
    obtain ⟨j, hj, rfl⟩ := inA_of hx_j (by omega)
    refine WP.run (pc' := if p < 0 then 30 else 15) (L' := [.ref 0, .int (nI j), .int p, .int w, UU, UU, UU]) (st' := []) (I1 := I) 2 rfl ?_
    refine WP.br (fun h2 => ?_) (fun h2 => ?_)
    · have h2 : p.toInt < 0 := (iLtZ).mp h2
      refine WP.run (pc' := 32) (L' := [.ref 0, .int (nI j), .int p, .int w, UU, UU, UU]) (st' := [.int (-1000001)]) (I1 := I) 1 rfl ?_
      exact WP.ret rfl rfl (⟨by (unfold aStorm qStorm; (repeat rw [nOf_nI (by omega)]); (repeat first | rw [if_pos (by first | assumption | omega | (refine inA_iff.mpr ?_; omega) | (intro q; have q2 := inA_iff.mp q; omega) | (intro q; omega) | (refine ⟨?_, ?_⟩ <;> rw [nI_int (by omega)] <;> omega) | (rw [nI_int (by omega)]; omega) | (intro q; rw [nI_int (by omega)] at q; omega) | (refine ⟨?_, ?_, ?_⟩ <;> omega) | (intro q; obtain ⟨q1, q2, q3⟩ := q; omega) | fail)] | rw [if_neg (by first | assumption | omega | (refine inA_iff.mpr ?_; omega) | (intro q; have q2 := inA_iff.mp q; omega) | (intro q; omega) | (refine ⟨?_, ?_⟩ <;> rw [nI_int (by omega)] <;> omega) | (rw [nI_int (by omega)]; omega) | (intro q; rw [nI_int (by omega)] at q; omega) | (refine ⟨?_, ?_, ?_⟩ <;> omega) | (intro q; obtain ⟨q1, q2, q3⟩ := q; omega) | fail)])) <;> rfl, rfl⟩)
    · have h2 : ¬ (p.toInt < 0) := fun q => h2 ((iLtZ).mpr q)
      refine WP.run (pc' := if (nI 10) < p then 30 else 21) (L' := [.ref 0, .int (nI j), .int p, .int w, UU, UU, UU]) (st' := []) (I1 := I) 3 rfl ?_
      refine WP.br (fun h3 => ?_) (fun h3 => ?_)
      · have h3 : 10 < p.toInt := (iGtL (n := 10) (by omega)).mp h3
        refine WP.run (pc' := 32) (L' := [.ref 0, .int (nI j), .int p, .int w, UU, UU, UU]) (st' := [.int (-1000001)]) (I1 := I) 1 rfl ?_
        exact WP.ret rfl rfl (⟨by (unfold aStorm qStorm; (repeat rw [nOf_nI (by omega)]); (repeat first | rw [if_pos (by first | assumption | omega | (refine inA_iff.mpr ?_; omega) | (intro q; have q2 := inA_iff.mp q; omega) | (intro q; omega) | (refine ⟨?_, ?_⟩ <;> rw [nI_int (by omega)] <;> omega) | (rw [nI_int (by omega)]; omega) | (intro q; rw [nI_int (by omega)] at q; omega) | (refine ⟨?_, ?_, ?_⟩ <;> omega) | (intro q; obtain ⟨q1, q2, q3⟩ := q; omega) | fail)] | rw [if_neg (by first | assumption | omega | (refine inA_iff.mpr ?_; omega) | (intro q; have q2 := inA_iff.mp q; omega) | (intro q; omega) | (refine ⟨?_, ?_⟩ <;> rw [nI_int (by omega)] <;> omega) | (rw [nI_int (by omega)]; omega) | (intro q; rw [nI_int (by omega)] at q; omega) | (refine ⟨?_, ?_, ?_⟩ <;> omega) | (intro q; obtain ⟨q1, q2, q3⟩ := q; omega) | fail)])) <;> rfl, rfl⟩)
      · have h3 : ¬ (10 < p.toInt) := fun q => h3 ((iGtL (n := 10) (by omega)).mpr q)
        refine WP.run (pc' := if w < 0 then 30 else 25) (L' := [.ref 0, .int (nI j), .int p, .int w, UU, UU, UU]) (st' := []) (I1 := I) 2 rfl ?_
        refine WP.br (fun h4 => ?_) (fun h4 => ?_)
        · have h4 : w.toInt < 0 := (iLtZ).mp h4
          refine WP.run (pc' := 32) (L' := [.ref 0, .int (nI j), .int p, .int w, UU, UU, UU]) (st' := [.int (-1000001)]) (I1 := I) 1 rfl ?_
          exact WP.ret rfl rfl (⟨by (unfold aStorm qStorm; (repeat rw [nOf_nI (by omega)]); (repeat first | rw [if_pos (by first | assumption | omega | (refine inA_iff.mpr ?_; omega) | (intro q; have q2 := inA_iff.mp q; omega) | (intro q; omega) | (refine ⟨?_, ?_⟩ <;> rw [nI_int (by omega)] <;> omega) | (rw [nI_int (by omega)]; omega) | (intro q; rw [nI_int (by omega)] at q; omega) | (refine ⟨?_, ?_, ?_⟩ <;> omega) | (intro q; obtain ⟨q1, q2, q3⟩ := q; omega) | fail)] | rw [if_neg (by first | assumption | omega | (refine inA_iff.mpr ?_; omega) | (intro q; have q2 := inA_iff.mp q; omega) | (intro q; omega) | (refine ⟨?_, ?_⟩ <;> rw [nI_int (by omega)] <;> omega) | (rw [nI_int (by omega)]; omega) | (intro q; rw [nI_int (by omega)] at q; omega) | (refine ⟨?_, ?_, ?_⟩ <;> omega) | (intro q; obtain ⟨q1, q2, q3⟩ := q; omega) | fail)])) <;> rfl, rfl⟩)
        · have h4 : ¬ (w.toInt < 0) := fun q => h4 ((iLtZ).mpr q)
          refine WP.run (pc' := if w ≤ (nI 1) then 33 else 30) (L' := [.ref 0, .int (nI j), .int p, .int w, UU, UU, UU]) (st' := []) (I1 := I) 3 rfl ?_
          refine WP.br (fun h5 => ?_) (fun h5 => ?_)
          · have h5 : w.toInt ≤ 1 := (iLeL (n := 1) (by omega)).mp h5
            have hx_m : inA p 11 := (by refine inA_iff.mpr ?_; omega)
            obtain ⟨m, hm, rfl⟩ := inA_of hx_m (by omega)
            rw [nI_int (by omega)] at *
            have hx_r : inA w 2 := (by refine inA_iff.mpr ?_; omega)
            obtain ⟨r, hr, rfl⟩ := inA_of hx_r (by omega)
            rw [nI_int (by omega)] at *
            refine WP.run (pc' := 39) (L' := [.ref 0, .int (nI j), .int (nI m), .int (nI r), UU, UU, UU]) (st' := [.int (nI m), .int (nI j), .ref 247]) (I1 := I) 4 rfl ?_
            refine WP.callV (rest := []) rfl rfl (sp_storm (d := d) (c := j) (p := m) hT hN (by omega) (by omega)) ?_
            have hst := stoP_le (N := N) (c := j) (p := m) (by omega) s6 63 (by omega)
            have hst2 : stoN N j m ≤ 63000000 := by unfold stoN; omega
            have hgp : 0 < Nat.gcd (stoN N j m) (10 ^ popc (N 6)) := Nat.gcd_pos_of_pos_right _ h10p
            have hgl : Nat.gcd (stoN N j m) (10 ^ popc (N 6)) ≤ 10 ^ popc (N 6) := Nat.gcd_le_right _ h10p
            refine WP.run (pc' := 53) (L' := [.ref 0, .int (nI j), .int (nI m), .int (nI r), .int (nI (stoN N j m)), UU, UU]) (st' := [.int (I 247 5), .int (nI 10)]) (I1 := I) 5 rfl ?_
            refine WP.cg (st' := [.int (nI (N 6)), .int (nI 10)]) rfl (congrArg (fun z : Int32 => (.int z :: [.int (nI 10)] : List Value)) (hT.f5)) rfl ?_
            refine WP.callV (rest := [.int (nI 10)]) rfl rfl (sp_bitCount (d := d + 3) (m := N 6) (by omega)) ?_
            refine WP.callV (rest := []) rfl rfl (sp_power (d := d + 3) (b := 10) (t := popc (N 6)) (by omega)) ?_
            refine WP.run (pc' := 65) (L' := [.ref 0, .int (nI j), .int (nI m), .int (nI r), .int (nI (stoN N j m)), .int (nI (10 ^ (popc (N 6)))), UU]) (st' := [.int (nI (10 ^ (popc (N 6)))), .int (nI (stoN N j m))]) (I1 := I) 3 rfl ?_
            refine WP.callV (rest := []) rfl rfl (sp_gcd (d := d + 3) (a := stoN N j m) (b := 10 ^ (popc (N 6))) (by omega) (by omega)) ?_
            refine WP.run (pc' := if ¬ (nI (Nat.gcd (stoN N j m) (10 ^ (popc (N 6))))) = 0 then 78 else 75) (L' := [.ref 0, .int (nI j), .int (nI m), .int (nI r), .int (nI (stoN N j m)), .int (nI (10 ^ (popc (N 6)))), .int (nI (Nat.gcd (stoN N j m) (10 ^ (popc (N 6)))))]) (st' := []) (I1 := I) 3 rfl ?_
            refine WP.brT (nI_n0 hgp (by omega)) ?_
            refine WP.run (pc' := if ¬ (nI r) = 0 then 90 else 82) (L' := [.ref 0, .int (nI j), .int (nI m), .int (nI r), .int (nI (stoN N j m)), .int (nI (10 ^ (popc (N 6)))), .int (nI (Nat.gcd (stoN N j m) (10 ^ (popc (N 6)))))]) (st' := []) (I1 := I) 2 rfl ?_
            refine WP.br (fun h6 => ?_) (fun h6 => ?_)
            · have h6 : ¬ r = 0 := fun q => h6 (nI_eq_r q)
              refine WP.run (pc' := 94) (L' := [.ref 0, .int (nI j), .int (nI m), .int (nI r), .int (nI (stoN N j m)), .int (nI (10 ^ (popc (N 6)))), .int (nI (Nat.gcd (stoN N j m) (10 ^ (popc (N 6)))))]) (st' := [.int (nI (Nat.gcd (stoN N j m) (10 ^ (popc (N 6))))), .int (nI (10 ^ (popc (N 6))))]) (I1 := I) 2 rfl ?_
              refine WP.idiv (a := 10 ^ (popc (N 6))) (b := Nat.gcd (stoN N j m) (10 ^ (popc (N 6)))) rfl (by omega) (by omega) (by omega) ?_
              have hdv7 : (10 ^ (popc (N 6))) / (Nat.gcd (stoN N j m) (10 ^ (popc (N 6)))) ≤ (10 ^ (popc (N 6))) := Nat.div_le_self _ _
              exact WP.ret rfl rfl (⟨by (unfold aStorm qStorm; (repeat rw [nOf_nI (by omega)]); (repeat first | rw [if_pos (by first | assumption | omega | (refine inA_iff.mpr ?_; omega) | (intro q; have q2 := inA_iff.mp q; omega) | (intro q; omega) | (refine ⟨?_, ?_⟩ <;> rw [nI_int (by omega)] <;> omega) | (rw [nI_int (by omega)]; omega) | (intro q; rw [nI_int (by omega)] at q; omega) | (refine ⟨?_, ?_, ?_⟩ <;> omega) | (intro q; obtain ⟨q1, q2, q3⟩ := q; omega) | fail)] | rw [if_neg (by first | assumption | omega | (refine inA_iff.mpr ?_; omega) | (intro q; have q2 := inA_iff.mp q; omega) | (intro q; omega) | (refine ⟨?_, ?_⟩ <;> rw [nI_int (by omega)] <;> omega) | (rw [nI_int (by omega)]; omega) | (intro q; rw [nI_int (by omega)] at q; omega) | (refine ⟨?_, ?_, ?_⟩ <;> omega) | (intro q; obtain ⟨q1, q2, q3⟩ := q; omega) | fail)])) <;> rfl, rfl⟩)
            · have h6 : r = 0 := nI_eq_ (by omega) (by omega) (Decidable.byContradiction h6)
              refine WP.run (pc' := 86) (L' := [.ref 0, .int (nI j), .int (nI m), .int (nI r), .int (nI (stoN N j m)), .int (nI (10 ^ (popc (N 6)))), .int (nI (Nat.gcd (stoN N j m) (10 ^ (popc (N 6)))))]) (st' := [.int (nI (Nat.gcd (stoN N j m) (10 ^ (popc (N 6))))), .int (nI (stoN N j m))]) (I1 := I) 2 rfl ?_
              refine WP.idiv (a := stoN N j m) (b := Nat.gcd (stoN N j m) (10 ^ (popc (N 6)))) rfl (by omega) (by omega) (by omega) ?_
              have hdv8 : (stoN N j m) / (Nat.gcd (stoN N j m) (10 ^ (popc (N 6)))) ≤ (stoN N j m) := Nat.div_le_self _ _
              refine WP.run (pc' := 95) (L' := [.ref 0, .int (nI j), .int (nI m), .int (nI r), .int (nI (stoN N j m)), .int (nI (10 ^ (popc (N 6)))), .int (nI (Nat.gcd (stoN N j m) (10 ^ (popc (N 6)))))]) (st' := [.int (nI ((stoN N j m) / (Nat.gcd (stoN N j m) (10 ^ (popc (N 6))))))]) (I1 := I) 1 rfl ?_
              exact WP.ret rfl rfl (⟨by (unfold aStorm qStorm; (repeat rw [nOf_nI (by omega)]); (repeat first | rw [if_pos (by first | assumption | omega | (refine inA_iff.mpr ?_; omega) | (intro q; have q2 := inA_iff.mp q; omega) | (intro q; omega) | (refine ⟨?_, ?_⟩ <;> rw [nI_int (by omega)] <;> omega) | (rw [nI_int (by omega)]; omega) | (intro q; rw [nI_int (by omega)] at q; omega) | (refine ⟨?_, ?_, ?_⟩ <;> omega) | (intro q; obtain ⟨q1, q2, q3⟩ := q; omega) | fail)] | rw [if_neg (by first | assumption | omega | (refine inA_iff.mpr ?_; omega) | (intro q; have q2 := inA_iff.mp q; omega) | (intro q; omega) | (refine ⟨?_, ?_⟩ <;> rw [nI_int (by omega)] <;> omega) | (rw [nI_int (by omega)]; omega) | (intro q; rw [nI_int (by omega)] at q; omega) | (refine ⟨?_, ?_, ?_⟩ <;> omega) | (intro q; obtain ⟨q1, q2, q3⟩ := q; omega) | fail)])) <;> rfl, rfl⟩)
          · have h5 : ¬ (w.toInt ≤ 1) := fun q => h5 ((iLeL (n := 1) (by omega)).mpr q)
            refine WP.run (pc' := 32) (L' := [.ref 0, .int (nI j), .int p, .int w, UU, UU, UU]) (st' := [.int (-1000001)]) (I1 := I) 1 rfl ?_
            exact WP.ret rfl rfl (⟨by (unfold aStorm qStorm; (repeat rw [nOf_nI (by omega)]); (repeat first | rw [if_pos (by first | assumption | omega | (refine inA_iff.mpr ?_; omega) | (intro q; have q2 := inA_iff.mp q; omega) | (intro q; omega) | (refine ⟨?_, ?_⟩ <;> rw [nI_int (by omega)] <;> omega) | (rw [nI_int (by omega)]; omega) | (intro q; rw [nI_int (by omega)] at q; omega) | (refine ⟨?_, ?_, ?_⟩ <;> omega) | (intro q; obtain ⟨q1, q2, q3⟩ := q; omega) | fail)] | rw [if_neg (by first | assumption | omega | (refine inA_iff.mpr ?_; omega) | (intro q; have q2 := inA_iff.mp q; omega) | (intro q; omega) | (refine ⟨?_, ?_⟩ <;> rw [nI_int (by omega)] <;> omega) | (rw [nI_int (by omega)]; omega) | (intro q; rw [nI_int (by omega)] at q; omega) | (refine ⟨?_, ?_, ?_⟩ <;> omega) | (intro q; obtain ⟨q1, q2, q3⟩ := q; omega) | fail)])) <;> rfl, rfl⟩)
  · refine WP.run (pc' := 32) (L' := [.ref 0, .int x, .int p, .int w, UU, UU, UU]) (st' := [.int (-1000001)]) (I1 := I) 2 rfl ?_
    exact WP.ret rfl rfl (⟨by (unfold aStorm qStorm; (repeat rw [nOf_nI (by omega)]); (repeat first | rw [if_pos (by first | assumption | omega | (refine inA_iff.mpr ?_; omega) | (intro q; have q2 := inA_iff.mp q; omega) | (intro q; omega) | (refine ⟨?_, ?_⟩ <;> rw [nI_int (by omega)] <;> omega) | (rw [nI_int (by omega)]; omega) | (intro q; rw [nI_int (by omega)] at q; omega) | (refine ⟨?_, ?_, ?_⟩ <;> omega) | (intro q; obtain ⟨q1, q2, q3⟩ := q; omega) | fail)] | rw [if_neg (by first | assumption | omega | (refine inA_iff.mpr ?_; omega) | (intro q; have q2 := inA_iff.mp q; omega) | (intro q; omega) | (refine ⟨?_, ?_⟩ <;> rw [nI_int (by omega)] <;> omega) | (rw [nI_int (by omega)]; omega) | (intro q; rw [nI_int (by omega)] at q; omega) | (refine ⟨?_, ?_, ?_⟩ <;> omega) | (intro q; obtain ⟨q1, q2, q3⟩ := q; omega) | fail)])) <;> rfl, rfl⟩)
set_option maxRecDepth 100000 in
theorem cs_count {d : Nat} {I : Pl} {N : Nat → Nat} {w : Int32} (hT : Tw I 247 N) (hN : TI N) {m n : Nat} (hm : I 31 2 = nI m) (hn : I 13 3 = nI n) : Ev (d + 2) 121 [.ref 0, .int w] (mem I) (some (.int (aCount N (hmN I 8) m n w))) (mem I) := by
  obtain ⟨b0, b1, b2, b3, b4, b5, b6, b7, b8, bS, bC, bS1, bC1, bZ, bG⟩ := id hN
  obtain ⟨s6, s7, s64⟩ := hN.set64
  refine Ev.only (EvX.enter rfl rfl rfl ?_)
  refine WP.run (pc' := 1) (L' := [.ref 0, .int w]) (st' := [.int w]) (I1 := I) 1 rfl ?_
  by_cases hw : inA w 10
  · obtain ⟨w1, hw1, rfl⟩ := inA_of hw (by decide)
    have hsw : w1 = 0 ∨ w1 = 1 ∨ w1 = 2 ∨ w1 = 3 ∨ w1 = 4 ∨ w1 = 5 ∨ w1 = 6 ∨ w1 = 7 ∨ w1 = 8 ∨ w1 = 9 := by omega
    rcases hsw with rfl | rfl | rfl | rfl | rfl | rfl | rfl | rfl | rfl | rfl
    · refine WP.run (pc' := 56) (L' := [.ref 0, .int (nI 0)]) (st' := []) (I1 := I) 1 rfl ?_
      refine WP.run (pc' := 60) (L' := [.ref 0, .int (nI 0)]) (st' := [.ref 1]) (I1 := I) 2 rfl ?_
      refine WP.callV (rest := []) rfl rfl (sp_howMany (d := d)) ?_
      exact WP.ret rfl rfl (⟨by (unfold aCount qCount; (repeat rw [nOf_nI (by omega)]); (repeat first | rw [if_pos (by first | assumption | omega | (refine inA_iff.mpr ?_; omega) | (intro q; have q2 := inA_iff.mp q; omega) | (intro q; omega) | (refine ⟨?_, ?_⟩ <;> rw [nI_int (by omega)] <;> omega) | (rw [nI_int (by omega)]; omega) | (intro q; rw [nI_int (by omega)] at q; omega) | (refine ⟨?_, ?_, ?_⟩ <;> omega) | (intro q; obtain ⟨q1, q2, q3⟩ := q; omega) | fail)] | rw [if_neg (by first | assumption | omega | (refine inA_iff.mpr ?_; omega) | (intro q; have q2 := inA_iff.mp q; omega) | (intro q; omega) | (refine ⟨?_, ?_⟩ <;> rw [nI_int (by omega)] <;> omega) | (rw [nI_int (by omega)]; omega) | (intro q; rw [nI_int (by omega)] at q; omega) | (refine ⟨?_, ?_, ?_⟩ <;> omega) | (intro q; obtain ⟨q1, q2, q3⟩ := q; omega) | fail)])) <;> rfl, rfl⟩)
    · refine WP.run (pc' := 64) (L' := [.ref 0, .int (nI 1)]) (st' := []) (I1 := I) 1 rfl ?_
      refine WP.run (pc' := 71) (L' := [.ref 0, .int (nI 1)]) (st' := [.int (I 247 7)]) (I1 := I) 3 rfl ?_
      refine WP.cg (st' := [.int (nI (N 2))]) rfl (congrArg (fun z : Int32 => (.int z :: [] : List Value)) (hT.f7)) rfl ?_
      exact WP.ret rfl rfl (⟨by (unfold aCount qCount; (repeat rw [nOf_nI (by omega)]); (repeat first | rw [if_pos (by first | assumption | omega | (refine inA_iff.mpr ?_; omega) | (intro q; have q2 := inA_iff.mp q; omega) | (intro q; omega) | (refine ⟨?_, ?_⟩ <;> rw [nI_int (by omega)] <;> omega) | (rw [nI_int (by omega)]; omega) | (intro q; rw [nI_int (by omega)] at q; omega) | (refine ⟨?_, ?_, ?_⟩ <;> omega) | (intro q; obtain ⟨q1, q2, q3⟩ := q; omega) | fail)] | rw [if_neg (by first | assumption | omega | (refine inA_iff.mpr ?_; omega) | (intro q; have q2 := inA_iff.mp q; omega) | (intro q; omega) | (refine ⟨?_, ?_⟩ <;> rw [nI_int (by omega)] <;> omega) | (rw [nI_int (by omega)]; omega) | (intro q; rw [nI_int (by omega)] at q; omega) | (refine ⟨?_, ?_, ?_⟩ <;> omega) | (intro q; obtain ⟨q1, q2, q3⟩ := q; omega) | fail)])) <;> rfl, rfl⟩)
    · refine WP.run (pc' := 72) (L' := [.ref 0, .int (nI 2)]) (st' := []) (I1 := I) 1 rfl ?_
      refine WP.run (pc' := 79) (L' := [.ref 0, .int (nI 2)]) (st' := [.int (I 247 8)]) (I1 := I) 3 rfl ?_
      refine WP.cg (st' := [.int (nI (N 3))]) rfl (congrArg (fun z : Int32 => (.int z :: [] : List Value)) (hT.f8)) rfl ?_
      exact WP.ret rfl rfl (⟨by (unfold aCount qCount; (repeat rw [nOf_nI (by omega)]); (repeat first | rw [if_pos (by first | assumption | omega | (refine inA_iff.mpr ?_; omega) | (intro q; have q2 := inA_iff.mp q; omega) | (intro q; omega) | (refine ⟨?_, ?_⟩ <;> rw [nI_int (by omega)] <;> omega) | (rw [nI_int (by omega)]; omega) | (intro q; rw [nI_int (by omega)] at q; omega) | (refine ⟨?_, ?_, ?_⟩ <;> omega) | (intro q; obtain ⟨q1, q2, q3⟩ := q; omega) | fail)] | rw [if_neg (by first | assumption | omega | (refine inA_iff.mpr ?_; omega) | (intro q; have q2 := inA_iff.mp q; omega) | (intro q; omega) | (refine ⟨?_, ?_⟩ <;> rw [nI_int (by omega)] <;> omega) | (rw [nI_int (by omega)]; omega) | (intro q; rw [nI_int (by omega)] at q; omega) | (refine ⟨?_, ?_, ?_⟩ <;> omega) | (intro q; obtain ⟨q1, q2, q3⟩ := q; omega) | fail)])) <;> rfl, rfl⟩)
    · refine WP.run (pc' := 80) (L' := [.ref 0, .int (nI 3)]) (st' := []) (I1 := I) 1 rfl ?_
      refine WP.run (pc' := 87) (L' := [.ref 0, .int (nI 3)]) (st' := [.int (I 247 3)]) (I1 := I) 3 rfl ?_
      refine WP.cg (st' := [.int (nI (N 4))]) rfl (congrArg (fun z : Int32 => (.int z :: [] : List Value)) (hT.f3)) rfl ?_
      exact WP.ret rfl rfl (⟨by (unfold aCount qCount; (repeat rw [nOf_nI (by omega)]); (repeat first | rw [if_pos (by first | assumption | omega | (refine inA_iff.mpr ?_; omega) | (intro q; have q2 := inA_iff.mp q; omega) | (intro q; omega) | (refine ⟨?_, ?_⟩ <;> rw [nI_int (by omega)] <;> omega) | (rw [nI_int (by omega)]; omega) | (intro q; rw [nI_int (by omega)] at q; omega) | (refine ⟨?_, ?_, ?_⟩ <;> omega) | (intro q; obtain ⟨q1, q2, q3⟩ := q; omega) | fail)] | rw [if_neg (by first | assumption | omega | (refine inA_iff.mpr ?_; omega) | (intro q; have q2 := inA_iff.mp q; omega) | (intro q; omega) | (refine ⟨?_, ?_⟩ <;> rw [nI_int (by omega)] <;> omega) | (rw [nI_int (by omega)]; omega) | (intro q; rw [nI_int (by omega)] at q; omega) | (refine ⟨?_, ?_, ?_⟩ <;> omega) | (intro q; obtain ⟨q1, q2, q3⟩ := q; omega) | fail)])) <;> rfl, rfl⟩)
    · refine WP.run (pc' := 88) (L' := [.ref 0, .int (nI 4)]) (st' := []) (I1 := I) 1 rfl ?_
      refine WP.run (pc' := 95) (L' := [.ref 0, .int (nI 4)]) (st' := [.int (I 247 1)]) (I1 := I) 3 rfl ?_
      refine WP.cg (st' := [.int (nI (N 0))]) rfl (congrArg (fun z : Int32 => (.int z :: [] : List Value)) (hT.f1)) rfl ?_
      exact WP.ret rfl rfl (⟨by (unfold aCount qCount; (repeat rw [nOf_nI (by omega)]); (repeat first | rw [if_pos (by first | assumption | omega | (refine inA_iff.mpr ?_; omega) | (intro q; have q2 := inA_iff.mp q; omega) | (intro q; omega) | (refine ⟨?_, ?_⟩ <;> rw [nI_int (by omega)] <;> omega) | (rw [nI_int (by omega)]; omega) | (intro q; rw [nI_int (by omega)] at q; omega) | (refine ⟨?_, ?_, ?_⟩ <;> omega) | (intro q; obtain ⟨q1, q2, q3⟩ := q; omega) | fail)] | rw [if_neg (by first | assumption | omega | (refine inA_iff.mpr ?_; omega) | (intro q; have q2 := inA_iff.mp q; omega) | (intro q; omega) | (refine ⟨?_, ?_⟩ <;> rw [nI_int (by omega)] <;> omega) | (rw [nI_int (by omega)]; omega) | (intro q; rw [nI_int (by omega)] at q; omega) | (refine ⟨?_, ?_, ?_⟩ <;> omega) | (intro q; obtain ⟨q1, q2, q3⟩ := q; omega) | fail)])) <;> rfl, rfl⟩)
    · refine WP.run (pc' := 96) (L' := [.ref 0, .int (nI 5)]) (st' := []) (I1 := I) 1 rfl ?_
      refine WP.run (pc' := 103) (L' := [.ref 0, .int (nI 5)]) (st' := [.int (I 247 2)]) (I1 := I) 3 rfl ?_
      refine WP.cg (st' := [.int (nI (N 1))]) rfl (congrArg (fun z : Int32 => (.int z :: [] : List Value)) (hT.f2)) rfl ?_
      exact WP.ret rfl rfl (⟨by (unfold aCount qCount; (repeat rw [nOf_nI (by omega)]); (repeat first | rw [if_pos (by first | assumption | omega | (refine inA_iff.mpr ?_; omega) | (intro q; have q2 := inA_iff.mp q; omega) | (intro q; omega) | (refine ⟨?_, ?_⟩ <;> rw [nI_int (by omega)] <;> omega) | (rw [nI_int (by omega)]; omega) | (intro q; rw [nI_int (by omega)] at q; omega) | (refine ⟨?_, ?_, ?_⟩ <;> omega) | (intro q; obtain ⟨q1, q2, q3⟩ := q; omega) | fail)] | rw [if_neg (by first | assumption | omega | (refine inA_iff.mpr ?_; omega) | (intro q; have q2 := inA_iff.mp q; omega) | (intro q; omega) | (refine ⟨?_, ?_⟩ <;> rw [nI_int (by omega)] <;> omega) | (rw [nI_int (by omega)]; omega) | (intro q; rw [nI_int (by omega)] at q; omega) | (refine ⟨?_, ?_, ?_⟩ <;> omega) | (intro q; obtain ⟨q1, q2, q3⟩ := q; omega) | fail)])) <;> rfl, rfl⟩)
    · refine WP.run (pc' := 104) (L' := [.ref 0, .int (nI 6)]) (st' := []) (I1 := I) 1 rfl ?_
      refine WP.run (pc' := 111) (L' := [.ref 0, .int (nI 6)]) (st' := [.int (I 247 4)]) (I1 := I) 3 rfl ?_
      refine WP.cg (st' := [.int (nI (N 5))]) rfl (congrArg (fun z : Int32 => (.int z :: [] : List Value)) (hT.f4)) rfl ?_
      exact WP.ret rfl rfl (⟨by (unfold aCount qCount; (repeat rw [nOf_nI (by omega)]); (repeat first | rw [if_pos (by first | assumption | omega | (refine inA_iff.mpr ?_; omega) | (intro q; have q2 := inA_iff.mp q; omega) | (intro q; omega) | (refine ⟨?_, ?_⟩ <;> rw [nI_int (by omega)] <;> omega) | (rw [nI_int (by omega)]; omega) | (intro q; rw [nI_int (by omega)] at q; omega) | (refine ⟨?_, ?_, ?_⟩ <;> omega) | (intro q; obtain ⟨q1, q2, q3⟩ := q; omega) | fail)] | rw [if_neg (by first | assumption | omega | (refine inA_iff.mpr ?_; omega) | (intro q; have q2 := inA_iff.mp q; omega) | (intro q; omega) | (refine ⟨?_, ?_⟩ <;> rw [nI_int (by omega)] <;> omega) | (rw [nI_int (by omega)]; omega) | (intro q; rw [nI_int (by omega)] at q; omega) | (refine ⟨?_, ?_, ?_⟩ <;> omega) | (intro q; obtain ⟨q1, q2, q3⟩ := q; omega) | fail)])) <;> rfl, rfl⟩)
    · refine WP.run (pc' := 112) (L' := [.ref 0, .int (nI 7)]) (st' := []) (I1 := I) 1 rfl ?_
      refine WP.run (pc' := 119) (L' := [.ref 0, .int (nI 7)]) (st' := [.int (I 247 5)]) (I1 := I) 3 rfl ?_
      refine WP.cg (st' := [.int (nI (N 6))]) rfl (congrArg (fun z : Int32 => (.int z :: [] : List Value)) (hT.f5)) rfl ?_
      exact WP.ret rfl rfl (⟨by (unfold aCount qCount; (repeat rw [nOf_nI (by omega)]); (repeat first | rw [if_pos (by first | assumption | omega | (refine inA_iff.mpr ?_; omega) | (intro q; have q2 := inA_iff.mp q; omega) | (intro q; omega) | (refine ⟨?_, ?_⟩ <;> rw [nI_int (by omega)] <;> omega) | (rw [nI_int (by omega)]; omega) | (intro q; rw [nI_int (by omega)] at q; omega) | (refine ⟨?_, ?_, ?_⟩ <;> omega) | (intro q; obtain ⟨q1, q2, q3⟩ := q; omega) | fail)] | rw [if_neg (by first | assumption | omega | (refine inA_iff.mpr ?_; omega) | (intro q; have q2 := inA_iff.mp q; omega) | (intro q; omega) | (refine ⟨?_, ?_⟩ <;> rw [nI_int (by omega)] <;> omega) | (rw [nI_int (by omega)]; omega) | (intro q; rw [nI_int (by omega)] at q; omega) | (refine ⟨?_, ?_, ?_⟩ <;> omega) | (intro q; obtain ⟨q1, q2, q3⟩ := q; omega) | fail)])) <;> rfl, rfl⟩)
    · refine WP.run (pc' := 120) (L' := [.ref 0, .int (nI 8)]) (st' := []) (I1 := I) 1 rfl ?_
      refine WP.run (pc' := 127) (L' := [.ref 0, .int (nI 8)]) (st' := [.int (I 31 2)]) (I1 := I) 3 rfl ?_
      refine WP.cg (st' := [.int (nI m)]) rfl (congrArg (fun z : Int32 => (.int z :: [] : List Value)) (hm)) rfl ?_
      exact WP.ret rfl rfl (⟨by (unfold aCount qCount; (repeat rw [nOf_nI (by omega)]); (repeat first | rw [if_pos (by first | assumption | omega | (refine inA_iff.mpr ?_; omega) | (intro q; have q2 := inA_iff.mp q; omega) | (intro q; omega) | (refine ⟨?_, ?_⟩ <;> rw [nI_int (by omega)] <;> omega) | (rw [nI_int (by omega)]; omega) | (intro q; rw [nI_int (by omega)] at q; omega) | (refine ⟨?_, ?_, ?_⟩ <;> omega) | (intro q; obtain ⟨q1, q2, q3⟩ := q; omega) | fail)] | rw [if_neg (by first | assumption | omega | (refine inA_iff.mpr ?_; omega) | (intro q; have q2 := inA_iff.mp q; omega) | (intro q; omega) | (refine ⟨?_, ?_⟩ <;> rw [nI_int (by omega)] <;> omega) | (rw [nI_int (by omega)]; omega) | (intro q; rw [nI_int (by omega)] at q; omega) | (refine ⟨?_, ?_, ?_⟩ <;> omega) | (intro q; obtain ⟨q1, q2, q3⟩ := q; omega) | fail)])) <;> rfl, rfl⟩)
    · refine WP.run (pc' := 128) (L' := [.ref 0, .int (nI 9)]) (st' := []) (I1 := I) 1 rfl ?_
      refine WP.run (pc' := 135) (L' := [.ref 0, .int (nI 9)]) (st' := [.int (I 13 3)]) (I1 := I) 3 rfl ?_
      refine WP.cg (st' := [.int (nI n)]) rfl (congrArg (fun z : Int32 => (.int z :: [] : List Value)) (hn)) rfl ?_
      exact WP.ret rfl rfl (⟨by (unfold aCount qCount; (repeat rw [nOf_nI (by omega)]); (repeat first | rw [if_pos (by first | assumption | omega | (refine inA_iff.mpr ?_; omega) | (intro q; have q2 := inA_iff.mp q; omega) | (intro q; omega) | (refine ⟨?_, ?_⟩ <;> rw [nI_int (by omega)] <;> omega) | (rw [nI_int (by omega)]; omega) | (intro q; rw [nI_int (by omega)] at q; omega) | (refine ⟨?_, ?_, ?_⟩ <;> omega) | (intro q; obtain ⟨q1, q2, q3⟩ := q; omega) | fail)] | rw [if_neg (by first | assumption | omega | (refine inA_iff.mpr ?_; omega) | (intro q; have q2 := inA_iff.mp q; omega) | (intro q; omega) | (refine ⟨?_, ?_⟩ <;> rw [nI_int (by omega)] <;> omega) | (rw [nI_int (by omega)]; omega) | (intro q; rw [nI_int (by omega)] at q; omega) | (refine ⟨?_, ?_, ?_⟩ <;> omega) | (intro q; obtain ⟨q1, q2, q3⟩ := q; omega) | fail)])) <;> rfl, rfl⟩)
  · refine WP.swD (pc' := 136) rfl (notA hw) rfl ?_
    refine WP.run (pc' := 138) (L' := [.ref 0, .int w]) (st' := [.int (-1000001)]) (I1 := I) 1 rfl ?_
    exact WP.ret rfl rfl (⟨by (unfold aCount qCount; (repeat rw [nOf_nI (by omega)]); (repeat first | rw [if_pos (by first | assumption | omega | (refine inA_iff.mpr ?_; omega) | (intro q; have q2 := inA_iff.mp q; omega) | (intro q; omega) | (refine ⟨?_, ?_⟩ <;> rw [nI_int (by omega)] <;> omega) | (rw [nI_int (by omega)]; omega) | (intro q; rw [nI_int (by omega)] at q; omega) | (refine ⟨?_, ?_, ?_⟩ <;> omega) | (intro q; obtain ⟨q1, q2, q3⟩ := q; omega) | fail)] | rw [if_neg (by first | assumption | omega | (refine inA_iff.mpr ?_; omega) | (intro q; have q2 := inA_iff.mp q; omega) | (intro q; omega) | (refine ⟨?_, ?_⟩ <;> rw [nI_int (by omega)] <;> omega) | (rw [nI_int (by omega)]; omega) | (intro q; rw [nI_int (by omega)] at q; omega) | (refine ⟨?_, ?_, ?_⟩ <;> omega) | (intro q; obtain ⟨q1, q2, q3⟩ := q; omega) | fail)])) <;> rfl, rfl⟩)
def aTrace (I : Pl) (b n : Nat) (x : Int32) : Int32 := if inA x n then I b (nOf x) else -1000000
set_option maxRecDepth 100000 in
theorem sp_traced {d : Nat} {I : Pl} {x : Int32} {n : Nat} (hn : I 245 1 = nI n) (h16 : n ≤ 16) : Ev (d + 1) 8 [.ref 245, .int x] (mem I) (some (.int (aTrace I 246 n x))) (mem I) := by
  refine Ev.only (EvX.enter rfl rfl rfl ?_)
  refine WP.run (pc' := if x < 0 then 21 else 4) (L' := [.ref 245, .int x]) (st' := []) (I1 := I) 2 rfl ?_
  refine WP.br (fun h1 => ?_) (fun h1 => ?_)
  · have h1 : x.toInt < 0 := (iLtZ).mp h1
    refine WP.run (pc' := 23) (L' := [.ref 245, .int x]) (st' := [.int (-1000000)]) (I1 := I) 1 rfl ?_
    exact WP.ret rfl rfl (⟨by (unfold aTrace; (repeat rw [nOf_nI (by omega)]); (repeat first | rw [if_pos (by first | assumption | omega | (refine inA_iff.mpr ?_; omega) | (intro q; have q2 := inA_iff.mp q; omega) | (intro q; omega) | (refine ⟨?_, ?_⟩ <;> rw [nI_int (by omega)] <;> omega) | (rw [nI_int (by omega)]; omega) | (intro q; rw [nI_int (by omega)] at q; omega) | (refine ⟨?_, ?_, ?_⟩ <;> omega) | (intro q; obtain ⟨q1, q2, q3⟩ := q; omega) | fail)] | rw [if_neg (by first | assumption | omega | (refine inA_iff.mpr ?_; omega) | (intro q; have q2 := inA_iff.mp q; omega) | (intro q; omega) | (refine ⟨?_, ?_⟩ <;> rw [nI_int (by omega)] <;> omega) | (rw [nI_int (by omega)]; omega) | (intro q; rw [nI_int (by omega)] at q; omega) | (refine ⟨?_, ?_, ?_⟩ <;> omega) | (intro q; obtain ⟨q1, q2, q3⟩ := q; omega) | fail)])) <;> rfl, rfl⟩)
  · have h1 : ¬ (x.toInt < 0) := fun q => h1 ((iLtZ).mpr q)
    refine WP.run (pc' := 9) (L' := [.ref 245, .int x]) (st' := [.int (I 245 1), .int x]) (I1 := I) 3 rfl ?_
    refine WP.cg (st' := [.int (nI n), .int x]) rfl (congrArg (fun z : Int32 => (.int z :: [.int x] : List Value)) (hn)) rfl ?_
    refine WP.run (pc' := if (nI n) ≤ x then 21 else 12) (L' := [.ref 245, .int x]) (st' := []) (I1 := I) 1 rfl ?_
    refine WP.br (fun h2 => ?_) (fun h2 => ?_)
    · have h2 : n ≤ x.toInt := (iGeL (n := n) (by omega)).mp h2
      refine WP.run (pc' := 23) (L' := [.ref 245, .int x]) (st' := [.int (-1000000)]) (I1 := I) 1 rfl ?_
      exact WP.ret rfl rfl (⟨by (unfold aTrace; (repeat rw [nOf_nI (by omega)]); (repeat first | rw [if_pos (by first | assumption | omega | (refine inA_iff.mpr ?_; omega) | (intro q; have q2 := inA_iff.mp q; omega) | (intro q; omega) | (refine ⟨?_, ?_⟩ <;> rw [nI_int (by omega)] <;> omega) | (rw [nI_int (by omega)]; omega) | (intro q; rw [nI_int (by omega)] at q; omega) | (refine ⟨?_, ?_, ?_⟩ <;> omega) | (intro q; obtain ⟨q1, q2, q3⟩ := q; omega) | fail)] | rw [if_neg (by first | assumption | omega | (refine inA_iff.mpr ?_; omega) | (intro q; have q2 := inA_iff.mp q; omega) | (intro q; omega) | (refine ⟨?_, ?_⟩ <;> rw [nI_int (by omega)] <;> omega) | (rw [nI_int (by omega)]; omega) | (intro q; rw [nI_int (by omega)] at q; omega) | (refine ⟨?_, ?_, ?_⟩ <;> omega) | (intro q; obtain ⟨q1, q2, q3⟩ := q; omega) | fail)])) <;> rfl, rfl⟩)
    · have h2 : ¬ (n ≤ x.toInt) := fun q => h2 ((iGeL (n := n) (by omega)).mpr q)
      have hx_j : inA x n := (by refine inA_iff.mpr ?_; omega)
      obtain ⟨j, hj, rfl⟩ := inA_of hx_j (by omega)
      refine WP.run (pc' := 17) (L' := [.ref 245, .int (nI j)]) (st' := [.int (nI j), .ref 246]) (I1 := I) 3 rfl ?_
      refine WP.iald rfl rfl rfl (by omega) (by decide) ?_
      refine WP.run (pc' := 23) (L' := [.ref 245, .int (nI j)]) (st' := [.int (I 246 j)]) (I1 := I) 1 rfl ?_
      exact WP.ret rfl rfl (⟨by (unfold aTrace; (repeat rw [nOf_nI (by omega)]); (repeat first | rw [if_pos (by first | assumption | omega | (refine inA_iff.mpr ?_; omega) | (intro q; have q2 := inA_iff.mp q; omega) | (intro q; omega) | (refine ⟨?_, ?_⟩ <;> rw [nI_int (by omega)] <;> omega) | (rw [nI_int (by omega)]; omega) | (intro q; rw [nI_int (by omega)] at q; omega) | (refine ⟨?_, ?_, ?_⟩ <;> omega) | (intro q; obtain ⟨q1, q2, q3⟩ := q; omega) | fail)] | rw [if_neg (by first | assumption | omega | (refine inA_iff.mpr ?_; omega) | (intro q; have q2 := inA_iff.mp q; omega) | (intro q; omega) | (refine ⟨?_, ?_⟩ <;> rw [nI_int (by omega)] <;> omega) | (rw [nI_int (by omega)]; omega) | (intro q; rw [nI_int (by omega)] at q; omega) | (refine ⟨?_, ?_, ?_⟩ <;> omega) | (intro q; obtain ⟨q1, q2, q3⟩ := q; omega) | fail)])) <;> rfl, rfl⟩)
set_option maxRecDepth 100000 in
theorem cs_trace {d : Nat} {I : Pl} {x : Int32} {n : Nat} (hn : I 245 1 = nI n) (h16 : n ≤ 16) : Ev (d + 2) 120 [.ref 0, .int x] (mem I) (some (.int (aTrace I 246 n x))) (mem I) := by
  refine Ev.only (EvX.enter rfl rfl rfl ?_)
  refine WP.run (pc' := 5) (L' := [.ref 0, .int x]) (st' := [.int x, .ref 245]) (I1 := I) 3 rfl ?_
  refine WP.callV (rest := []) rfl rfl (sp_traced (d := d) (x := x) hn h16) ?_
  exact WP.ret rfl rfl (⟨rfl, rfl⟩)
