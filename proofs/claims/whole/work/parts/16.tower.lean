set_option maxRecDepth 100000 in
theorem sp_isLeft {d : Nat} {I : Pl} {m : Nat} {N : Nat → Nat} (hT : Tw I 247 N) (hN : TI N) (hm : m < 64) : Ev (d + 2) 28 [.ref 247, .int (nI m)] (mem I) (some (.int (b2i (m < 2 ^ N 2 ∧ m &&& N 7 = 0)))) (mem I) := by
  obtain ⟨b0, b1, b2, b3, b4, b5, b6, b7, b8, bS, bC, bS1, bC1, bZ, bG⟩ := id hN
  obtain ⟨s6, s7, s64⟩ := hN.set64
  have hand := Nat.and_le_left (n := m) (m := N 7)
  refine Ev.only (EvX.enter rfl rfl rfl ?_)
  refine WP.run (pc' := 2) (L' := [.ref 247, .int (nI m)]) (st' := [.int (nI m), .ref 247]) (I1 := I) 2 rfl ?_
  refine WP.callB (rest := []) rfl rfl (sp_isSet (d := d) (x := (nI m)) hT hN) (fun h1 => ?_) (fun h1 => ?_)
  · refine WP.run (pc' := 13) (L' := [.ref 247, .int (nI m)]) (st' := [.int (I 247 6), .int (nI m)]) (I1 := I) 4 rfl ?_
    refine WP.cg (st' := [.int (nI (N 7)), .int (nI m)]) rfl (congrArg (fun z : Int32 => (.int z :: [.int (nI m)] : List Value)) (hT.f6)) rfl ?_
    refine WP.run (pc' := 14) (L' := [.ref 247, .int (nI m)]) (st' := [.int ((nI m) &&& (nI (N 7)))]) (I1 := I) 1 rfl ?_
    refine WP.cg (st' := [.int (nI (m &&& (N 7)))]) rfl (congrArg (fun z : Int32 => (.int z :: [] : List Value)) (nI_and m (N 7))) rfl ?_
    refine WP.run (pc' := if ¬ (nI (m &&& (N 7))) = 0 then 21 else 17) (L' := [.ref 247, .int (nI m)]) (st' := []) (I1 := I) 1 rfl ?_
    refine WP.br (fun h2 => ?_) (fun h2 => ?_)
    · have h2 : ¬ m &&& (N 7) = 0 := fun q => h2 (nI_eq_r q)
      refine WP.run (pc' := 22) (L' := [.ref 247, .int (nI m)]) (st' := [.int (nI 0)]) (I1 := I) 1 rfl ?_
      exact WP.ret rfl rfl (⟨congrArg (fun z : Int32 => some (Value.int z)) (b2iF (fun q => by first | exact absurd ((inA_nI (by omega)).mpr q.1) (by assumption) | exact absurd q.2 (by assumption))).symm, rfl⟩)
    · have h2 : m &&& (N 7) = 0 := nI_eq_ (by omega) (by omega) (Decidable.byContradiction h2)
      refine WP.run (pc' := 22) (L' := [.ref 247, .int (nI m)]) (st' := [.int (nI 1)]) (I1 := I) 2 rfl ?_
      exact WP.ret rfl rfl (⟨congrArg (fun z : Int32 => some (Value.int z)) (b2iT ⟨(inA_nI (by omega)).mp (by assumption), by assumption⟩).symm, rfl⟩)
  · refine WP.run (pc' := 22) (L' := [.ref 247, .int (nI m)]) (st' := [.int (nI 0)]) (I1 := I) 2 rfl ?_
    exact WP.ret rfl rfl (⟨congrArg (fun z : Int32 => some (Value.int z)) (b2iF (fun q => by first | exact absurd ((inA_nI (by omega)).mpr q.1) (by assumption) | exact absurd q.2 (by assumption))).symm, rfl⟩)
set_option maxRecDepth 100000 in
theorem sp_pull {d : Nat} {I : Pl} {c : Nat} {N : Nat → Nat} (hT : Tw I 247 N) (hN : TI N) (hc : c < N 3) : Ev (d + 1) 32 [.ref 247, .int (nI c)] (mem I) (some (.int (nI (pullN N (N (27 + c)))))) (mem I) := by
  obtain ⟨b0, b1, b2, b3, b4, b5, b6, b7, b8, bS, bC, bS1, bC1, bZ, bG⟩ := id hN
  obtain ⟨bw, -⟩ := bC c (by omega)
  refine Ev.only (EvX.enter rfl rfl rfl ?_)
  refine WP.run (pc' := 4) (L' := [.ref 247, .int (nI c)]) (st' := [.int (I 247 4)]) (I1 := I) 2 rfl ?_
  refine WP.cg (st' := [.int (nI (N 5))]) rfl (congrArg (fun z : Int32 => (.int z :: [] : List Value)) (hT.f4)) rfl ?_
  refine WP.run (pc' := if ¬ (nI (N 5)) = (nI 1) then 21 else 8) (L' := [.ref 247, .int (nI c)]) (st' := []) (I1 := I) 2 rfl ?_
  refine WP.br (fun h1 => ?_) (fun h1 => ?_)
  · have h1 : ¬ N 5 = 1 := fun q => h1 (nI_eq_r q)
    refine WP.run (pc' := 26) (L' := [.ref 247, .int (nI c)]) (st' := [.int (nI c), .ref 251]) (I1 := I) 3 rfl ?_
    refine WP.iald rfl rfl rfl (by omega) (by decide) ?_
    refine WP.cg (st' := [.int (nI (N (27 + c)))]) rfl (congrArg (fun z : Int32 => (.int z :: [] : List Value)) (hT.a4 (k := c) (by omega))) rfl ?_
    exact WP.ret rfl rfl (⟨by unfold pullN; first | rw [if_pos (by assumption)] | rw [if_neg (by assumption)], rfl⟩)
  · have h1 : N 5 = 1 := nI_eq_ (by omega) (by omega) (Decidable.byContradiction h1)
    refine WP.run (pc' := 13) (L' := [.ref 247, .int (nI c)]) (st' := [.int (nI c), .ref 251]) (I1 := I) 3 rfl ?_
    refine WP.iald rfl rfl rfl (by omega) (by decide) ?_
    refine WP.cg (st' := [.int (nI (N (27 + c)))]) rfl (congrArg (fun z : Int32 => (.int z :: [] : List Value)) (hT.a4 (k := c) (by omega))) rfl ?_
    refine WP.run (pc' := 16) (L' := [.ref 247, .int (nI c)]) (st' := [.int ((nI (N (27 + c))) + (nI 1))]) (I1 := I) 2 rfl ?_
    refine WP.cg (st' := [.int (nI ((N (27 + c)) + 1))]) rfl (congrArg (fun z : Int32 => (.int z :: [] : List Value)) (nI_add (N (27 + c)) 1)) rfl ?_
    refine WP.run (pc' := 17) (L' := [.ref 247, .int (nI c)]) (st' := [.int (nI 2), .int (nI ((N (27 + c)) + 1))]) (I1 := I) 1 rfl ?_
    refine WP.idiv (a := (N (27 + c)) + 1) (b := 2) rfl (by omega) (by omega) (by omega) ?_
    have hdv2 : ((N (27 + c)) + 1) / 2 ≤ ((N (27 + c)) + 1) := Nat.div_le_self _ _
    refine WP.run (pc' := 27) (L' := [.ref 247, .int (nI c)]) (st' := [.int (nI (((N (27 + c)) + 1) / 2))]) (I1 := I) 1 rfl ?_
    exact WP.ret rfl rfl (⟨by unfold pullN; first | rw [if_pos (by assumption)] | rw [if_neg (by assumption)], rfl⟩)
theorem pullN_le {N : Nat → Nat} {w : Nat} (h : w ≤ 99) : pullN N w ≤ 99 := by
  unfold pullN
  split <;> omega
theorem shareN_le {p m : Nat} : shareN p m ≤ p := by
  unfold shareN
  split
  · omega
  · have h1 := popc_le m
    refine Nat.le_of_lt_succ (Nat.div_lt_of_lt_mul ?_)
    rcases Nat.lt_or_ge p 1 with h | h
    · have : p = 0 := by omega
      subst this
      omega
    · have : 1 ≤ popc m := by omega
      calc p + popc m - 1 < p + popc m := by omega
        _ ≤ popc m * p + popc m := by
          have : 1 * p ≤ popc m * p := Nat.mul_le_mul_right p this
          omega
        _ = popc m * (p + 1) := by rw [Nat.mul_add, Nat.mul_one]
set_option maxRecDepth 100000 in
theorem sp_strain {d : Nat} {I : Pl} {c m : Nat} {N : Nat → Nat} (hT : Tw I 247 N) (hN : TI N) (hc : c < N 3) (hm : m < 64) : Ev (d + 2) 33 [.ref 247, .int (nI c), .int (nI m)] (mem I) (some (.int (nI (shareN (pullN N (N (27 + c))) m)))) (mem I) := by
  obtain ⟨b0, b1, b2, b3, b4, b5, b6, b7, b8, bS, bC, bS1, bC1, bZ, bG⟩ := id hN
  obtain ⟨bw, -⟩ := bC c (by omega)
  have hp := popc_le m
  have hq := pullN_le (N := N) bw
  refine Ev.only (EvX.enter rfl rfl rfl ?_)
  refine WP.run (pc' := 1) (L' := [.ref 247, .int (nI c), .int (nI m), UU]) (st' := [.int (nI m)]) (I1 := I) 1 rfl ?_
  refine WP.callV (rest := []) rfl rfl (sp_bitCount (d := d) (m := m) (by omega)) ?_
  refine WP.run (pc' := if ¬ (nI (popc m)) = 0 then 13 else 9) (L' := [.ref 247, .int (nI c), .int (nI m), .int (nI (popc m))]) (st' := []) (I1 := I) 3 rfl ?_
  refine WP.br (fun h1 => ?_) (fun h1 => ?_)
  · have h1 : ¬ popc m = 0 := fun q => h1 (nI_eq_r q)
    refine WP.run (pc' := 15) (L' := [.ref 247, .int (nI c), .int (nI m), .int (nI (popc m))]) (st' := [.int (nI c), .ref 247]) (I1 := I) 2 rfl ?_
    refine WP.callV (rest := []) rfl rfl (sp_pull (d := d) (c := c) hT hN (by omega)) ?_
    refine WP.run (pc' := 20) (L' := [.ref 247, .int (nI c), .int (nI m), .int (nI (popc m))]) (st' := [.int ((nI (pullN N (N (27 + c)))) + (nI (popc m)))]) (I1 := I) 2 rfl ?_
    refine WP.cg (st' := [.int (nI ((pullN N (N (27 + c))) + (popc m)))]) rfl (congrArg (fun z : Int32 => (.int z :: [] : List Value)) (nI_add (pullN N (N (27 + c))) (popc m))) rfl ?_
    refine WP.run (pc' := 22) (L' := [.ref 247, .int (nI c), .int (nI m), .int (nI (popc m))]) (st' := [.int ((nI ((pullN N (N (27 + c))) + (popc m))) - (nI 1))]) (I1 := I) 2 rfl ?_
    refine WP.cg (st' := [.int (nI (((pullN N (N (27 + c))) + (popc m)) - 1))]) rfl (congrArg (fun z : Int32 => (.int z :: [] : List Value)) (pk_sub (a := (pullN N (N (27 + c))) + (popc m)) (b := 1) (by omega))) rfl ?_
    refine WP.run (pc' := 23) (L' := [.ref 247, .int (nI c), .int (nI m), .int (nI (popc m))]) (st' := [.int (nI (popc m)), .int (nI (((pullN N (N (27 + c))) + (popc m)) - 1))]) (I1 := I) 1 rfl ?_
    refine WP.idiv (a := ((pullN N (N (27 + c))) + (popc m)) - 1) (b := popc m) rfl (by omega) (by omega) (by omega) ?_
    have hdv2 : (((pullN N (N (27 + c))) + (popc m)) - 1) / (popc m) ≤ (((pullN N (N (27 + c))) + (popc m)) - 1) := Nat.div_le_self _ _
    exact WP.ret rfl rfl (⟨by unfold shareN; first | rw [if_pos (by assumption)] | rw [if_neg (by assumption)], rfl⟩)
  · have h1 : popc m = 0 := nI_eq_ (by omega) (by omega) (Decidable.byContradiction h1)
    refine WP.run (pc' := 24) (L' := [.ref 247, .int (nI c), .int (nI m), .int (nI (popc m))]) (st' := [.int (nI 0)]) (I1 := I) 2 rfl ?_
    exact WP.ret rfl rfl (⟨by unfold shareN; first | rw [if_pos (by assumption)] | rw [if_neg (by assumption)], rfl⟩)
set_option maxRecDepth 100000 in
theorem sp_holds {d : Nat} {I : Pl} {s w many : Nat} {N : Nat → Nat} (hT : Tw I 247 N) (hN : TI N) (hs : s < 6) (hw : w < 1000) (hk : many < 1000) : Ev (d + 1) 34 [.ref 247, .int (nI s), .int (nI w), .int (nI many)] (mem I) (some (.int (nI (capN N s many) - nI w))) (mem I) := by
  obtain ⟨b0, b1, b2, b3, b4, b5, b6, b7, b8, bS, bC, bS1, bC1, bZ, bG⟩ := id hN
  obtain ⟨bs1, bs2, bs3⟩ := bS s (by omega)
  refine Ev.only (EvX.enter rfl rfl rfl ?_)
  refine WP.run (pc' := 5) (L' := [.ref 247, .int (nI s), .int (nI w), .int (nI many)]) (st' := [.int (nI s), .ref 248]) (I1 := I) 3 rfl ?_
  refine WP.iald rfl rfl rfl (by omega) (by decide) ?_
  refine WP.cg (st' := [.int (nI (N (9 + s)))]) rfl (congrArg (fun z : Int32 => (.int z :: [] : List Value)) (hT.a1 (k := s) (by omega))) rfl ?_
  refine WP.run (pc' := if ¬ (nI (N (9 + s))) = (nI 5) then 26 else 10) (L' := [.ref 247, .int (nI s), .int (nI w), .int (nI many)]) (st' := []) (I1 := I) 2 rfl ?_
  refine WP.br (fun h1 => ?_) (fun h1 => ?_)
  · have h1 : ¬ N (9 + s) = 5 := fun q => h1 (nI_eq_r q)
    refine WP.run (pc' := 31) (L' := [.ref 247, .int (nI s), .int (nI w), .int (nI many)]) (st' := [.int (nI s), .ref 249]) (I1 := I) 3 rfl ?_
    refine WP.iald rfl rfl rfl (by omega) (by decide) ?_
    refine WP.cg (st' := [.int (nI (N (15 + s)))]) rfl (congrArg (fun z : Int32 => (.int z :: [] : List Value)) (hT.a2 (k := s) (by omega))) rfl ?_
    refine WP.run (pc' := 34) (L' := [.ref 247, .int (nI s), .int (nI w), .int (nI many)]) (st' := [.int ((nI (N (15 + s))) - (nI w))]) (I1 := I) 2 rfl ?_
    exact WP.ret rfl rfl (⟨by unfold capN; first | rw [if_pos ⟨by assumption, by assumption⟩] | rw [if_neg (fun q => absurd q.1 (by assumption))] | rw [if_neg (fun q => absurd q.2 (by assumption))], rfl⟩)
  · have h1 : N (9 + s) = 5 := nI_eq_ (by omega) (by omega) (Decidable.byContradiction h1)
    refine WP.run (pc' := if ¬ (nI many) = (nI 1) then 26 else 15) (L' := [.ref 247, .int (nI s), .int (nI w), .int (nI many)]) (st' := []) (I1 := I) 3 rfl ?_
    refine WP.br (fun h2 => ?_) (fun h2 => ?_)
    · have h2 : ¬ many = 1 := fun q => h2 (nI_eq_r q)
      refine WP.run (pc' := 31) (L' := [.ref 247, .int (nI s), .int (nI w), .int (nI many)]) (st' := [.int (nI s), .ref 249]) (I1 := I) 3 rfl ?_
      refine WP.iald rfl rfl rfl (by omega) (by decide) ?_
      refine WP.cg (st' := [.int (nI (N (15 + s)))]) rfl (congrArg (fun z : Int32 => (.int z :: [] : List Value)) (hT.a2 (k := s) (by omega))) rfl ?_
      refine WP.run (pc' := 34) (L' := [.ref 247, .int (nI s), .int (nI w), .int (nI many)]) (st' := [.int ((nI (N (15 + s))) - (nI w))]) (I1 := I) 2 rfl ?_
      exact WP.ret rfl rfl (⟨by unfold capN; first | rw [if_pos ⟨by assumption, by assumption⟩] | rw [if_neg (fun q => absurd q.1 (by assumption))] | rw [if_neg (fun q => absurd q.2 (by assumption))], rfl⟩)
    · have h2 : many = 1 := nI_eq_ (by omega) (by omega) (Decidable.byContradiction h2)
      refine WP.run (pc' := 21) (L' := [.ref 247, .int (nI s), .int (nI w), .int (nI many)]) (st' := [.int (nI s), .ref 249, .int (nI 2)]) (I1 := I) 4 rfl ?_
      refine WP.iald rfl rfl rfl (by omega) (by decide) ?_
      refine WP.cg (st' := [.int (nI (N (15 + s))), .int (nI 2)]) rfl (congrArg (fun z : Int32 => (.int z :: [.int (nI 2)] : List Value)) (hT.a2 (k := s) (by omega))) rfl ?_
      refine WP.run (pc' := 23) (L' := [.ref 247, .int (nI s), .int (nI w), .int (nI many)]) (st' := [.int ((nI 2) * (nI (N (15 + s))))]) (I1 := I) 1 rfl ?_
      refine WP.cg (st' := [.int (nI (2 * (N (15 + s))))]) rfl (congrArg (fun z : Int32 => (.int z :: [] : List Value)) (pk_mul 2 (N (15 + s)))) rfl ?_
      refine WP.run (pc' := 34) (L' := [.ref 247, .int (nI s), .int (nI w), .int (nI many)]) (st' := [.int ((nI (2 * (N (15 + s)))) - (nI w))]) (I1 := I) 3 rfl ?_
      exact WP.ret rfl rfl (⟨by unfold capN; first | rw [if_pos ⟨by assumption, by assumption⟩] | rw [if_neg (fun q => absurd q.1 (by assumption))] | rw [if_neg (fun q => absurd q.2 (by assumption))], rfl⟩)
set_option maxRecDepth 100000 in
theorem sp_lengthIn {d : Nat} {I : Pl} {n : Nat} {N : Nat → Nat} (hT : Tw I 247 N) (hN : TI N) (hn : n < 1000) : Ev (d + 2) 29 [.ref 247, .int (nI n)] (mem I) (some (.int (nI (min 99 (N 1 + n))))) (mem I) := by
  obtain ⟨b0, b1, b2, b3, b4, b5, b6, b7, b8, bS, bC, bS1, bC1, bZ, bG⟩ := id hN
  refine Ev.only (EvX.enter rfl rfl rfl ?_)
  refine WP.run (pc' := 6) (L' := [.ref 247, .int (nI n)]) (st' := [.int (I 247 2), .int (nI 99)]) (I1 := I) 3 rfl ?_
  refine WP.cg (st' := [.int (nI (N 1)), .int (nI 99)]) rfl (congrArg (fun z : Int32 => (.int z :: [.int (nI 99)] : List Value)) (hT.f2)) rfl ?_
  refine WP.run (pc' := 8) (L' := [.ref 247, .int (nI n)]) (st' := [.int ((nI (N 1)) + (nI n)), .int (nI 99)]) (I1 := I) 2 rfl ?_
  refine WP.cg (st' := [.int (nI ((N 1) + n)), .int (nI 99)]) rfl (congrArg (fun z : Int32 => (.int z :: [.int (nI 99)] : List Value)) (nI_add (N 1) n)) rfl ?_
  refine WP.callV (rest := []) rfl rfl (sp_min (d := d) (a := 99) (b := (N 1) + n) (by omega) (by omega)) ?_
  exact WP.ret rfl rfl (⟨rfl, rfl⟩)
set_option maxRecDepth 100000 in
theorem sp_wear {d : Nat} {I : Pl} {s sh : Nat} {N : Nat → Nat} (hT : Tw I 247 N) (hN : TI N) (hs : s < 6) (hsh : sh < 1000) : Ev (d + 1) 35 [.ref 247, .int (nI s), .int (nI sh)] (mem I) (some (.int (nI (wearN (N (9 + s)) sh)))) (mem I) := by
  obtain ⟨b0, b1, b2, b3, b4, b5, b6, b7, b8, bS, bC, bS1, bC1, bZ, bG⟩ := id hN
  obtain ⟨bs1, bs2, bs3⟩ := bS s (by omega)
  refine Ev.only (EvX.enter rfl rfl rfl ?_)
  refine WP.run (pc' := 5) (L' := [.ref 247, .int (nI s), .int (nI sh)]) (st' := [.int (nI s), .ref 248]) (I1 := I) 3 rfl ?_
  refine WP.iald rfl rfl rfl (by omega) (by decide) ?_
  refine WP.cg (st' := [.int (nI (N (9 + s)))]) rfl (congrArg (fun z : Int32 => (.int z :: [] : List Value)) (hT.a1 (k := s) (by omega))) rfl ?_
  have hsw : N (9 + s) = 0 ∨ N (9 + s) = 1 ∨ N (9 + s) = 2 ∨ N (9 + s) = 3 ∨ N (9 + s) = 4 ∨ N (9 + s) = 5 := by omega
  rcases hsw with hsw | hsw | hsw | hsw | hsw | hsw
  · refine WP.cg (st' := [.int (nI 0)]) rfl (congrArg (fun z : Nat => (.int (nI z) :: [] : List Value)) hsw) rfl ?_
    refine WP.run (pc' := 61) (L' := [.ref 247, .int (nI s), .int (nI sh)]) (st' := []) (I1 := I) 1 rfl ?_
    refine WP.run (pc' := 62) (L' := [.ref 247, .int (nI s), .int (nI sh)]) (st' := [.int (nI 0)]) (I1 := I) 1 rfl ?_
    exact WP.ret rfl rfl (⟨by rw [hsw]; rfl, rfl⟩)
  · refine WP.cg (st' := [.int (nI 1)]) rfl (congrArg (fun z : Nat => (.int (nI z) :: [] : List Value)) hsw) rfl ?_
    refine WP.run (pc' := 40) (L' := [.ref 247, .int (nI s), .int (nI sh)]) (st' := []) (I1 := I) 1 rfl ?_
    refine WP.run (pc' := 43) (L' := [.ref 247, .int (nI s), .int (nI sh)]) (st' := [.int (nI 10), .int (nI sh)]) (I1 := I) 2 rfl ?_
    refine WP.idiv (a := sh) (b := 10) rfl (by omega) (by omega) (by omega) ?_
    have hdv1 : sh / 10 ≤ sh := Nat.div_le_self _ _
    exact WP.ret rfl rfl (⟨by rw [hsw]; rfl, rfl⟩)
  · refine WP.cg (st' := [.int (nI 2)]) rfl (congrArg (fun z : Nat => (.int (nI z) :: [] : List Value)) hsw) rfl ?_
    refine WP.run (pc' := 61) (L' := [.ref 247, .int (nI s), .int (nI sh)]) (st' := []) (I1 := I) 1 rfl ?_
    refine WP.run (pc' := 62) (L' := [.ref 247, .int (nI s), .int (nI sh)]) (st' := [.int (nI 0)]) (I1 := I) 1 rfl ?_
    exact WP.ret rfl rfl (⟨by rw [hsw]; rfl, rfl⟩)
  · refine WP.cg (st' := [.int (nI 3)]) rfl (congrArg (fun z : Nat => (.int (nI z) :: [] : List Value)) hsw) rfl ?_
    refine WP.run (pc' := 45) (L' := [.ref 247, .int (nI s), .int (nI sh)]) (st' := []) (I1 := I) 1 rfl ?_
    refine WP.run (pc' := 49) (L' := [.ref 247, .int (nI s), .int (nI sh)]) (st' := [.int (nI 10), .int (nI sh), .int (nI 2)]) (I1 := I) 3 rfl ?_
    refine WP.idiv (a := sh) (b := 10) rfl (by omega) (by omega) (by omega) ?_
    have hdv2 : sh / 10 ≤ sh := Nat.div_le_self _ _
    refine WP.run (pc' := 51) (L' := [.ref 247, .int (nI s), .int (nI sh)]) (st' := [.int ((nI 2) * (nI (sh / 10)))]) (I1 := I) 1 rfl ?_
    refine WP.cg (st' := [.int (nI (2 * (sh / 10)))]) rfl (congrArg (fun z : Int32 => (.int z :: [] : List Value)) (pk_mul 2 (sh / 10))) rfl ?_
    exact WP.ret rfl rfl (⟨by rw [hsw]; rfl, rfl⟩)
  · refine WP.cg (st' := [.int (nI 4)]) rfl (congrArg (fun z : Nat => (.int (nI z) :: [] : List Value)) hsw) rfl ?_
    refine WP.run (pc' := 52) (L' := [.ref 247, .int (nI s), .int (nI sh)]) (st' := []) (I1 := I) 1 rfl ?_
    refine WP.run (pc' := 53) (L' := [.ref 247, .int (nI s), .int (nI sh)]) (st' := [.int (nI 1)]) (I1 := I) 1 rfl ?_
    exact WP.ret rfl rfl (⟨by rw [hsw]; rfl, rfl⟩)
  · refine WP.cg (st' := [.int (nI 5)]) rfl (congrArg (fun z : Nat => (.int (nI z) :: [] : List Value)) hsw) rfl ?_
    refine WP.run (pc' := 54) (L' := [.ref 247, .int (nI s), .int (nI sh)]) (st' := []) (I1 := I) 1 rfl ?_
    refine WP.run (pc' := 58) (L' := [.ref 247, .int (nI s), .int (nI sh)]) (st' := [.int (nI 20), .int (nI sh), .int (nI 1)]) (I1 := I) 3 rfl ?_
    refine WP.idiv (a := sh) (b := 20) rfl (by omega) (by omega) (by omega) ?_
    have hdv3 : sh / 20 ≤ sh := Nat.div_le_self _ _
    refine WP.run (pc' := 60) (L' := [.ref 247, .int (nI s), .int (nI sh)]) (st' := [.int ((nI 1) + (nI (sh / 20)))]) (I1 := I) 1 rfl ?_
    refine WP.cg (st' := [.int (nI (1 + (sh / 20)))]) rfl (congrArg (fun z : Int32 => (.int z :: [] : List Value)) (nI_add 1 (sh / 20))) rfl ?_
    exact WP.ret rfl rfl (⟨by rw [hsw]; rfl, rfl⟩)
set_option maxRecDepth 100000 in
theorem lp_breaking {d : Nat} {I : Pl} {m sh : Nat} {N : Nat → Nat} (hT : Tw I 247 N) (hN : TI N) (hm : m < 64) (hsh : sh < 1000) : ∀ k, k ≤ N 2 → WP (d + 1) (68, 5, (some .int), sc0) 11 [.ref 247, .int (nI m), .int (nI sh), .int (nI (popc m)), .int (nI (brkP N m sh k)), .int (nI k)] [] I (fun v J => v = some (.int (nI (brkN N m sh))) ∧ J = I) := by
  refine loopUp (fun k hk ih => ?_)
  obtain ⟨b0, b1, b2, b3, b4, b5, b6, b7, b8, bS, bC, bS1, bC1, bZ, bG⟩ := id hN
  have hbl := bitN_lt m k
  have hpc := popc_le m
  have hcap : k < 6 → capN N k (popc m) ≤ 198 ∧ N (21 + k) ≤ 198 := fun q => by
    obtain ⟨z1, z2, z3⟩ := bS k q
    unfold capN
    split <;> omega
  refine WP.run (pc' := 17) (L' := [.ref 247, .int (nI m), .int (nI sh), .int (nI (popc m)), .int (nI (brkP N m sh k)), .int (nI k)]) (st' := [.int (I 247 7), .int (nI k)]) (I1 := I) 3 rfl ?_
  refine WP.cg (st' := [.int (nI (N 2)), .int (nI k)]) rfl (congrArg (fun z : Int32 => (.int z :: [.int (nI k)] : List Value)) (hT.f7)) rfl ?_
  refine WP.run (pc' := if (nI (N 2)) ≤ (nI k) then 63 else 20) (L' := [.ref 247, .int (nI m), .int (nI sh), .int (nI (popc m)), .int (nI (brkP N m sh k)), .int (nI k)]) (st' := []) (I1 := I) 1 rfl ?_
  refine WP.br (fun h1 => ?_) (fun h1 => ?_)
  · have h1 : N 2 ≤ k := nI_le_ (by omega) (by omega) h1
    refine WP.run (pc' := 65) (L' := [.ref 247, .int (nI m), .int (nI sh), .int (nI (popc m)), .int (nI (brkP N m sh k)), .int (nI k)]) (st' := [.int (nI (brkP N m sh k))]) (I1 := I) 1 rfl ?_
    exact WP.ret rfl rfl (⟨by rw [show k = N 2 by omega]; rfl, rfl⟩)
  · have h1 : ¬ N 2 ≤ k := fun q => h1 (nI_le_r (by omega) q)
    refine WP.run (pc' := 23) (L' := [.ref 247, .int (nI m), .int (nI sh), .int (nI (popc m)), .int (nI (brkP N m sh k)), .int (nI k)]) (st' := [.int (nI k), .int (nI m)]) (I1 := I) 2 rfl ?_
    refine WP.callV (rest := []) rfl rfl (sp_bit (d := d) (m := m) (i := k) (by omega) (by omega)) ?_
    refine WP.run (pc' := if ¬ (nI (bitN m k)) = (nI 1) then 57 else 30) (L' := [.ref 247, .int (nI m), .int (nI sh), .int (nI (popc m)), .int (nI (brkP N m sh k)), .int (nI k)]) (st' := []) (I1 := I) 2 rfl ?_
    refine WP.br (fun h2 => ?_) (fun h2 => ?_)
    · have h2 : ¬ bitN m k = 1 := fun q => h2 (nI_eq_r q)
      refine WP.run (pc' := 60) (L' := [.ref 247, .int (nI m), .int (nI sh), .int (nI (popc m)), .int (nI (brkP N m sh k)), .int ((nI k) + nI 1)]) (st' := []) (I1 := I) 1 rfl ?_
      refine WP.cg (L' := [.ref 247, .int (nI m), .int (nI sh), .int (nI (popc m)), .int (nI (brkP N m sh k)), .int (nI (k + 1))]) (congrArg (fun z : Int32 => ([.ref 247, .int (nI m), .int (nI sh), .int (nI (popc m)), .int (nI (brkP N m sh k)), .int z] : List Value)) (nI_add k 1)) rfl rfl ?_
      refine WP.run (pc' := 11) (L' := [.ref 247, .int (nI m), .int (nI sh), .int (nI (popc m)), .int (nI (brkP N m sh k)), .int (nI (k + 1))]) (st' := []) (I1 := I) 1 rfl ?_
      refine WP.cg (L' := [.ref 247, .int (nI m), .int (nI sh), .int (nI (popc m)), .int (nI (brkP N m sh (k + 1))), .int (nI (k + 1))]) (congrArg (fun z : Nat => ([.ref 247, .int (nI m), .int (nI sh), .int (nI (popc m)), .int (nI z), .int (nI (k + 1))] : List Value)) (by show _ = brkP N m sh k + _; first | (rw [if_neg (fun q => absurd q.1 (by assumption))]; rfl) | (rw [if_neg (fun q => absurd q.2 (by omega))]; rfl))) rfl rfl (ih (by omega))
    · have h2 : bitN m k = 1 := nI_eq_ (by omega) (by omega) (Decidable.byContradiction h2)
      refine WP.run (pc' := 40) (L' := [.ref 247, .int (nI m), .int (nI sh), .int (nI (popc m)), .int (nI (brkP N m sh k)), .int (nI k)]) (st' := [.int (nI k), .ref 250, .int (nI k), .ref 247, .int (nI sh)]) (I1 := I) 6 rfl ?_
      refine WP.iald rfl rfl rfl (by omega) (by decide) ?_
      refine WP.cg (st' := [.int (nI (N (21 + k))), .int (nI k), .ref 247, .int (nI sh)]) rfl (congrArg (fun z : Int32 => (.int z :: [.int (nI k), .ref 247, .int (nI sh)] : List Value)) (hT.a3 (k := k) (by omega))) rfl ?_
      refine WP.run (pc' := 42) (L' := [.ref 247, .int (nI m), .int (nI sh), .int (nI (popc m)), .int (nI (brkP N m sh k)), .int (nI k)]) (st' := [.int (nI (popc m)), .int (nI (N (21 + k))), .int (nI k), .ref 247, .int (nI sh)]) (I1 := I) 1 rfl ?_
      refine WP.callV (rest := [.int (nI sh)]) rfl rfl (sp_holds (d := d) (s := k) (w := N (21 + k)) (many := popc m) hT hN (by omega) (by omega) (by omega)) ?_
      refine WP.run (pc' := if (nI sh) ≤ ((nI (capN N k (popc m))) - (nI (N (21 + k)))) then 57 else 48) (L' := [.ref 247, .int (nI m), .int (nI sh), .int (nI (popc m)), .int (nI (brkP N m sh k)), .int (nI k)]) (st' := []) (I1 := I) 1 rfl ?_
      refine WP.br (fun h3 => ?_) (fun h3 => ?_)
      · have h3 : sh + (N (21 + k)) ≤ (capN N k (popc m)) := (le_sub_ (by omega) (by omega) (by omega)).mp h3
        refine WP.run (pc' := 60) (L' := [.ref 247, .int (nI m), .int (nI sh), .int (nI (popc m)), .int (nI (brkP N m sh k)), .int ((nI k) + nI 1)]) (st' := []) (I1 := I) 1 rfl ?_
        refine WP.cg (L' := [.ref 247, .int (nI m), .int (nI sh), .int (nI (popc m)), .int (nI (brkP N m sh k)), .int (nI (k + 1))]) (congrArg (fun z : Int32 => ([.ref 247, .int (nI m), .int (nI sh), .int (nI (popc m)), .int (nI (brkP N m sh k)), .int z] : List Value)) (nI_add k 1)) rfl rfl ?_
        refine WP.run (pc' := 11) (L' := [.ref 247, .int (nI m), .int (nI sh), .int (nI (popc m)), .int (nI (brkP N m sh k)), .int (nI (k + 1))]) (st' := []) (I1 := I) 1 rfl ?_
        refine WP.cg (L' := [.ref 247, .int (nI m), .int (nI sh), .int (nI (popc m)), .int (nI (brkP N m sh (k + 1))), .int (nI (k + 1))]) (congrArg (fun z : Nat => ([.ref 247, .int (nI m), .int (nI sh), .int (nI (popc m)), .int (nI z), .int (nI (k + 1))] : List Value)) (by show _ = brkP N m sh k + _; first | (rw [if_neg (fun q => absurd q.1 (by assumption))]; rfl) | (rw [if_neg (fun q => absurd q.2 (by omega))]; rfl))) rfl rfl (ih (by omega))
      · have h3 : ¬ (sh + (N (21 + k)) ≤ (capN N k (popc m))) := fun q => h3 ((le_sub_ (by omega) (by omega) (by omega)).mpr q)
        refine WP.run (pc' := 54) (L' := [.ref 247, .int (nI m), .int (nI sh), .int (nI (popc m)), .int (nI (brkP N m sh k)), .int (nI k)]) (st' := [.int ((nI 1) <<< ((nI k) &&& 31)), .int (nI (brkP N m sh k))]) (I1 := I) 4 rfl ?_
        refine WP.cg (st' := [.int (nI (2 ^ k)), .int (nI (brkP N m sh k))]) rfl (congrArg (fun z : Int32 => (.int z :: [.int (nI (brkP N m sh k))] : List Value)) (nI_shl1 k (by omega))) rfl ?_
        refine WP.run (pc' := 55) (L' := [.ref 247, .int (nI m), .int (nI sh), .int (nI (popc m)), .int (nI (brkP N m sh k)), .int (nI k)]) (st' := [.int ((nI (brkP N m sh k)) ||| (nI (2 ^ k)))]) (I1 := I) 1 rfl ?_
        refine WP.cg (st' := [.int (nI ((brkP N m sh k) ||| (2 ^ k)))]) rfl (congrArg (fun z : Int32 => (.int z :: [] : List Value)) (nI_or (brkP N m sh k) (2 ^ k))) rfl ?_
        refine WP.run (pc' := 60) (L' := [.ref 247, .int (nI m), .int (nI sh), .int (nI (popc m)), .int (nI ((brkP N m sh k) ||| (2 ^ k))), .int ((nI k) + nI 1)]) (st' := []) (I1 := I) 2 rfl ?_
        refine WP.cg (L' := [.ref 247, .int (nI m), .int (nI sh), .int (nI (popc m)), .int (nI ((brkP N m sh k) ||| (2 ^ k))), .int (nI (k + 1))]) (congrArg (fun z : Int32 => ([.ref 247, .int (nI m), .int (nI sh), .int (nI (popc m)), .int (nI ((brkP N m sh k) ||| (2 ^ k))), .int z] : List Value)) (nI_add k 1)) rfl rfl ?_
        refine WP.run (pc' := 11) (L' := [.ref 247, .int (nI m), .int (nI sh), .int (nI (popc m)), .int (nI ((brkP N m sh k) ||| (2 ^ k))), .int (nI (k + 1))]) (st' := []) (I1 := I) 1 rfl ?_
        refine WP.cg (L' := [.ref 247, .int (nI m), .int (nI sh), .int (nI (popc m)), .int (nI (brkP N m sh (k + 1))), .int (nI (k + 1))]) (congrArg (fun z : Nat => ([.ref 247, .int (nI m), .int (nI sh), .int (nI (popc m)), .int (nI z), .int (nI (k + 1))] : List Value)) (by have := brkP_lt N m sh k; show _ = brkP N m sh k + _; rw [if_pos ⟨by assumption, by omega⟩, or_pow this])) rfl rfl (ih (by omega))
set_option maxRecDepth 100000 in
theorem sp_breaking {d : Nat} {I : Pl} {m sh : Nat} {N : Nat → Nat} (hT : Tw I 247 N) (hN : TI N) (hm : m < 64) (hsh : sh < 1000) : Ev (d + 2) 68 [.ref 247, .int (nI m), .int (nI sh)] (mem I) (some (.int (nI (brkN N m sh)))) (mem I) := by
  refine Ev.only (EvX.enter rfl rfl rfl ?_)
  refine WP.run (pc' := 1) (L' := [.ref 247, .int (nI m), .int (nI sh), UU, UU, UU]) (st' := [.int (nI m)]) (I1 := I) 1 rfl ?_
  refine WP.callV (rest := []) rfl rfl (sp_bitCount (d := d) (m := m) (by omega)) ?_
  refine WP.run (pc' := 11) (L' := [.ref 247, .int (nI m), .int (nI sh), .int (nI (popc m)), .int (nI 0), .int (nI 0)]) (st' := []) (I1 := I) 5 rfl ?_
  exact lp_breaking hT hN hm hsh 0 (Nat.zero_le _)
set_option maxRecDepth 100000 in
theorem sp_isBorne {d : Nat} {I : Pl} {c m : Nat} {N : Nat → Nat} (hT : Tw I 247 N) (hN : TI N) (hc : c < N 3) (hm : m < 64) : Ev (d + 3) 69 [.ref 247, .int (nI c), .int (nI m)] (mem I) (some (.int (b2i (bornN N (N (27 + c)) m = true)))) (mem I) := by
  obtain ⟨b0, b1, b2, b3, b4, b5, b6, b7, b8, bS, bC, bS1, bC1, bZ, bG⟩ := id hN
  obtain ⟨bw, -⟩ := bC c (by omega)
  have hq := pullN_le (N := N) bw
  have hsl := shareN_le (p := pullN N (N (27 + c))) (m := m)
  have hbr := brkP_lt N m (shareN (pullN N (N (27 + c))) m) (N 2)
  obtain ⟨s6, s7, s64⟩ := hN.set64
  have hbr2 : brkN N m (shareN (pullN N (N (27 + c))) m) < 64 := by
    unfold brkN
    omega
  refine Ev.only (EvX.enter rfl rfl rfl ?_)
  refine WP.run (pc' := if (nI m) = 0 then 22 else 4) (L' := [.ref 247, .int (nI c), .int (nI m)]) (st' := []) (I1 := I) 2 rfl ?_
  refine WP.br (fun h1 => ?_) (fun h1 => ?_)
  · have h1 : m = 0 := nI_eq_ (by omega) (by omega) h1
    refine WP.run (pc' := 23) (L' := [.ref 247, .int (nI c), .int (nI m)]) (st' := [.int (nI 0)]) (I1 := I) 1 rfl ?_
    exact WP.ret rfl rfl (⟨congrArg (fun z : Int32 => some (Value.int z)) (b2iF (by first | exact bornF1 (by assumption) | exact bornF2 (by assumption))).symm, rfl⟩)
  · have h1 : ¬ m = 0 := fun q => h1 (nI_eq_r q)
    refine WP.run (pc' := 9) (L' := [.ref 247, .int (nI c), .int (nI m)]) (st' := [.int (nI m), .int (nI c), .ref 247, .int (nI m), .ref 247]) (I1 := I) 5 rfl ?_
    refine WP.callV (rest := [.int (nI m), .ref 247]) rfl rfl (sp_strain (d := d) (c := c) (m := m) hT hN (by omega) (by omega)) ?_
    refine WP.callV (rest := []) rfl rfl (sp_breaking (d := d) (m := m) (sh := shareN (pullN N (N (27 + c))) m) hT hN (by omega) (by omega)) ?_
    refine WP.run (pc' := if ¬ (nI (brkN N m (shareN (pullN N (N (27 + c))) m))) = 0 then 22 else 18) (L' := [.ref 247, .int (nI c), .int (nI m)]) (st' := []) (I1 := I) 1 rfl ?_
    refine WP.br (fun h2 => ?_) (fun h2 => ?_)
    · have h2 : ¬ brkN N m (shareN (pullN N (N (27 + c))) m) = 0 := fun q => h2 (nI_eq_r q)
      refine WP.run (pc' := 23) (L' := [.ref 247, .int (nI c), .int (nI m)]) (st' := [.int (nI 0)]) (I1 := I) 1 rfl ?_
      exact WP.ret rfl rfl (⟨congrArg (fun z : Int32 => some (Value.int z)) (b2iF (by first | exact bornF1 (by assumption) | exact bornF2 (by assumption))).symm, rfl⟩)
    · have h2 : brkN N m (shareN (pullN N (N (27 + c))) m) = 0 := nI_eq_ (by omega) (by omega) (Decidable.byContradiction h2)
      refine WP.run (pc' := 23) (L' := [.ref 247, .int (nI c), .int (nI m)]) (st' := [.int (nI 1)]) (I1 := I) 2 rfl ?_
      exact WP.ret rfl rfl (⟨congrArg (fun z : Int32 => some (Value.int z)) (b2iT (bornT (by assumption) (by assumption))).symm, rfl⟩)
