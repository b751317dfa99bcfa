set_option maxRecDepth 100000 in
theorem ms_wearOf {d : Nat} {I : Pl} {s sh : Nat} (hs : s < 1000) (hsh : sh < 1000) : Ev (d + 1) 159 [.int (nI s), .int (nI sh)] (mem I) (some (.int (nI (wearN s sh)))) (mem I) := by
  refine Ev.only (EvX.enter rfl rfl rfl ?_)
  refine WP.run (pc' := if ¬ (nI s) = (nI 1) then 12 else 5) (L' := [.int (nI s), .int (nI sh)]) (st' := []) (I1 := I) 3 rfl ?_
  refine WP.br (fun h1 => ?_) (fun h1 => ?_)
  · have h1 : ¬ s = 1 := fun q => h1 (nI_eq_r q)
    refine WP.run (pc' := if ¬ (nI s) = (nI 3) then 26 else 17) (L' := [.int (nI s), .int (nI sh)]) (st' := []) (I1 := I) 3 rfl ?_
    refine WP.br (fun h2 => ?_) (fun h2 => ?_)
    · have h2 : ¬ s = 3 := fun q => h2 (nI_eq_r q)
      refine WP.run (pc' := if ¬ (nI s) = (nI 4) then 35 else 31) (L' := [.int (nI s), .int (nI sh)]) (st' := []) (I1 := I) 3 rfl ?_
      refine WP.br (fun h3 => ?_) (fun h3 => ?_)
      · have h3 : ¬ s = 4 := fun q => h3 (nI_eq_r q)
        refine WP.run (pc' := if ¬ (nI s) = (nI 5) then 49 else 40) (L' := [.int (nI s), .int (nI sh)]) (st' := []) (I1 := I) 3 rfl ?_
        refine WP.br (fun h4 => ?_) (fun h4 => ?_)
        · have h4 : ¬ s = 5 := fun q => h4 (nI_eq_r q)
          refine WP.run (pc' := 50) (L' := [.int (nI s), .int (nI sh)]) (st' := [.int (nI 0)]) (I1 := I) 1 rfl ?_
          exact WP.ret rfl rfl (⟨by unfold wearN; repeat first | rw [if_pos (by assumption)] | rw [if_neg (by assumption)], rfl⟩)
        · have h4 : s = 5 := nI_eq_ (by omega) (by omega) (Decidable.byContradiction h4)
          refine WP.run (pc' := 44) (L' := [.int (nI s), .int (nI sh)]) (st' := [.int (nI 20), .int (nI sh), .int (nI 1)]) (I1 := I) 3 rfl ?_
          refine WP.idiv (a := sh) (b := 20) rfl (by omega) (by omega) (by omega) ?_
          have hdv5 : sh / 20 ≤ sh := Nat.div_le_self _ _
          refine WP.run (pc' := 46) (L' := [.int (nI s), .int (nI sh)]) (st' := [.int ((nI 1) + (nI (sh / 20)))]) (I1 := I) 1 rfl ?_
          refine WP.cg (st' := [.int (nI (1 + (sh / 20)))]) rfl (congrArg (fun z : Int32 => (.int z :: [] : List Value)) (nI_add 1 (sh / 20))) rfl ?_
          refine WP.run (pc' := 50) (L' := [.int (nI s), .int (nI sh)]) (st' := [.int (nI (1 + (sh / 20)))]) (I1 := I) 1 rfl ?_
          exact WP.ret rfl rfl (⟨by unfold wearN; repeat first | rw [if_pos (by assumption)] | rw [if_neg (by assumption)], rfl⟩)
      · have h3 : s = 4 := nI_eq_ (by omega) (by omega) (Decidable.byContradiction h3)
        refine WP.run (pc' := 50) (L' := [.int (nI s), .int (nI sh)]) (st' := [.int (nI 1)]) (I1 := I) 2 rfl ?_
        exact WP.ret rfl rfl (⟨by unfold wearN; repeat first | rw [if_pos (by assumption)] | rw [if_neg (by assumption)], rfl⟩)
    · have h2 : s = 3 := nI_eq_ (by omega) (by omega) (Decidable.byContradiction h2)
      refine WP.run (pc' := 21) (L' := [.int (nI s), .int (nI sh)]) (st' := [.int (nI 10), .int (nI sh), .int (nI 2)]) (I1 := I) 3 rfl ?_
      refine WP.idiv (a := sh) (b := 10) rfl (by omega) (by omega) (by omega) ?_
      have hdv6 : sh / 10 ≤ sh := Nat.div_le_self _ _
      refine WP.run (pc' := 23) (L' := [.int (nI s), .int (nI sh)]) (st' := [.int ((nI 2) * (nI (sh / 10)))]) (I1 := I) 1 rfl ?_
      refine WP.cg (st' := [.int (nI (2 * (sh / 10)))]) rfl (congrArg (fun z : Int32 => (.int z :: [] : List Value)) (pk_mul 2 (sh / 10))) rfl ?_
      refine WP.run (pc' := 50) (L' := [.int (nI s), .int (nI sh)]) (st' := [.int (nI (2 * (sh / 10)))]) (I1 := I) 1 rfl ?_
      exact WP.ret rfl rfl (⟨by unfold wearN; repeat first | rw [if_pos (by assumption)] | rw [if_neg (by assumption)], rfl⟩)
  · have h1 : s = 1 := nI_eq_ (by omega) (by omega) (Decidable.byContradiction h1)
    refine WP.run (pc' := 8) (L' := [.int (nI s), .int (nI sh)]) (st' := [.int (nI 10), .int (nI sh)]) (I1 := I) 2 rfl ?_
    refine WP.idiv (a := sh) (b := 10) rfl (by omega) (by omega) (by omega) ?_
    have hdv7 : sh / 10 ≤ sh := Nat.div_le_self _ _
    refine WP.run (pc' := 50) (L' := [.int (nI s), .int (nI sh)]) (st' := [.int (nI (sh / 10))]) (I1 := I) 1 rfl ?_
    exact WP.ret rfl rfl (⟨by unfold wearN; repeat first | rw [if_pos (by assumption)] | rw [if_neg (by assumption)], rfl⟩)
set_option maxRecDepth 100000 in
theorem ms_isBorne {d : Nat} {I : Pl} {w m : Nat} {N : Nat → Nat} (hM : T0 I N) (hN : TI N) (hw : w ≤ 99) (hm : m < 64) : Ev (d + 3) 166 [.ref 271, .int (nI w), .int (nI m)] (mem I) (some (.int (b2i (bornN N w m = true)))) (mem I) := by
  obtain ⟨s6, s7, s64⟩ := hN.set64
  have hq := pullN_le (N := N) hw
  have hsl := shareN_le (p := pullN N w) (m := m)
  have hbr2 : brkN N m (shareN (pullN N w) m) < 64 := by
    have := brkP_lt N m (shareN (pullN N w) m) (N 2)
    unfold brkN
    omega
  refine Ev.only (EvX.enter rfl rfl rfl ?_)
  refine WP.run (pc' := if (nI m) = 0 then 25 else 4) (L' := [.ref 271, .int (nI w), .int (nI m)]) (st' := []) (I1 := I) 2 rfl ?_
  refine WP.br (fun h1 => ?_) (fun h1 => ?_)
  · have h1 : m = 0 := nI_eq_ (by omega) (by omega) h1
    refine WP.run (pc' := 26) (L' := [.ref 271, .int (nI w), .int (nI m)]) (st' := [.int (nI 0)]) (I1 := I) 1 rfl ?_
    exact WP.ret rfl rfl (⟨b2i01 (b2iF (by first | exact bornF1 (by assumption) | exact bornF2 (by assumption))), rfl⟩)
  · have h1 : ¬ m = 0 := fun q => h1 (nI_eq_r q)
    refine WP.run (pc' := 8) (L' := [.ref 271, .int (nI w), .int (nI m)]) (st' := [.int (nI w), .ref 271, .int (nI m), .ref 271]) (I1 := I) 4 rfl ?_
    refine WP.callV (rest := [.int (nI m), .ref 271]) rfl rfl (ms_pullOf (d := d + 1) (w := w) hM hN (by omega)) ?_
    refine WP.run (pc' := 12) (L' := [.ref 271, .int (nI w), .int (nI m)]) (st' := [.int (nI m), .int (nI (pullN N w)), .int (nI m), .ref 271]) (I1 := I) 1 rfl ?_
    refine WP.callV (rest := [.int (nI m), .ref 271]) rfl rfl (ms_shareOf (d := d) (p := pullN N w) (m := m) (by omega) (by omega)) ?_
    refine WP.callV (rest := []) rfl rfl (ms_breaking (d := d) (m := m) (sh := shareN (pullN N w) m) hM hN (by omega) (by omega)) ?_
    refine WP.run (pc' := if ¬ (nI (brkN N m (shareN (pullN N w) m))) = 0 then 25 else 21) (L' := [.ref 271, .int (nI w), .int (nI m)]) (st' := []) (I1 := I) 1 rfl ?_
    refine WP.br (fun h2 => ?_) (fun h2 => ?_)
    · have h2 : ¬ brkN N m (shareN (pullN N w) m) = 0 := fun q => h2 (nI_eq_r q)
      refine WP.run (pc' := 26) (L' := [.ref 271, .int (nI w), .int (nI m)]) (st' := [.int (nI 0)]) (I1 := I) 1 rfl ?_
      exact WP.ret rfl rfl (⟨b2i01 (b2iF (by first | exact bornF1 (by assumption) | exact bornF2 (by assumption))), rfl⟩)
    · have h2 : brkN N m (shareN (pullN N w) m) = 0 := nI_eq_ (by omega) (by omega) (Decidable.byContradiction h2)
      refine WP.run (pc' := 26) (L' := [.ref 271, .int (nI w), .int (nI m)]) (st' := [.int (nI 1)]) (I1 := I) 2 rfl ?_
      exact WP.ret rfl rfl (⟨b2i01 (b2iT (bornT (by assumption) (by assumption))), rfl⟩)
set_option maxRecDepth 100000 in
theorem ms_strainOf {d : Nat} {I : Pl} {c m : Nat} {N : Nat → Nat} (hM : T0 I N) (hN : TI N) (hc : c < 5) (hm : m < 64) : Ev (d + 3) 167 [.ref 271, .int (nI c), .int (nI m)] (mem I) (some (.int (nI (shareN (pullN N (N (27 + c))) m)))) (mem I) := by
  obtain ⟨b0, b1, b2, b3, b4, b5, b6, b7, b8, bS, bC, bS1, bC1, bZ, bG⟩ := id hN
  obtain ⟨bw, -⟩ := bC c (by omega)
  have hq := pullN_le (N := N) bw
  refine Ev.only (EvX.enter rfl rfl rfl ?_)
  refine WP.run (pc' := 9) (L' := [.ref 271, .int (nI c), .int (nI m)]) (st' := [.int ((nI 27) + (nI c)), .ref 272, .ref 271]) (I1 := I) 6 rfl ?_
  refine WP.cg (st' := [.int (nI (27 + c)), .ref 272, .ref 271]) rfl (congrArg (fun z : Int32 => (.int z :: [.ref 272, .ref 271] : List Value)) (nI_add 27 c)) rfl ?_
  refine WP.iald rfl rfl rfl (by omega) (by decide) ?_
  refine WP.cg (st' := [.int (nI (N (27 + c))), .ref 271]) rfl (congrArg (fun z : Int32 => (.int z :: [.ref 271] : List Value)) (hM (27 + c) (by omega))) rfl ?_
  refine WP.callV (rest := []) rfl rfl (ms_pullOf (d := d + 1) (w := N (27 + c)) hM hN (by omega)) ?_
  refine WP.run (pc' := 14) (L' := [.ref 271, .int (nI c), .int (nI m)]) (st' := [.int (nI m), .int (nI (pullN N (N (27 + c))))]) (I1 := I) 1 rfl ?_
  refine WP.callV (rest := []) rfl rfl (ms_shareOf (d := d) (p := pullN N (N (27 + c))) (m := m) (by omega) (by omega)) ?_
  exact WP.ret rfl rfl (⟨rfl, rfl⟩)
set_option maxRecDepth 100000 in
theorem lm_dueOn {d : Nat} {I : Pl} {n : Nat} {N : Nat → Nat} (hM : T0 I N) (hN : TI N) (hn : n < 3000) : ∀ k, k ≤ N 3 → WP d (169, 7, (some .int), sc0) 4 [.ref 271, .int (nI n), .int (nI (dueP N n k)), .int (nI k)] [] I (fun v J => v = some (.int (nI (dueN N n))) ∧ J = I) := by
  refine loopUp (fun k hk ih => ?_)
  obtain ⟨b0, b1, b2, b3, b4, b5, b6, b7, b8, bS, bC, bS1, bC1, bZ, bG⟩ := id hN
  have hkc : k < N 3 → 1 ≤ N (27 + k) ∧ 1 ≤ N (32 + k) ∧ N (37 + k) < N (32 + k) := fun q => bC1 k q
  have hkb : k < 5 → N (27 + k) ≤ 99 ∧ N (32 + k) ≤ 9 ∧ N (37 + k) ≤ 8 := fun q => bC k q
  have hlt := dueP_lt N n k
  refine WP.run (pc' := 10) (L' := [.ref 271, .int (nI n), .int (nI (dueP N n k)), .int (nI k)]) (st' := [.int (nI 3), .ref 272, .int (nI k)]) (I1 := I) 4 rfl ?_
  refine WP.iald rfl rfl rfl (by omega) (by decide) ?_
  refine WP.cg (st' := [.int (nI (N 3)), .int (nI k)]) rfl (congrArg (fun z : Int32 => (.int z :: [.int (nI k)] : List Value)) (hM 3 (by omega))) rfl ?_
  refine WP.run (pc' := if (nI (N 3)) ≤ (nI k) then 53 else 14) (L' := [.ref 271, .int (nI n), .int (nI (dueP N n k)), .int (nI k)]) (st' := []) (I1 := I) 1 rfl ?_
  refine WP.br (fun h1 => ?_) (fun h1 => ?_)
  · have h1 : N 3 ≤ k := nI_le_ (by omega) (by omega) h1
    refine WP.run (pc' := 54) (L' := [.ref 271, .int (nI n), .int (nI (dueP N n k)), .int (nI k)]) (st' := [.int (nI (dueP N n k))]) (I1 := I) 1 rfl ?_
    exact WP.ret rfl rfl (⟨by rw [show k = N 3 by omega]; rfl, rfl⟩)
  · have h1 : ¬ N 3 ≤ k := fun q => h1 (nI_le_r (by omega) q)
    refine WP.run (pc' := 24) (L' := [.ref 271, .int (nI n), .int (nI (dueP N n k)), .int (nI k)]) (st' := [.int ((nI 32) + (nI k)), .ref 272, .int (nI n), .int (nI (dueP N n k))]) (I1 := I) 7 rfl ?_
    refine WP.cg (st' := [.int (nI (32 + k)), .ref 272, .int (nI n), .int (nI (dueP N n k))]) rfl (congrArg (fun z : Int32 => (.int z :: [.ref 272, .int (nI n), .int (nI (dueP N n k))] : List Value)) (nI_add 32 k)) rfl ?_
    refine WP.iald rfl rfl rfl (by omega) (by decide) ?_
    refine WP.cg (st' := [.int (nI (N (32 + k))), .int (nI n), .int (nI (dueP N n k))]) rfl (congrArg (fun z : Int32 => (.int z :: [.int (nI n), .int (nI (dueP N n k))] : List Value)) (hM (32 + k) (by omega))) rfl ?_
    refine WP.irem (a := n) (b := N (32 + k)) rfl (by omega) (by omega) (by omega) ?_
    have hdv2 : n % (N (32 + k)) < (N (32 + k)) := Nat.mod_lt _ (by omega)
    refine WP.run (pc' := 34) (L' := [.ref 271, .int (nI n), .int (nI (dueP N n k)), .int (nI k)]) (st' := [.int ((nI 37) + (nI k)), .ref 272, .int (nI (n % (N (32 + k)))), .int (nI (dueP N n k))]) (I1 := I) 5 rfl ?_
    refine WP.cg (st' := [.int (nI (37 + k)), .ref 272, .int (nI (n % (N (32 + k)))), .int (nI (dueP N n k))]) rfl (congrArg (fun z : Int32 => (.int z :: [.ref 272, .int (nI (n % (N (32 + k)))), .int (nI (dueP N n k))] : List Value)) (nI_add 37 k)) rfl ?_
    refine WP.iald rfl rfl rfl (by omega) (by decide) ?_
    refine WP.cg (st' := [.int (nI (N (37 + k))), .int (nI (n % (N (32 + k)))), .int (nI (dueP N n k))]) rfl (congrArg (fun z : Int32 => (.int z :: [.int (nI (n % (N (32 + k)))), .int (nI (dueP N n k))] : List Value)) (hM (37 + k) (by omega))) rfl ?_
    refine WP.run (pc' := if ¬ (nI (n % (N (32 + k)))) = (nI (N (37 + k))) then 44 else 38) (L' := [.ref 271, .int (nI n), .int (nI (dueP N n k)), .int (nI k)]) (st' := [.int (nI (dueP N n k))]) (I1 := I) 1 rfl ?_
    refine WP.br (fun h3 => ?_) (fun h3 => ?_)
    · have h3 : ¬ n % (N (32 + k)) = N (37 + k) := fun q => h3 (nI_eq_r q)
      refine WP.run (pc' := 46) (L' := [.ref 271, .int (nI n), .int (nI (dueP N n k)), .int (nI k)]) (st' := [.int ((nI (dueP N n k)) ||| (nI 0))]) (I1 := I) 2 rfl ?_
      refine WP.cg (st' := [.int (nI ((dueP N n k) ||| 0))]) rfl (congrArg (fun z : Int32 => (.int z :: [] : List Value)) (nI_or (dueP N n k) 0)) rfl ?_
      refine WP.run (pc' := 50) (L' := [.ref 271, .int (nI n), .int (nI ((dueP N n k) ||| 0)), .int ((nI k) + nI 1)]) (st' := []) (I1 := I) 2 rfl ?_
      refine WP.cg (L' := [.ref 271, .int (nI n), .int (nI ((dueP N n k) ||| 0)), .int (nI (k + 1))]) (congrArg (fun z : Int32 => ([.ref 271, .int (nI n), .int (nI ((dueP N n k) ||| 0)), .int z] : List Value)) (nI_add k 1)) rfl rfl ?_
      refine WP.run (pc' := 4) (L' := [.ref 271, .int (nI n), .int (nI ((dueP N n k) ||| 0)), .int (nI (k + 1))]) (st' := []) (I1 := I) 1 rfl ?_
      refine WP.cg (L' := [.ref 271, .int (nI n), .int (nI (dueP N n (k + 1))), .int (nI (k + 1))]) (congrArg (fun z : Nat => ([.ref 271, .int (nI n), .int (nI z), .int (nI (k + 1))] : List Value)) (by show _ = dueP N n k + _; rw [Nat.or_zero, if_neg (by assumption)]; rfl)) rfl rfl (ih (by omega))
    · have h3 : n % (N (32 + k)) = N (37 + k) := nI_eq_ (by omega) (by omega) (Decidable.byContradiction h3)
      refine WP.run (pc' := 41) (L' := [.ref 271, .int (nI n), .int (nI (dueP N n k)), .int (nI k)]) (st' := [.int ((nI 1) <<< ((nI k) &&& 31)), .int (nI (dueP N n k))]) (I1 := I) 3 rfl ?_
      refine WP.cg (st' := [.int (nI (2 ^ k)), .int (nI (dueP N n k))]) rfl (congrArg (fun z : Int32 => (.int z :: [.int (nI (dueP N n k))] : List Value)) (nI_shl1 k (by omega))) rfl ?_
      refine WP.run (pc' := 46) (L' := [.ref 271, .int (nI n), .int (nI (dueP N n k)), .int (nI k)]) (st' := [.int ((nI (dueP N n k)) ||| (nI (2 ^ k)))]) (I1 := I) 2 rfl ?_
      refine WP.cg (st' := [.int (nI ((dueP N n k) ||| (2 ^ k)))]) rfl (congrArg (fun z : Int32 => (.int z :: [] : List Value)) (nI_or (dueP N n k) (2 ^ k))) rfl ?_
      refine WP.run (pc' := 50) (L' := [.ref 271, .int (nI n), .int (nI ((dueP N n k) ||| (2 ^ k))), .int ((nI k) + nI 1)]) (st' := []) (I1 := I) 2 rfl ?_
      refine WP.cg (L' := [.ref 271, .int (nI n), .int (nI ((dueP N n k) ||| (2 ^ k))), .int (nI (k + 1))]) (congrArg (fun z : Int32 => ([.ref 271, .int (nI n), .int (nI ((dueP N n k) ||| (2 ^ k))), .int z] : List Value)) (nI_add k 1)) rfl rfl ?_
      refine WP.run (pc' := 4) (L' := [.ref 271, .int (nI n), .int (nI ((dueP N n k) ||| (2 ^ k))), .int (nI (k + 1))]) (st' := []) (I1 := I) 1 rfl ?_
      refine WP.cg (L' := [.ref 271, .int (nI n), .int (nI (dueP N n (k + 1))), .int (nI (k + 1))]) (congrArg (fun z : Nat => ([.ref 271, .int (nI n), .int (nI z), .int (nI (k + 1))] : List Value)) (by have := dueP_lt N n k; show _ = dueP N n k + _; rw [if_pos (by assumption), or_pow this])) rfl rfl (ih (by omega))
set_option maxRecDepth 100000 in
theorem ms_dueOn {d : Nat} {I : Pl} {n : Nat} {N : Nat → Nat} (hM : T0 I N) (hN : TI N) (hn : n < 3000) : Ev (d + 1) 169 [.ref 271, .int (nI n)] (mem I) (some (.int (nI (dueN N n)))) (mem I) := by
  refine Ev.only (EvX.enter rfl rfl rfl ?_)
  refine WP.run (pc' := 4) (L' := [.ref 271, .int (nI n), .int (nI 0), .int (nI 0)]) (st' := []) (I1 := I) 4 rfl ?_
  exact lm_dueOn hM hN hn 0 (Nat.zero_le _)
theorem dueN_lt {N : Nat → Nat} {n : Nat} (hN : TI N) : dueN N n < 32 := by
  have h := dueP_lt N n (N 3)
  have h2 : 2 ^ N 3 ≤ 2 ^ 5 := Nat.pow_le_pow_right (by decide) hN.2.2.2.1
  unfold dueN
  omega
theorem whoN_lt {N : Nat → Nat} {m x : Nat} (hN : TI N) : whoN N m x < 32 := by
  have h := whoP_lt N m x (N 3)
  have h2 : 2 ^ N 3 ≤ 2 ^ 5 := Nat.pow_le_pow_right (by decide) hN.2.2.2.1
  unfold whoN
  omega
/-! one number of the reference's row changed -/
theorem T0.cg {I J : Pl} {N : Nat → Nat} (h : T0 I N) (hJ : ∀ k, k < 47 → J 272 k = I 272 k) : T0 J N := fun k hk => by rw [hJ k hk, h k hk]
theorem T0.up {I : Pl} {N : Nat → Nat} {i v : Nat} (h : T0 I N) : T0 (upN I 272 i (nI v)) (setN N i v) := by
  intro k hk
  by_cases q : k = i
  · subst q
    rw [upN_s, setN_s]
  · rw [upN_nk q, setN_o q]
    exact h k hk
theorem T0.out {I : Pl} {N : Nat → Nat} {o k : Nat} {v : Int32} (h : T0 I N) (q : ¬ o = 272 ∨ 47 ≤ k) : T0 (upN I o k v) N := by
  refine h.cg (fun j hj => ?_)
  rcases q with q | q
  · exact upN_no (fun e => q e.symm)
  · exact upN_nk (by omega)
/-- only these places have changed -/
def Only (I J : Pl) (P : Nat → Nat → Prop) : Prop := ∀ o k, ¬ P o k → J o k = I o k
theorem Only.rfl_ {I : Pl} {P : Nat → Nat → Prop} : Only I I P := fun _ _ _ => rfl
theorem Only.up {I J : Pl} {P : Nat → Nat → Prop} {o k : Nat} {v : Int32} (h : Only I J P) (hp : P o k) : Only I (upN J o k v) P := by
  intro a b hab
  by_cases q1 : a = o
  · by_cases q2 : b = k
    · subst q1
      subst q2
      exact absurd hp hab
    · rw [upN_nk q2]
      exact h a b hab
  · rw [upN_no q1]
    exact h a b hab
theorem Only.tr {I J K : Pl} {P : Nat → Nat → Prop} (h : Only I J P) (g : Only J K P) : Only I K P := fun o k q => (g o k q).trans (h o k q)
theorem Only.wk {I J : Pl} {P P2 : Nat → Nat → Prop} (h : Only I J P) (hp : ∀ o k, P o k → P2 o k) : Only I J P2 := fun o k q => h o k (fun z => q (hp o k z))
/-- the worn strands -/
def wP (o k : Nat) : Prop := o = 272 ∧ 21 ≤ k ∧ k < 27
theorem upN_same {I : Pl} {o k a b : Nat} : upN I o k (I o k) a b = I a b := by
  by_cases q1 : a = o
  · by_cases q2 : b = k
    · subst q1
      subst q2
      exact upN_s
    · exact upN_nk q2
  · exact upN_no q1
set_option maxRecDepth 100000 in
theorem lm_wears {d : Nat} {I : Pl} {N : Nat → Nat} {m sh : Nat} (hN : TI N) (hm : m < 64) (hsh : sh < 1000) (H : ∀ s, s < N 2 → bitN m s = 1 → N (21 + s) + wearN (N (9 + s)) sh ≤ 198) : ∀ k, k ≤ N 2 → ∀ J, T0 J (wN N m sh k) → Only I J wP → WP (d + 1) (160, 7, none, sc0) 2 [.ref 271, .int (nI m), .int (nI sh), .int (nI k)] [] J (fun v K => v = none ∧ T0 K (wN N m sh (N 2)) ∧ Only I K wP) := by
  refine loopUp (fun k hk ih => ?_)
  intro J hJ hF
  obtain ⟨b0, b1, b2, b3, b4, b5, b6, b7, b8, bS, bC, bS1, bC1, bZ, bG⟩ := id hN
  have hM := wN_TI hN H k hk
  have e2 := wN_o (N := N) (m := m) (sh := sh) k 2 (by omega) (by omega)
  have hbl := bitN_lt m k
  refine WP.run (pc' := 8) (L' := [.ref 271, .int (nI m), .int (nI sh), .int (nI k)]) (st' := [.int (nI 2), .ref 272, .int (nI k)]) (I1 := J) 4 rfl ?_
  refine WP.iald rfl rfl rfl (by omega) (by decide) ?_
  refine WP.cg (st' := [.int (nI (N 2)), .int (nI k)]) rfl (congrArg (fun z : Int32 => (.int z :: [.int (nI k)] : List Value)) ((hJ 2 (by omega)).trans (congrArg nI e2))) rfl ?_
  refine WP.run (pc' := if (nI (N 2)) ≤ (nI k) then 55 else 12) (L' := [.ref 271, .int (nI m), .int (nI sh), .int (nI k)]) (st' := []) (I1 := J) 1 rfl ?_
  refine WP.br (fun h1 => ?_) (fun h1 => ?_)
  · have h1 : N 2 ≤ k := nI_le_ (by omega) (by omega) h1
    exact WP.ret rfl rfl (⟨rfl, by rw [show N 2 = k by omega]; exact hJ, hF⟩)
  · have h1 : ¬ N 2 ≤ k := fun q => h1 (nI_le_r (by omega) q)
    obtain ⟨z1, z2, z3⟩ := hM.2.2.2.2.2.2.2.2.2.1 k (by omega)
    refine WP.run (pc' := 20) (L' := [.ref 271, .int (nI m), .int (nI sh), .int (nI k)]) (st' := [.int ((nI 21) + (nI k)), .ref 272]) (I1 := J) 5 rfl ?_
    refine WP.cg (st' := [.int (nI (21 + k)), .ref 272]) rfl (congrArg (fun z : Int32 => (.int z :: [.ref 272] : List Value)) (nI_add 21 k)) rfl ?_
    refine WP.run (pc' := 21) (L' := [.ref 271, .int (nI m), .int (nI sh), .int (nI k)]) (st' := [.int (nI (21 + k)), .ref 272, .int (nI (21 + k)), .ref 272]) (I1 := J) 1 rfl ?_
    refine WP.iald rfl rfl rfl (by omega) (by decide) ?_
    refine WP.cg (st' := [.int (nI (wN N m sh k (21 + k))), .int (nI (21 + k)), .ref 272]) rfl (congrArg (fun z : Int32 => (.int z :: [.int (nI (21 + k)), .ref 272] : List Value)) (hJ (21 + k) (by omega))) rfl ?_
    refine WP.run (pc' := 24) (L' := [.ref 271, .int (nI m), .int (nI sh), .int (nI k)]) (st' := [.int (nI k), .int (nI m), .int (nI (wN N m sh k (21 + k))), .int (nI (21 + k)), .ref 272]) (I1 := J) 2 rfl ?_
    refine WP.callB (rest := [.int (nI (wN N m sh k (21 + k))), .int (nI (21 + k)), .ref 272]) rfl rfl (ms_has (d := d) (m := m) (k := k) (by omega) (by omega)) (fun h2 => ?_) (fun h2 => ?_)
    · refine WP.run (pc' := 38) (L' := [.ref 271, .int (nI m), .int (nI sh), .int (nI k)]) (st' := [.int ((nI 9) + (nI k)), .ref 272, .int (nI (wN N m sh k (21 + k))), .int (nI (21 + k)), .ref 272]) (I1 := J) 6 rfl ?_
      refine WP.cg (st' := [.int (nI (9 + k)), .ref 272, .int (nI (wN N m sh k (21 + k))), .int (nI (21 + k)), .ref 272]) rfl (congrArg (fun z : Int32 => (.int z :: [.ref 272, .int (nI (wN N m sh k (21 + k))), .int (nI (21 + k)), .ref 272] : List Value)) (nI_add 9 k)) rfl ?_
      refine WP.iald rfl rfl rfl (by omega) (by decide) ?_
      refine WP.cg (st' := [.int (nI (wN N m sh k (9 + k))), .int (nI (wN N m sh k (21 + k))), .int (nI (21 + k)), .ref 272]) rfl (congrArg (fun z : Int32 => (.int z :: [.int (nI (wN N m sh k (21 + k))), .int (nI (21 + k)), .ref 272] : List Value)) (hJ (9 + k) (by omega))) rfl ?_
      refine WP.run (pc' := 40) (L' := [.ref 271, .int (nI m), .int (nI sh), .int (nI k)]) (st' := [.int (nI sh), .int (nI (wN N m sh k (9 + k))), .int (nI (wN N m sh k (21 + k))), .int (nI (21 + k)), .ref 272]) (I1 := J) 1 rfl ?_
      refine WP.callV (rest := [.int (nI (wN N m sh k (21 + k))), .int (nI (21 + k)), .ref 272]) rfl rfl (ms_wearOf (d := d) (s := wN N m sh k (9 + k)) (sh := sh) (by omega) (by omega)) ?_
      refine WP.run (pc' := 48) (L' := [.ref 271, .int (nI m), .int (nI sh), .int (nI k)]) (st' := [.int ((nI (wN N m sh k (21 + k))) + (nI (wearN (wN N m sh k (9 + k)) sh))), .int (nI (21 + k)), .ref 272]) (I1 := J) 2 rfl ?_
      refine WP.cg (st' := [.int (nI ((wN N m sh k (21 + k)) + (wearN (wN N m sh k (9 + k)) sh))), .int (nI (21 + k)), .ref 272]) rfl (congrArg (fun z : Int32 => (.int z :: [.int (nI (21 + k)), .ref 272] : List Value)) (nI_add (wN N m sh k (21 + k)) (wearN (wN N m sh k (9 + k)) sh))) rfl ?_
      refine WP.iast rfl rfl rfl (by omega) (by decide) ?_
      refine WP.run (pc' := 52) (L' := [.ref 271, .int (nI m), .int (nI sh), .int ((nI k) + nI 1)]) (st' := []) (I1 := (upN J 272 (21 + k) (nI ((wN N m sh k (21 + k)) + (wearN (wN N m sh k (9 + k)) sh))))) 1 rfl ?_
      refine WP.cg (L' := [.ref 271, .int (nI m), .int (nI sh), .int (nI (k + 1))]) (congrArg (fun z : Int32 => ([.ref 271, .int (nI m), .int (nI sh), .int z] : List Value)) (nI_add k 1)) rfl rfl ?_
      refine WP.run (pc' := 2) (L' := [.ref 271, .int (nI m), .int (nI sh), .int (nI (k + 1))]) (st' := []) (I1 := (upN J 272 (21 + k) (nI ((wN N m sh k (21 + k)) + (wearN (wN N m sh k (9 + k)) sh))))) 1 rfl ?_
      refine ih (by omega) _ ?_ (hF.up ⟨rfl, by omega, by omega⟩)
      rw [show wN N m sh (k + 1) = setN (wN N m sh k) (21 + k) _ from if_pos (by assumption)]
      exact T0.up hJ
    · refine WP.run (pc' := 48) (L' := [.ref 271, .int (nI m), .int (nI sh), .int (nI k)]) (st' := [.int ((nI (wN N m sh k (21 + k))) + (nI 0)), .int (nI (21 + k)), .ref 272]) (I1 := J) 3 rfl ?_
      refine WP.cg (st' := [.int (nI ((wN N m sh k (21 + k)) + 0)), .int (nI (21 + k)), .ref 272]) rfl (congrArg (fun z : Int32 => (.int z :: [.int (nI (21 + k)), .ref 272] : List Value)) (nI_add (wN N m sh k (21 + k)) 0)) rfl ?_
      refine WP.iast rfl rfl rfl (by omega) (by decide) ?_
      refine WP.run (pc' := 52) (L' := [.ref 271, .int (nI m), .int (nI sh), .int ((nI k) + nI 1)]) (st' := []) (I1 := (upN J 272 (21 + k) (nI ((wN N m sh k (21 + k)) + 0)))) 1 rfl ?_
      refine WP.cg (L' := [.ref 271, .int (nI m), .int (nI sh), .int (nI (k + 1))]) (congrArg (fun z : Int32 => ([.ref 271, .int (nI m), .int (nI sh), .int z] : List Value)) (nI_add k 1)) rfl rfl ?_
      refine WP.run (pc' := 2) (L' := [.ref 271, .int (nI m), .int (nI sh), .int (nI (k + 1))]) (st' := []) (I1 := (upN J 272 (21 + k) (nI ((wN N m sh k (21 + k)) + 0)))) 1 rfl ?_
      refine ih (by omega) _ ?_ (hF.up ⟨rfl, by omega, by omega⟩)
      rw [show wN N m sh (k + 1) = wN N m sh k from if_neg (by assumption), Nat.add_zero, ← hJ (21 + k) (by omega)]
      exact hJ.cg (fun i hi => upN_same)
set_option maxRecDepth 100000 in
theorem ms_wears {d : Nat} {I J : Pl} {N : Nat → Nat} {m sh : Nat} (hJ : T0 J N) (hF : Only I J wP) (hN : TI N) (hm : m < 64) (hsh : sh < 1000) (H : ∀ s, s < N 2 → bitN m s = 1 → N (21 + s) + wearN (N (9 + s)) sh ≤ 198) : EvX (d + 2) 160 [.ref 271, .int (nI m), .int (nI sh)] J (fun v K => v = none ∧ T0 K (wN N m sh (N 2)) ∧ Only I K wP) := by
  refine EvX.enter rfl rfl rfl ?_
  refine WP.run (pc' := 2) (L' := [.ref 271, .int (nI m), .int (nI sh), .int (nI 0)]) (st' := []) (I1 := J) 2 rfl ?_
  exact lm_wears hN hm hsh H 0 (Nat.zero_le _) J hJ hF
