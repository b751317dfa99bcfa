set_option maxRecDepth 100000 in
theorem lp_dueIn {d : Nat} {I : Pl} {n : Nat} {N : Nat → Nat} (hT : Tw I 247 N) (hN : TI N) (hn : n < 1000) : ∀ k, k ≤ N 3 → WP d (26, 5, (some .int), sc0) 4 [.ref 247, .int (nI n), .int (nI (dueP N (N 4 + n) k)), .int (nI k)] [] I (fun v J => v = some (.int (nI (dueN N (N 4 + n)))) ∧ J = I) := by
  refine loopUp (fun k hk ih => ?_)
  obtain ⟨b0, b1, b2, b3, b4, b5, b6, b7, b8, bS, bC, bS1, bC1, bZ, bG⟩ := id hN
  have hkc : k < N 3 → 1 ≤ N (27 + k) ∧ 1 ≤ N (32 + k) ∧ N (37 + k) < N (32 + k) := fun q => bC1 k q
  have hkb : k < 5 → N (27 + k) ≤ 99 ∧ N (32 + k) ≤ 9 ∧ N (37 + k) ≤ 8 := fun q => bC k q
  have hlt := dueP_lt N (N 4 + n) k
  refine WP.run (pc' := 9) (L' := [.ref 247, .int (nI n), .int (nI (dueP N (N 4 + n) k)), .int (nI k)]) (st' := [.int (I 247 8), .int (nI k)]) (I1 := I) 3 rfl ?_
  refine WP.cg (st' := [.int (nI (N 3)), .int (nI k)]) rfl (congrArg (fun z : Int32 => (.int z :: [.int (nI k)] : List Value)) (hT.f8)) rfl ?_
  refine WP.run (pc' := if (nI (N 3)) ≤ (nI k) then 55 else 12) (L' := [.ref 247, .int (nI n), .int (nI (dueP N (N 4 + n) k)), .int (nI k)]) (st' := []) (I1 := I) 1 rfl ?_
  refine WP.br (fun h1 => ?_) (fun h1 => ?_)
  · have h1 : N 3 ≤ k := nI_le_ (by omega) (by omega) h1
    refine WP.run (pc' := 56) (L' := [.ref 247, .int (nI n), .int (nI (dueP N (N 4 + n) k)), .int (nI k)]) (st' := [.int (nI (dueP N (N 4 + n) k))]) (I1 := I) 1 rfl ?_
    exact WP.ret rfl rfl (⟨by rw [show k = N 3 by omega]; rfl, rfl⟩)
  · have h1 : ¬ N 3 ≤ k := fun q => h1 (nI_le_r (by omega) q)
    refine WP.run (pc' := 17) (L' := [.ref 247, .int (nI n), .int (nI (dueP N (N 4 + n) k)), .int (nI k)]) (st' := [.int (nI k), .ref 252]) (I1 := I) 3 rfl ?_
    refine WP.iald rfl rfl rfl (by omega) (by decide) ?_
    refine WP.cg (st' := [.int (nI (N (32 + k)))]) rfl (congrArg (fun z : Int32 => (.int z :: [] : List Value)) (hT.a5 (k := k) (by omega))) rfl ?_
    refine WP.run (pc' := if (nI (N (32 + k))) ≤ 0 then 49 else 21) (L' := [.ref 247, .int (nI n), .int (nI (dueP N (N 4 + n) k)), .int (nI k)]) (st' := []) (I1 := I) 1 rfl ?_
    refine WP.brF (nI_nle (by omega) (by omega)) ?_
    refine WP.run (pc' := 25) (L' := [.ref 247, .int (nI n), .int (nI (dueP N (N 4 + n) k)), .int (nI k)]) (st' := [.int (I 247 3)]) (I1 := I) 2 rfl ?_
    refine WP.cg (st' := [.int (nI (N 4))]) rfl (congrArg (fun z : Int32 => (.int z :: [] : List Value)) (hT.f3)) rfl ?_
    refine WP.run (pc' := 27) (L' := [.ref 247, .int (nI n), .int (nI (dueP N (N 4 + n) k)), .int (nI k)]) (st' := [.int ((nI (N 4)) + (nI n))]) (I1 := I) 2 rfl ?_
    refine WP.cg (st' := [.int (nI ((N 4) + n))]) rfl (congrArg (fun z : Int32 => (.int z :: [] : List Value)) (nI_add (N 4) n)) rfl ?_
    refine WP.run (pc' := 32) (L' := [.ref 247, .int (nI n), .int (nI (dueP N (N 4 + n) k)), .int (nI k)]) (st' := [.int (nI k), .ref 252, .int (nI ((N 4) + n))]) (I1 := I) 3 rfl ?_
    refine WP.iald rfl rfl rfl (by omega) (by decide) ?_
    refine WP.cg (st' := [.int (nI (N (32 + k))), .int (nI ((N 4) + n))]) rfl (congrArg (fun z : Int32 => (.int z :: [.int (nI ((N 4) + n))] : List Value)) (hT.a5 (k := k) (by omega))) rfl ?_
    refine WP.irem (a := (N 4) + n) (b := N (32 + k)) rfl (by omega) (by omega) (by omega) ?_
    have hdv2 : ((N 4) + n) % (N (32 + k)) < (N (32 + k)) := Nat.mod_lt _ (by omega)
    refine WP.run (pc' := 39) (L' := [.ref 247, .int (nI n), .int (nI (dueP N (N 4 + n) k)), .int (nI k)]) (st' := [.int (nI k), .ref 253, .int (nI (((N 4) + n) % (N (32 + k))))]) (I1 := I) 3 rfl ?_
    refine WP.iald rfl rfl rfl (by omega) (by decide) ?_
    refine WP.cg (st' := [.int (nI (N (37 + k))), .int (nI (((N 4) + n) % (N (32 + k))))]) rfl (congrArg (fun z : Int32 => (.int z :: [.int (nI (((N 4) + n) % (N (32 + k))))] : List Value)) (hT.a6 (k := k) (by omega))) rfl ?_
    refine WP.run (pc' := if ¬ (nI (((N 4) + n) % (N (32 + k)))) = (nI (N (37 + k))) then 49 else 43) (L' := [.ref 247, .int (nI n), .int (nI (dueP N (N 4 + n) k)), .int (nI k)]) (st' := []) (I1 := I) 1 rfl ?_
    refine WP.br (fun h3 => ?_) (fun h3 => ?_)
    · have h3 : ¬ ((N 4) + n) % (N (32 + k)) = N (37 + k) := fun q => h3 (nI_eq_r q)
      refine WP.run (pc' := 52) (L' := [.ref 247, .int (nI n), .int (nI (dueP N (N 4 + n) k)), .int ((nI k) + nI 1)]) (st' := []) (I1 := I) 1 rfl ?_
      refine WP.cg (L' := [.ref 247, .int (nI n), .int (nI (dueP N (N 4 + n) k)), .int (nI (k + 1))]) (congrArg (fun z : Int32 => ([.ref 247, .int (nI n), .int (nI (dueP N (N 4 + n) k)), .int z] : List Value)) (nI_add k 1)) rfl rfl ?_
      refine WP.run (pc' := 4) (L' := [.ref 247, .int (nI n), .int (nI (dueP N (N 4 + n) k)), .int (nI (k + 1))]) (st' := []) (I1 := I) 1 rfl ?_
      refine WP.cg (L' := [.ref 247, .int (nI n), .int (nI (dueP N (N 4 + n) (k + 1))), .int (nI (k + 1))]) (congrArg (fun z : Nat => ([.ref 247, .int (nI n), .int (nI z), .int (nI (k + 1))] : List Value)) (by show _ = dueP N (N 4 + n) k + _; rw [if_neg (by assumption)]; rfl)) rfl rfl (ih (by omega))
    · have h3 : ((N 4) + n) % (N (32 + k)) = N (37 + k) := nI_eq_ (by omega) (by omega) (Decidable.byContradiction h3)
      refine WP.run (pc' := 47) (L' := [.ref 247, .int (nI n), .int (nI (dueP N (N 4 + n) k)), .int (nI k)]) (st' := [.int ((nI 1) <<< ((nI k) &&& 31)), .int (nI (dueP N (N 4 + n) k))]) (I1 := I) 4 rfl ?_
      refine WP.cg (st' := [.int (nI (2 ^ k)), .int (nI (dueP N (N 4 + n) k))]) rfl (congrArg (fun z : Int32 => (.int z :: [.int (nI (dueP N (N 4 + n) k))] : List Value)) (nI_shl1 k (by omega))) rfl ?_
      refine WP.run (pc' := 48) (L' := [.ref 247, .int (nI n), .int (nI (dueP N (N 4 + n) k)), .int (nI k)]) (st' := [.int ((nI (dueP N (N 4 + n) k)) ||| (nI (2 ^ k)))]) (I1 := I) 1 rfl ?_
      refine WP.cg (st' := [.int (nI ((dueP N (N 4 + n) k) ||| (2 ^ k)))]) rfl (congrArg (fun z : Int32 => (.int z :: [] : List Value)) (nI_or (dueP N (N 4 + n) k) (2 ^ k))) rfl ?_
      refine WP.run (pc' := 52) (L' := [.ref 247, .int (nI n), .int (nI ((dueP N (N 4 + n) k) ||| (2 ^ k))), .int ((nI k) + nI 1)]) (st' := []) (I1 := I) 2 rfl ?_
      refine WP.cg (L' := [.ref 247, .int (nI n), .int (nI ((dueP N (N 4 + n) k) ||| (2 ^ k))), .int (nI (k + 1))]) (congrArg (fun z : Int32 => ([.ref 247, .int (nI n), .int (nI ((dueP N (N 4 + n) k) ||| (2 ^ k))), .int z] : List Value)) (nI_add k 1)) rfl rfl ?_
      refine WP.run (pc' := 4) (L' := [.ref 247, .int (nI n), .int (nI ((dueP N (N 4 + n) k) ||| (2 ^ k))), .int (nI (k + 1))]) (st' := []) (I1 := I) 1 rfl ?_
      refine WP.cg (L' := [.ref 247, .int (nI n), .int (nI (dueP N (N 4 + n) (k + 1))), .int (nI (k + 1))]) (congrArg (fun z : Nat => ([.ref 247, .int (nI n), .int (nI z), .int (nI (k + 1))] : List Value)) (by have := dueP_lt N (N 4 + n) k; show _ = dueP N (N 4 + n) k + _; rw [if_pos (by assumption), or_pow this])) rfl rfl (ih (by omega))
set_option maxRecDepth 100000 in
theorem sp_dueIn {d : Nat} {I : Pl} {n : Nat} {N : Nat → Nat} (hT : Tw I 247 N) (hN : TI N) (hn : n < 1000) : Ev (d + 1) 26 [.ref 247, .int (nI n)] (mem I) (some (.int (nI (dueN N (N 4 + n))))) (mem I) := by
  refine Ev.only (EvX.enter rfl rfl rfl ?_)
  refine WP.run (pc' := 4) (L' := [.ref 247, .int (nI n), .int (nI 0), .int (nI 0)]) (st' := []) (I1 := I) 4 rfl ?_
  exact lp_dueIn hT hN hn 0 (Nat.zero_le _)
set_option maxRecDepth 100000 in
theorem lp_whoStrain {d : Nat} {I : Pl} {m x : Nat} {N : Nat → Nat} (hT : Tw I 247 N) (hN : TI N) (hm : m < 64) (hx : x < 1000) : ∀ k, k ≤ N 3 → WP (d + 2) (76, 5, (some .int), sc0) 5 [.ref 247, .int (nI m), .int (nI x), .int (nI (whoP N m x k)), .int (nI k)] [] I (fun v J => v = some (.int (nI (whoN N m x))) ∧ J = I) := by
  refine loopUp (fun k hk ih => ?_)
  obtain ⟨b0, b1, b2, b3, b4, b5, b6, b7, b8, bS, bC, bS1, bC1, bZ, bG⟩ := id hN
  have hkc : k < N 3 → 1 ≤ N (27 + k) ∧ 1 ≤ N (32 + k) ∧ N (37 + k) < N (32 + k) := fun q => bC1 k q
  have hkb : k < 5 → N (27 + k) ≤ 99 ∧ N (32 + k) ≤ 9 ∧ N (37 + k) ≤ 8 := fun q => bC k q
  have hlt := whoP_lt N m x k
  have hsl : k < 5 → shareN (pullN N (N (27 + k))) m ≤ 99 := fun q => Nat.le_trans shareN_le (pullN_le (hkb q).1)
  refine WP.run (pc' := 11) (L' := [.ref 247, .int (nI m), .int (nI x), .int (nI (whoP N m x k)), .int (nI k)]) (st' := [.int (I 247 8), .int (nI k)]) (I1 := I) 3 rfl ?_
  refine WP.cg (st' := [.int (nI (N 3)), .int (nI k)]) rfl (congrArg (fun z : Int32 => (.int z :: [.int (nI k)] : List Value)) (hT.f8)) rfl ?_
  refine WP.run (pc' := if (nI (N 3)) ≤ (nI k) then 38 else 14) (L' := [.ref 247, .int (nI m), .int (nI x), .int (nI (whoP N m x k)), .int (nI k)]) (st' := []) (I1 := I) 1 rfl ?_
  refine WP.br (fun h1 => ?_) (fun h1 => ?_)
  · have h1 : N 3 ≤ k := nI_le_ (by omega) (by omega) h1
    refine WP.run (pc' := 39) (L' := [.ref 247, .int (nI m), .int (nI x), .int (nI (whoP N m x k)), .int (nI k)]) (st' := [.int (nI (whoP N m x k))]) (I1 := I) 1 rfl ?_
    exact WP.ret rfl rfl (⟨by rw [show k = N 3 by omega]; rfl, rfl⟩)
  · have h1 : ¬ N 3 ≤ k := fun q => h1 (nI_le_r (by omega) q)
    refine WP.run (pc' := 18) (L' := [.ref 247, .int (nI m), .int (nI x), .int (nI (whoP N m x k)), .int (nI k)]) (st' := [.int (nI m), .int (nI k), .ref 247]) (I1 := I) 3 rfl ?_
    refine WP.callV (rest := []) rfl rfl (sp_strain (d := d) (c := k) (m := m) hT hN (by omega) (by omega)) ?_
    refine WP.run (pc' := if ¬ (nI (shareN (pullN N (N (27 + k))) m)) = (nI x) then 32 else 25) (L' := [.ref 247, .int (nI m), .int (nI x), .int (nI (whoP N m x k)), .int (nI k)]) (st' := []) (I1 := I) 2 rfl ?_
    refine WP.br (fun h2 => ?_) (fun h2 => ?_)
    · have h2 : ¬ shareN (pullN N (N (27 + k))) m = x := fun q => h2 (nI_eq_r q)
      refine WP.run (pc' := 35) (L' := [.ref 247, .int (nI m), .int (nI x), .int (nI (whoP N m x k)), .int ((nI k) + nI 1)]) (st' := []) (I1 := I) 1 rfl ?_
      refine WP.cg (L' := [.ref 247, .int (nI m), .int (nI x), .int (nI (whoP N m x k)), .int (nI (k + 1))]) (congrArg (fun z : Int32 => ([.ref 247, .int (nI m), .int (nI x), .int (nI (whoP N m x k)), .int z] : List Value)) (nI_add k 1)) rfl rfl ?_
      refine WP.run (pc' := 5) (L' := [.ref 247, .int (nI m), .int (nI x), .int (nI (whoP N m x k)), .int (nI (k + 1))]) (st' := []) (I1 := I) 1 rfl ?_
      refine WP.cg (L' := [.ref 247, .int (nI m), .int (nI x), .int (nI (whoP N m x (k + 1))), .int (nI (k + 1))]) (congrArg (fun z : Nat => ([.ref 247, .int (nI m), .int (nI x), .int (nI z), .int (nI (k + 1))] : List Value)) (by show _ = whoP N m x k + _; rw [if_neg (by assumption)]; rfl)) rfl rfl (ih (by omega))
    · have h2 : shareN (pullN N (N (27 + k))) m = x := nI_eq_ (by omega) (by omega) (Decidable.byContradiction h2)
      refine WP.run (pc' := 30) (L' := [.ref 247, .int (nI m), .int (nI x), .int (nI (whoP N m x k)), .int (nI k)]) (st' := [.int ((nI 1) <<< ((nI k) &&& 31)), .int (nI (whoP N m x k))]) (I1 := I) 4 rfl ?_
      refine WP.cg (st' := [.int (nI (2 ^ k)), .int (nI (whoP N m x k))]) rfl (congrArg (fun z : Int32 => (.int z :: [.int (nI (whoP N m x k))] : List Value)) (nI_shl1 k (by omega))) rfl ?_
      refine WP.run (pc' := 31) (L' := [.ref 247, .int (nI m), .int (nI x), .int (nI (whoP N m x k)), .int (nI k)]) (st' := [.int ((nI (whoP N m x k)) ||| (nI (2 ^ k)))]) (I1 := I) 1 rfl ?_
      refine WP.cg (st' := [.int (nI ((whoP N m x k) ||| (2 ^ k)))]) rfl (congrArg (fun z : Int32 => (.int z :: [] : List Value)) (nI_or (whoP N m x k) (2 ^ k))) rfl ?_
      refine WP.run (pc' := 35) (L' := [.ref 247, .int (nI m), .int (nI x), .int (nI ((whoP N m x k) ||| (2 ^ k))), .int ((nI k) + nI 1)]) (st' := []) (I1 := I) 2 rfl ?_
      refine WP.cg (L' := [.ref 247, .int (nI m), .int (nI x), .int (nI ((whoP N m x k) ||| (2 ^ k))), .int (nI (k + 1))]) (congrArg (fun z : Int32 => ([.ref 247, .int (nI m), .int (nI x), .int (nI ((whoP N m x k) ||| (2 ^ k))), .int z] : List Value)) (nI_add k 1)) rfl rfl ?_
      refine WP.run (pc' := 5) (L' := [.ref 247, .int (nI m), .int (nI x), .int (nI ((whoP N m x k) ||| (2 ^ k))), .int (nI (k + 1))]) (st' := []) (I1 := I) 1 rfl ?_
      refine WP.cg (L' := [.ref 247, .int (nI m), .int (nI x), .int (nI (whoP N m x (k + 1))), .int (nI (k + 1))]) (congrArg (fun z : Nat => ([.ref 247, .int (nI m), .int (nI x), .int (nI z), .int (nI (k + 1))] : List Value)) (by have := whoP_lt N m x k; show _ = whoP N m x k + _; rw [if_pos (by assumption), or_pow this])) rfl rfl (ih (by omega))
set_option maxRecDepth 100000 in
theorem sp_whoStrain {d : Nat} {I : Pl} {m x : Nat} {N : Nat → Nat} (hT : Tw I 247 N) (hN : TI N) (hm : m < 64) (hx : x < 1000) : Ev (d + 3) 76 [.ref 247, .int (nI m), .int (nI x)] (mem I) (some (.int (nI (whoN N m x)))) (mem I) := by
  refine Ev.only (EvX.enter rfl rfl rfl ?_)
  refine WP.run (pc' := 5) (L' := [.ref 247, .int (nI m), .int (nI x), .int (nI 0), .int (nI 0)]) (st' := []) (I1 := I) 4 rfl ?_
  exact lp_whoStrain hT hN hm hx 0 (Nat.zero_le _)
