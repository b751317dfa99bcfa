set_option maxRecDepth 100000 in
theorem at62 {d : Nat} {J : Pl} {N : Nat → Nat} {c p x k : Nat} {Q : Option Value → Pl → Prop} (hT : Tw J 247 N) (hN : TI N) (hc : c < N 3) (g : WP (d + 2) (71, 5, (some .int), sc0) 29 [.ref 247, .int (nI c), .int (nI p), .int (nI (bkC N c)), .int (nI (k + 1))] [] J Q) : WP (d + 2) (71, 5, (some .int), sc0) 62 [.ref 247, .int (nI c), .int (nI p), .int (nI x), .int (nI k)] [] J Q := by
  have h64 := hN.set64
  obtain ⟨b0, b1, b2, b3, b4, b5, b6, b7, b8, bS, bC, bS1, bC1, bZ, bG⟩ := id hN
  obtain ⟨bw, -⟩ := bC c (by omega)
  have hsl : shC N c ≤ 99 := Nat.le_trans shareN_le (pullN_le bw)
  have hbl := bkC_lt (N := N) c
  refine WP.run (pc' := 67) (L' := [.ref 247, .int (nI c), .int (nI p), .int (nI x), .int (nI k)]) (st' := [.int (J 247 5), .ref 247]) (I1 := J) 3 rfl ?_
  refine WP.cg (st' := [.int (nI (N 6)), .ref 247]) rfl (congrArg (fun z : Int32 => (.int z :: [.ref 247] : List Value)) (hT.f5)) rfl ?_
  refine WP.run (pc' := 73) (L' := [.ref 247, .int (nI c), .int (nI p), .int (nI x), .int (nI k)]) (st' := [.int (J 247 5), .int (nI c), .ref 247, .int (nI (N 6)), .ref 247]) (I1 := J) 4 rfl ?_
  refine WP.cg (st' := [.int (nI (N 6)), .int (nI c), .ref 247, .int (nI (N 6)), .ref 247]) rfl (congrArg (fun z : Int32 => (.int z :: [.int (nI c), .ref 247, .int (nI (N 6)), .ref 247] : List Value)) (hT.f5)) rfl ?_
  refine WP.callV (rest := [.int (nI (N 6)), .ref 247]) rfl rfl (sp_strain (d := d) (c := c) (m := N 6) hT hN (by omega) (by omega)) ?_
  refine WP.callV (rest := []) rfl rfl (sp_breaking (d := d) (m := N 6) (sh := shC N c) hT hN (by omega) (by omega)) ?_
  refine WP.run (pc' := 83) (L' := [.ref 247, .int (nI c), .int (nI p), .int (nI (bkC N c)), .int ((nI k) + nI 1)]) (st' := []) (I1 := J) 2 rfl ?_
  refine WP.cg (L' := [.ref 247, .int (nI c), .int (nI p), .int (nI (bkC N c)), .int (nI (k + 1))]) (congrArg (fun z : Int32 => ([.ref 247, .int (nI c), .int (nI p), .int (nI (bkC N c)), .int z] : List Value)) (nI_add k 1)) rfl rfl ?_
  refine WP.run (pc' := 29) (L' := [.ref 247, .int (nI c), .int (nI p), .int (nI (bkC N c)), .int (nI (k + 1))]) (st' := []) (I1 := J) 1 rfl ?_
  exact g
set_option maxRecDepth 100000 in
theorem at86 {d : Nat} {I J : Pl} {N : Nat → Nat} {c p x k : Nat} (hT : Tw J 247 N) (hF : Fr I J 247 255) (hN : TI N) (hc : c < N 3) (hb : bkC N c = 0) (hp : popc (N 6) ≤ p) : WP (d + 2) (71, 5, (some .int), sc0) 86 [.ref 247, .int (nI c), .int (nI p), .int (nI x), .int (nI k)] [] J (fun v K => v = some (.int (nI (p - popc (N 6)))) ∧ Tw K 247 (if N 6 = 0 then setN N (42 + c) (N (42 + c) + 1) else wN N (N 6) (shC N c) (N 2)) ∧ Fr I K 247 255) := by
  have h64 := hN.set64
  obtain ⟨b0, b1, b2, b3, b4, b5, b6, b7, b8, bS, bC, bS1, bC1, bZ, bG⟩ := id hN
  obtain ⟨bw, -⟩ := bC c (by omega)
  have hsl : shC N c ≤ 99 := Nat.le_trans shareN_le (pullN_le bw)
  have hbl := bkC_lt (N := N) c
  refine WP.run (pc' := 90) (L' := [.ref 247, .int (nI c), .int (nI p), .int (nI x), .int (nI k)]) (st' := [.int (J 247 5)]) (I1 := J) 2 rfl ?_
  refine WP.cg (st' := [.int (nI (N 6))]) rfl (congrArg (fun z : Int32 => (.int z :: [] : List Value)) (hT.f5)) rfl ?_
  refine WP.run (pc' := if ¬ (nI (N 6)) = 0 then 106 else 93) (L' := [.ref 247, .int (nI c), .int (nI p), .int (nI x), .int (nI k)]) (st' := []) (I1 := J) 1 rfl ?_
  refine WP.br (fun h1 => ?_) (fun h1 => ?_)
  · have h1 : ¬ N 6 = 0 := fun q => h1 (nI_eq_r q)
    refine WP.run (pc' := 113) (L' := [.ref 247, .int (nI c), .int (nI p), .int (nI x), .int (nI k)]) (st' := [.int (J 247 5), .int (nI c), .ref 247, .ref 247]) (I1 := J) 5 rfl ?_
    refine WP.cg (st' := [.int (nI (N 6)), .int (nI c), .ref 247, .ref 247]) rfl (congrArg (fun z : Int32 => (.int z :: [.int (nI c), .ref 247, .ref 247] : List Value)) (hT.f5)) rfl ?_
    refine WP.callV (rest := [.ref 247]) rfl rfl (sp_strain (d := d) (c := c) (m := N 6) hT hN (by omega) (by omega)) ?_
    refine WP.callX (rest := []) rfl rfl (sp_wearPlait (d := d) (sh := shC N c) hT hF hN (by omega) (wear_ok hN hc (by assumption) hb)) (fun v J1 hv => ?_)
    obtain ⟨rfl, hT2, hF2⟩ := hv
    have e6 : wN N (N 6) (shC N c) (N 2) 6 = N 6 := wN_o (N 2) 6 (by omega) (by omega)
    refine WP.run (pc' := 124) (L' := [.ref 247, .int (nI c), .int (nI p), .int (nI x), .int (nI k)]) (st' := [.int (J1 247 5), .int (nI p)]) (I1 := J1) 3 rfl ?_
    refine WP.cg (st' := [.int (nI (N 6)), .int (nI p)]) rfl (congrArg (fun z : Int32 => (.int z :: [.int (nI p)] : List Value)) (hT2.f5.trans (congrArg nI e6))) rfl ?_
    refine WP.callV (rest := [.int (nI p)]) rfl rfl (sp_bitCount (d := d + 1) (m := N 6) (by omega)) ?_
    refine WP.run (pc' := 128) (L' := [.ref 247, .int (nI c), .int (nI p), .int (nI x), .int (nI k)]) (st' := [.int ((nI p) - (nI (popc (N 6))))]) (I1 := J1) 1 rfl ?_
    refine WP.cg (st' := [.int (nI (p - (popc (N 6))))]) rfl (congrArg (fun z : Int32 => (.int z :: [] : List Value)) (pk_sub (a := p) (b := popc (N 6)) (by omega))) rfl ?_
    exact WP.ret rfl rfl (⟨rfl, by rw [if_neg (by assumption)]; exact hT2, hF2⟩)
  · have h1 : N 6 = 0 := nI_eq_ (by omega) (by omega) (Decidable.byContradiction h1)
    refine WP.run (pc' := 99) (L' := [.ref 247, .int (nI c), .int (nI p), .int (nI x), .int (nI k)]) (st' := [.int (nI c), .ref 254, .int (nI c), .ref 254]) (I1 := J) 4 rfl ?_
    refine WP.iald rfl rfl rfl (by omega) (by decide) ?_
    refine WP.cg (st' := [.int (nI (N (42 + c))), .int (nI c), .ref 254]) rfl (congrArg (fun z : Int32 => (.int z :: [.int (nI c), .ref 254] : List Value)) (hT.a7 (k := c) (by omega))) rfl ?_
    refine WP.run (pc' := 102) (L' := [.ref 247, .int (nI c), .int (nI p), .int (nI x), .int (nI k)]) (st' := [.int ((nI (N (42 + c))) + (nI 1)), .int (nI c), .ref 254]) (I1 := J) 2 rfl ?_
    refine WP.cg (st' := [.int (nI ((N (42 + c)) + 1)), .int (nI c), .ref 254]) rfl (congrArg (fun z : Int32 => (.int z :: [.int (nI c), .ref 254] : List Value)) (nI_add (N (42 + c)) 1)) rfl ?_
    refine WP.iast rfl rfl rfl (by omega) (by decide) ?_
    refine WP.run (pc' := 124) (L' := [.ref 247, .int (nI c), .int (nI p), .int (nI x), .int (nI k)]) (st' := [.int (J 247 5), .int (nI p)]) (I1 := (upN J 254 c (nI ((N (42 + c)) + 1)))) 4 rfl ?_
    refine WP.cg (st' := [.int (nI (N 6)), .int (nI p)]) rfl (congrArg (fun z : Int32 => (.int z :: [.int (nI p)] : List Value)) (hT.f5)) rfl ?_
    refine WP.callV (rest := [.int (nI p)]) rfl rfl (sp_bitCount (d := d + 1) (m := N 6) (by omega)) ?_
    refine WP.run (pc' := 128) (L' := [.ref 247, .int (nI c), .int (nI p), .int (nI x), .int (nI k)]) (st' := [.int ((nI p) - (nI (popc (N 6))))]) (I1 := (upN J 254 c (nI ((N (42 + c)) + 1)))) 1 rfl ?_
    refine WP.cg (st' := [.int (nI (p - (popc (N 6))))]) rfl (congrArg (fun z : Int32 => (.int z :: [] : List Value)) (pk_sub (a := p) (b := popc (N 6)) (by omega))) rfl ?_
    exact WP.ret rfl rfl (⟨rfl, by rw [if_pos (by assumption)]; exact hT.fell, hF.up (by decide) (by decide)⟩)
set_option maxRecDepth 100000 in
theorem lp_letClimb {d : Nat} {I : Pl} {N : Nat → Nat} {c : Nat} (hN : TI N) (hc : c < N 3) : ∀ k, k ≤ 6 → ∀ J, Tw J 247 (brN N c k) → Fr I J 247 255 → WP (d + 2) (71, 5, (some .int), sc0) 29 [.ref 247, .int (nI c), .int (nI (popc (N 6))), .int (nI (bkC (brN N c k) c)), .int (nI k)] [] J (fun v K => v = some (.int (nI (popc (N 6) - popc (brN N c 6 6)))) ∧ Tw K 247 (climbN N c) ∧ Fr I K 247 255) := by
  refine loopUp (fun k hk ih => ?_)
  intro J hJ hF
  have hM := brN_TI (c := c) hN k
  have h64 := hM.set64
  have hbl := bkC_lt (N := brN N c k) c
  have hc3 : c < brN N c k 3 := by
    rw [brN_o k 3 (by omega)]
    exact hc
  refine WP.run (pc' := if (nI 6) ≤ (nI k) then 86 else 36) (L' := [.ref 247, .int (nI c), .int (nI (popc (N 6))), .int (nI (bkC (brN N c k) c)), .int (nI k)]) (st' := []) (I1 := J) 3 rfl ?_
  refine WP.br (fun h1 => ?_) (fun h1 => ?_)
  · have h1 : 6 ≤ k := nI_le_ (by omega) (by omega) h1
    have hQ : brN N c 6 = brN N c k := by first | exact brN_six (by omega) (by assumption) | rw [show k = 6 by omega]
    unfold climbN
    rw [hQ]
    exact at86 hJ hF hM hc3 (by rw [← hQ]; exact brN_end hN) (brN_pop hN k)
  · have h1 : ¬ 6 ≤ k := fun q => h1 (nI_le_r (by omega) q)
    refine WP.run (pc' := if (nI (bkC (brN N c k) c)) = 0 then 86 else 40) (L' := [.ref 247, .int (nI c), .int (nI (popc (N 6))), .int (nI (bkC (brN N c k) c)), .int (nI k)]) (st' := []) (I1 := J) 2 rfl ?_
    refine WP.br (fun h2 => ?_) (fun h2 => ?_)
    · have h2 : bkC (brN N c k) c = 0 := nI_eq_ (by omega) (by omega) h2
      have hQ : brN N c 6 = brN N c k := by first | exact brN_six (by omega) (by assumption) | rw [show k = 6 by omega]
      unfold climbN
      rw [hQ]
      exact at86 hJ hF hM hc3 (by rw [← hQ]; exact brN_end hN) (brN_pop hN k)
    · have h2 : ¬ bkC (brN N c k) c = 0 := fun q => h2 (nI_eq_r q)
      refine WP.run (pc' := 45) (L' := [.ref 247, .int (nI c), .int (nI (popc (N 6))), .int (nI (bkC (brN N c k) c)), .int (nI k)]) (st' := [.int (J 247 5), .ref 247]) (I1 := J) 3 rfl ?_
      refine WP.cg (st' := [.int (nI ((brN N c k) 6)), .ref 247]) rfl (congrArg (fun z : Int32 => (.int z :: [.ref 247] : List Value)) (hJ.f5)) rfl ?_
      refine WP.run (pc' := 49) (L' := [.ref 247, .int (nI c), .int (nI (popc (N 6))), .int (nI (bkC (brN N c k) c)), .int (nI k)]) (st' := [.int ((nI ((brN N c k) 6)) &&& ((nI (bkC (brN N c k) c)) ^^^ (-1))), .ref 247]) (I1 := J) 4 rfl ?_
      refine WP.cg (st' := [.int (nI (sdf (brN N c k 6) (bkC (brN N c k) c))), .ref 247]) rfl (congrArg (fun z : Int32 => (.int z :: [.ref 247] : List Value)) (nI_not _ _ (by omega) (by omega))) rfl ?_
      refine WP.run (pc' := 57) (L' := [.ref 247, .int (nI c), .int (nI (popc (N 6))), .int (nI (bkC (brN N c k) c)), .int (nI k)]) (st' := [.int (J 247 6), .ref 247]) (I1 := (upN J 247 5 (nI (sdf (brN N c k 6) (bkC (brN N c k) c))))) 4 rfl ?_
      refine WP.cg (st' := [.int (nI ((brN N c k) 7)), .ref 247]) rfl (congrArg (fun z : Int32 => (.int z :: [.ref 247] : List Value)) (hJ.f6)) rfl ?_
      refine WP.run (pc' := 59) (L' := [.ref 247, .int (nI c), .int (nI (popc (N 6))), .int (nI (bkC (brN N c k) c)), .int (nI k)]) (st' := [.int ((nI ((brN N c k) 7)) ||| (nI (bkC (brN N c k) c))), .ref 247]) (I1 := (upN J 247 5 (nI (sdf (brN N c k 6) (bkC (brN N c k) c))))) 2 rfl ?_
      refine WP.cg (st' := [.int (nI (((brN N c k) 7) ||| (bkC (brN N c k) c))), .ref 247]) rfl (congrArg (fun z : Int32 => (.int z :: [.ref 247] : List Value)) (nI_or ((brN N c k) 7) (bkC (brN N c k) c))) rfl ?_
      refine WP.run (pc' := 62) (L' := [.ref 247, .int (nI c), .int (nI (popc (N 6))), .int (nI (bkC (brN N c k) c)), .int (nI k)]) (st' := []) (I1 := (upN (upN J 247 5 (nI (sdf (brN N c k 6) (bkC (brN N c k) c)))) 247 6 (nI (((brN N c k) 7) ||| (bkC (brN N c k) c))))) 1 rfl ?_
      have hJ2 : Tw (upN (upN J 247 5 (nI (sdf (brN N c k 6) (bkC (brN N c k) c)))) 247 6 (nI (((brN N c k) 7) ||| (bkC (brN N c k) c)))) 247 (brN N c (k + 1)) := by
        rw [brN_e, if_neg (by assumption)]
        exact hJ.sets
      exact at62 hJ2 (brN_TI hN (k + 1)) (by rw [brN_o (k + 1) 3 (by omega)]; exact hc) (ih (by omega) _ hJ2 ((hF.up (by decide) (by decide)).up (by decide) (by decide)))
set_option maxRecDepth 100000 in
theorem sp_letClimb {d : Nat} {I : Pl} {N : Nat → Nat} {c : Nat} (hT : Tw I 247 N) (hN : TI N) (hc : c < N 3) : EvX (d + 3) 71 [.ref 247, .int (nI c)] I (fun v K => v = some (.int (nI (popc (N 6) - popc (brN N c 6 6)))) ∧ Tw K 247 (climbN N c) ∧ Fr I K 247 255) := by
  have h64 := hN.set64
  obtain ⟨b0, b1, b2, b3, b4, b5, b6, b7, b8, bS, bC, bS1, bC1, bZ, bG⟩ := id hN
  obtain ⟨bw, -⟩ := bC c (by omega)
  have hsl : shC N c ≤ 99 := Nat.le_trans shareN_le (pullN_le bw)
  have hbl := bkC_lt (N := N) c
  refine EvX.enter rfl rfl rfl ?_
  refine WP.run (pc' := 4) (L' := [.ref 247, .int (nI c), UU, UU, UU]) (st' := [.int (I 247 5)]) (I1 := I) 2 rfl ?_
  refine WP.cg (st' := [.int (nI (N 6))]) rfl (congrArg (fun z : Int32 => (.int z :: [] : List Value)) (hT.f5)) rfl ?_
  refine WP.callV (rest := []) rfl rfl (sp_bitCount (d := d + 1) (m := N 6) (by omega)) ?_
  refine WP.run (pc' := 13) (L' := [.ref 247, .int (nI c), .int (nI (popc (N 6))), UU, UU]) (st' := [.int (I 247 5), .ref 247]) (I1 := I) 4 rfl ?_
  refine WP.cg (st' := [.int (nI (N 6)), .ref 247]) rfl (congrArg (fun z : Int32 => (.int z :: [.ref 247] : List Value)) (hT.f5)) rfl ?_
  refine WP.run (pc' := 19) (L' := [.ref 247, .int (nI c), .int (nI (popc (N 6))), UU, UU]) (st' := [.int (I 247 5), .int (nI c), .ref 247, .int (nI (N 6)), .ref 247]) (I1 := I) 4 rfl ?_
  refine WP.cg (st' := [.int (nI (N 6)), .int (nI c), .ref 247, .int (nI (N 6)), .ref 247]) rfl (congrArg (fun z : Int32 => (.int z :: [.int (nI c), .ref 247, .int (nI (N 6)), .ref 247] : List Value)) (hT.f5)) rfl ?_
  refine WP.callV (rest := [.int (nI (N 6)), .ref 247]) rfl rfl (sp_strain (d := d) (c := c) (m := N 6) hT hN (by omega) (by omega)) ?_
  refine WP.callV (rest := []) rfl rfl (sp_breaking (d := d) (m := N 6) (sh := shC N c) hT hN (by omega) (by omega)) ?_
  refine WP.run (pc' := 29) (L' := [.ref 247, .int (nI c), .int (nI (popc (N 6))), .int (nI (bkC N c)), .int (nI 0)]) (st' := []) (I1 := I) 3 rfl ?_
  exact lp_letClimb hN hc 0 (Nat.zero_le _) I hT Fr.rfl_
