theorem WP.iremR {d : Nat} {fc : FC} {pc : Nat} {L st : List Value} {I : Pl} {Q : Option Value → Pl → Prop} {x y : Int32} (hq : asc (cdT fc.1) pc = some (.irem, 1)) (hy : ¬ y = 0) (g : WP d fc (pc + 1) L (.int (x - x / y * y) :: st) I Q) : WP d fc pc L (.int y :: .int x :: st) I Q := by
  obtain ⟨r, I', g, hQ⟩ := g
  refine ⟨r, I', At.stp1 hq ?_ g, hQ⟩
  dsimp only [stp]
  rw [if_neg hy]
theorem xor_lt31 {a b : Nat} (ha : a < 2 ^ 31) (hb : b < 2 ^ 31) : a ^^^ b < 2 ^ 31 := Nat.xor_lt_two_pow ha hb
set_option maxRecDepth 100000 in
theorem sp_floorMod {d : Nat} {I : Pl} {a b e : Nat} (ha : a < 10) (hb : b < 1000) (he : e < 10) (h0 : 0 < e) : Ev (d + 1) 72 [.int (nI a - nI b), .int (nI e)] (mem I) (some (.int (nI (fmN a b e)))) (mem I) := by
  refine Ev.only (EvX.enter rfl rfl rfl ?_)
  rcases Nat.lt_or_ge a b with hab | hab
  · refine WP.cg (L' := [.int (-(nI (b - a))), .int (nI e), UU]) (congrArg (fun z : Int32 => ([.int z, .int (nI e), UU] : List Value)) (sub_neg (by omega))) rfl rfl ?_
    refine WP.run (pc' := 2) (L' := [.int (-(nI (b - a))), .int (nI e), UU]) (st' := [.int (nI e), .int (-(nI (b - a)))]) (I1 := I) 2 rfl ?_
    refine WP.iremR rfl (nI_n0 h0 (by omega)) ?_
    refine WP.cg (st' := [.int (-(nI ((b - a) % e)))]) rfl (congrArg (fun z : Int32 => ([.int z] : List Value)) (by rw [neg_rem (b - a) (by omega) e he, if_neg (by omega)])) rfl ?_
    refine WP.run (pc' := if 0 ≤ (-(nI (b - a))) ^^^ nI e then 18 else 10) (L' := [.int (-(nI (b - a))), .int (nI e), .int (-(nI ((b - a) % e)))]) (st' := []) (I1 := I) 5 rfl ?_
    refine WP.brF (by rcases neg_xor (b - a) (by omega) e he with h | h | h <;> first | exact h | omega) ?_
    have hm : (b - a) % e < e := Nat.mod_lt _ h0
    refine WP.run (pc' := if -(nI ((b - a) % e)) = 0 then 18 else 14) (L' := [.int (-(nI (b - a))), .int (nI e), .int (-(nI ((b - a) % e)))]) (st' := []) (I1 := I) 2 rfl ?_
    refine WP.br (fun h1 => ?_) (fun h1 => ?_)
    · have h2 := (neg_z _ (by omega)).mp h1
      refine WP.run (pc' := 19) (L' := [.int (-(nI (b - a))), .int (nI e), .int (-(nI ((b - a) % e)))]) (st' := [.int (-(nI ((b - a) % e)))]) (I1 := I) 1 rfl ?_
      exact WP.ret rfl rfl ⟨by rw [← fm_lt (a := a) (b := b) (e := e) (by omega) h0, if_pos h2, h1]; rfl, rfl⟩
    · have h2 : ¬ (b - a) % e = 0 := fun q => h1 ((neg_z _ (by omega)).mpr q)
      refine WP.run (pc' := 17) (L' := [.int (-(nI (b - a))), .int (nI e), .int (-(nI ((b - a) % e)))]) (st' := [.int (-(nI ((b - a) % e)) + nI e)]) (I1 := I) 3 rfl ?_
      exact WP.ret rfl rfl ⟨by rw [← fm_lt (a := a) (b := b) (e := e) (by omega) h0, if_neg h2, neg_ad _ (by omega) e he (by omega)], rfl⟩
  · refine WP.cg (L' := [.int (nI (a - b)), .int (nI e), UU]) (congrArg (fun z : Int32 => ([.int z, .int (nI e), UU] : List Value)) (pk_sub hab)) rfl rfl ?_
    refine WP.run (pc' := 2) (L' := [.int (nI (a - b)), .int (nI e), UU]) (st' := [.int (nI e), .int (nI (a - b))]) (I1 := I) 2 rfl ?_
    refine WP.irem (a := a - b) (b := e) rfl (by omega) h0 (by omega) ?_
    refine WP.run (pc' := if 0 ≤ nI (a - b) ^^^ nI e then 18 else 10) (L' := [.int (nI (a - b)), .int (nI e), .int (nI ((a - b) % e))]) (st' := []) (I1 := I) 5 rfl ?_
    refine WP.brT (by rw [nI_xor]; exact nI_pos' (xor_lt31 (by omega) (by omega))) ?_
    refine WP.run (pc' := 19) (L' := [.int (nI (a - b)), .int (nI e), .int (nI ((a - b) % e))]) (st' := [.int (nI ((a - b) % e))]) (I1 := I) 1 rfl ?_
    exact WP.ret rfl rfl ⟨by rw [fm_ge hab h0], rfl⟩
set_option maxRecDepth 100000 in
theorem sp_dayOfComing {d : Nat} {I : Pl} {c n : Nat} {N : Nat → Nat} (hT : Tw I 247 N) (hN : TI N) (hc : c < N 3) (hn : n < 100) (h1n : 1 ≤ n) : Ev (d + 2) 73 [.ref 247, .int (nI c), .int (nI n)] (mem I) (some (.int (nI (N 4 + fmN (N (37 + c)) (N 4) (N (32 + c)) + (n - 1) * N (32 + c))))) (mem I) := by
  obtain ⟨b0, b1, b2, b3, b4, b5, b6, b7, b8, bS, bC, bS1, bC1, bZ, bG⟩ := id hN
  obtain ⟨c1, c2, c3⟩ := bC1 c hc
  obtain ⟨e1, e2, e3⟩ := bC c (by omega)
  refine Ev.only (EvX.enter rfl rfl rfl ?_)
  refine WP.run (pc' := 5) (L' := [.ref 247, .int (nI c), .int (nI n)]) (st' := [.int (nI c), .ref 252]) (I1 := I) 3 rfl ?_
  refine WP.iald rfl rfl rfl (by omega) (by decide) ?_
  refine WP.cg (st' := [.int (nI (N (32 + c)))]) rfl (congrArg (fun z : Int32 => (.int z :: [] : List Value)) (hT.a5 (k := c) (by omega))) rfl ?_
  refine WP.run (pc' := if 0 < (nI (N (32 + c))) then 12 else 9) (L' := [.ref 247, .int (nI c), .int (nI n)]) (st' := []) (I1 := I) 1 rfl ?_
  refine WP.brT (by have := nI_nle (n := N (32 + c)) (by omega) (by omega); exact Int32.not_le.mp this) ?_
  refine WP.run (pc' := 16) (L' := [.ref 247, .int (nI c), .int (nI n)]) (st' := [.int (I 247 3)]) (I1 := I) 2 rfl ?_
  refine WP.cg (st' := [.int (nI (N 4))]) rfl (congrArg (fun z : Int32 => (.int z :: [] : List Value)) (hT.f3)) rfl ?_
  refine WP.run (pc' := 21) (L' := [.ref 247, .int (nI c), .int (nI n)]) (st' := [.int (nI c), .ref 253, .int (nI (N 4))]) (I1 := I) 3 rfl ?_
  refine WP.iald rfl rfl rfl (by omega) (by decide) ?_
  refine WP.cg (st' := [.int (nI (N (37 + c))), .int (nI (N 4))]) rfl (congrArg (fun z : Int32 => (.int z :: [.int (nI (N 4))] : List Value)) (hT.a6 (k := c) (by omega))) rfl ?_
  refine WP.run (pc' := 26) (L' := [.ref 247, .int (nI c), .int (nI n)]) (st' := [.int (I 247 3), .int (nI (N (37 + c))), .int (nI (N 4))]) (I1 := I) 2 rfl ?_
  refine WP.cg (st' := [.int (nI (N 4)), .int (nI (N (37 + c))), .int (nI (N 4))]) rfl (congrArg (fun z : Int32 => (.int z :: [.int (nI (N (37 + c))), .int (nI (N 4))] : List Value)) (hT.f3)) rfl ?_
  refine WP.run (pc' := 27) (L' := [.ref 247, .int (nI c), .int (nI n)]) (st' := [.int ((nI (N (37 + c))) - (nI (N 4))), .int (nI (N 4))]) (I1 := I) 1 rfl ?_
  refine WP.cg (st' := [.int ((nI (N (37 + c))) - (nI (N 4))), .int (nI (N 4))]) rfl (congrArg (fun z : Int32 => (.int z :: [.int (nI (N 4))] : List Value)) (rfl)) rfl ?_
  refine WP.run (pc' := 32) (L' := [.ref 247, .int (nI c), .int (nI n)]) (st' := [.int (nI c), .ref 252, .int ((nI (N (37 + c))) - (nI (N 4))), .int (nI (N 4))]) (I1 := I) 3 rfl ?_
  refine WP.iald rfl rfl rfl (by omega) (by decide) ?_
  refine WP.cg (st' := [.int (nI (N (32 + c))), .int ((nI (N (37 + c))) - (nI (N 4))), .int (nI (N 4))]) rfl (congrArg (fun z : Int32 => (.int z :: [.int ((nI (N (37 + c))) - (nI (N 4))), .int (nI (N 4))] : List Value)) (hT.a5 (k := c) (by omega))) rfl ?_
  refine WP.callV (rest := [.int (nI (N 4))]) rfl rfl (sp_floorMod (d := d) (a := N (37 + c)) (b := N 4) (e := N (32 + c)) (by omega) (by omega) (by omega) (by omega)) ?_
  refine WP.run (pc' := 37) (L' := [.ref 247, .int (nI c), .int (nI n)]) (st' := [.int ((nI (N 4)) + (nI (fmN (N (37 + c)) (N 4) (N (32 + c)))))]) (I1 := I) 1 rfl ?_
  refine WP.cg (st' := [.int (nI ((N 4) + (fmN (N (37 + c)) (N 4) (N (32 + c)))))]) rfl (congrArg (fun z : Int32 => (.int z :: [] : List Value)) (nI_add (N 4) (fmN (N (37 + c)) (N 4) (N (32 + c))))) rfl ?_
  refine WP.run (pc' := 40) (L' := [.ref 247, .int (nI c), .int (nI n)]) (st' := [.int ((nI n) - (nI 1)), .int (nI ((N 4) + (fmN (N (37 + c)) (N 4) (N (32 + c)))))]) (I1 := I) 3 rfl ?_
  refine WP.cg (st' := [.int (nI (n - 1)), .int (nI ((N 4) + (fmN (N (37 + c)) (N 4) (N (32 + c)))))]) rfl (congrArg (fun z : Int32 => (.int z :: [.int (nI ((N 4) + (fmN (N (37 + c)) (N 4) (N (32 + c)))))] : List Value)) (pk_sub (a := n) (b := 1) (by omega))) rfl ?_
  refine WP.run (pc' := 45) (L' := [.ref 247, .int (nI c), .int (nI n)]) (st' := [.int (nI c), .ref 252, .int (nI (n - 1)), .int (nI ((N 4) + (fmN (N (37 + c)) (N 4) (N (32 + c)))))]) (I1 := I) 3 rfl ?_
  refine WP.iald rfl rfl rfl (by omega) (by decide) ?_
  refine WP.cg (st' := [.int (nI (N (32 + c))), .int (nI (n - 1)), .int (nI ((N 4) + (fmN (N (37 + c)) (N 4) (N (32 + c)))))]) rfl (congrArg (fun z : Int32 => (.int z :: [.int (nI (n - 1)), .int (nI ((N 4) + (fmN (N (37 + c)) (N 4) (N (32 + c)))))] : List Value)) (hT.a5 (k := c) (by omega))) rfl ?_
  refine WP.run (pc' := 47) (L' := [.ref 247, .int (nI c), .int (nI n)]) (st' := [.int ((nI (n - 1)) * (nI (N (32 + c)))), .int (nI ((N 4) + (fmN (N (37 + c)) (N 4) (N (32 + c)))))]) (I1 := I) 1 rfl ?_
  refine WP.cg (st' := [.int (nI ((n - 1) * (N (32 + c)))), .int (nI ((N 4) + (fmN (N (37 + c)) (N 4) (N (32 + c)))))]) rfl (congrArg (fun z : Int32 => (.int z :: [.int (nI ((N 4) + (fmN (N (37 + c)) (N 4) (N (32 + c)))))] : List Value)) (pk_mul (n - 1) (N (32 + c)))) rfl ?_
  refine WP.run (pc' := 48) (L' := [.ref 247, .int (nI c), .int (nI n)]) (st' := [.int ((nI ((N 4) + (fmN (N (37 + c)) (N 4) (N (32 + c))))) + (nI ((n - 1) * (N (32 + c)))))]) (I1 := I) 1 rfl ?_
  refine WP.cg (st' := [.int (nI (((N 4) + (fmN (N (37 + c)) (N 4) (N (32 + c)))) + ((n - 1) * (N (32 + c)))))]) rfl (congrArg (fun z : Int32 => (.int z :: [] : List Value)) (nI_add ((N 4) + (fmN (N (37 + c)) (N 4) (N (32 + c)))) ((n - 1) * (N (32 + c))))) rfl ?_
  exact WP.ret rfl rfl (⟨rfl, rfl⟩)
