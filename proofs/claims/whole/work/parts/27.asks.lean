/-! asks -/
def bg1 (I : Pl) (m x : Nat) : Pl := upN (upN I 246 m (nI x)) 245 1 (nI (m + 1))
theorem bg1_m {I : Pl} {m x : Nat} : bg1 I m x 245 1 = nI (m + 1) := upN_s
theorem bg1_fr {I : Pl} {m x o k : Nat} (h : o < 245 ∨ 247 ≤ o) : bg1 I m x o k = I o k := by
  unfold bg1
  rw [upN_no (by omega), upN_no (by omega)]
theorem bg1_tw {I : Pl} {m x : Nat} {N : Nat → Nat} (h : Tw I 247 N) : Tw (bg1 I m x) 247 N := h.cg (fun o k h1 h2 => bg1_fr (by omega))
set_option maxRecDepth 100000 in
theorem sp_begin {d : Nat} {I : Pl} {m x : Nat} (hm : I 245 1 = nI m) (h16 : m < 16) : Ev (d + 1) 9 [.ref 245, .int (nI x)] (mem I) (none) (mem (bg1 I m x)) := by
  refine Ev.only (EvX.enter rfl rfl rfl ?_)
  refine WP.run (pc' := 4) (L' := [.ref 245, .int (nI x)]) (st' := [.int (I 245 1)]) (I1 := I) 2 rfl ?_
  refine WP.cg (st' := [.int (nI m)]) rfl (congrArg (fun z : Int32 => (.int z :: [] : List Value)) (hm)) rfl ?_
  refine WP.run (pc' := if (nI 16) ≤ (nI m) then 29 else 9) (L' := [.ref 245, .int (nI x)]) (st' := []) (I1 := I) 2 rfl ?_
  refine WP.brF (fun q => absurd (nI_le_ (by omega) (by omega) q) (by omega)) ?_
  refine WP.run (pc' := 17) (L' := [.ref 245, .int (nI x)]) (st' := [.int (I 245 1), .ref 246]) (I1 := I) 4 rfl ?_
  refine WP.cg (st' := [.int (nI m), .ref 246]) rfl (congrArg (fun z : Int32 => (.int z :: [.ref 246] : List Value)) (hm)) rfl ?_
  refine WP.run (pc' := 18) (L' := [.ref 245, .int (nI x)]) (st' := [.int (nI x), .int (nI m), .ref 246]) (I1 := I) 1 rfl ?_
  refine WP.iast rfl rfl rfl (by omega) (by decide) ?_
  refine WP.run (pc' := 24) (L' := [.ref 245, .int (nI x)]) (st' := [.int (I 245 1), .ref 245]) (I1 := (upN I 246 m (nI x))) 3 rfl ?_
  refine WP.cg (st' := [.int (nI m), .ref 245]) rfl (congrArg (fun z : Int32 => (.int z :: [.ref 245] : List Value)) (hm)) rfl ?_
  refine WP.run (pc' := 26) (L' := [.ref 245, .int (nI x)]) (st' := [.int ((nI m) + (nI 1)), .ref 245]) (I1 := (upN I 246 m (nI x))) 2 rfl ?_
  refine WP.cg (st' := [.int (nI (m + 1)), .ref 245]) rfl (congrArg (fun z : Int32 => (.int z :: [.ref 245] : List Value)) (nI_add m 1)) rfl ?_
  refine WP.run (pc' := 29) (L' := [.ref 245, .int (nI x)]) (st' := []) (I1 := (upN (upN I 246 m (nI x)) 245 1 (nI (m + 1)))) 1 rfl ?_
  exact WP.ret rfl rfl (⟨rfl, rfl⟩)
set_option maxRecDepth 100000 in
theorem sp_size10 {d : Nat} {I : Pl} {m s : Nat} {N : Nat → Nat} (hT : Tw I 247 N) (hN : TI N) (hs : s < 6) (hm : I 245 1 = nI m) (h16 : m + 1 ≤ 16) : Ev (d + 2) 10 [.ref 245, .ref 247, .int (nI s)] (mem I) (some (.int (nI (N (15 + s))))) (mem (bg1 I m 10)) := by
  obtain ⟨b0, b1, b2, b3, b4, b5, b6, b7, b8, bS, bC, bS1, bC1, bZ, bG⟩ := id hN
  obtain ⟨bs1, bs2, bs3⟩ := bS s (by omega)
  refine Ev.only (EvX.enter rfl rfl rfl ?_)
  refine WP.run (pc' := 3) (L' := [.ref 245, .ref 247, .int (nI s)]) (st' := [.int (nI 10), .ref 245]) (I1 := I) 2 rfl ?_
  refine WP.callV (rest := []) rfl rfl (sp_begin (d := d) (m := m) (x := 10) hm (by omega)) ?_
  refine WP.run (pc' := 11) (L' := [.ref 245, .ref 247, .int (nI s)]) (st' := [.int (nI s), .ref 249]) (I1 := (bg1 I m 10)) 3 rfl ?_
  refine WP.iald rfl rfl rfl (by omega) (by decide) ?_
  refine WP.cg (st' := [.int (nI (N (15 + s)))]) rfl (congrArg (fun z : Int32 => (.int z :: [] : List Value)) ((bg1_tw hT).a2 (k := s) (by omega))) rfl ?_
  exact WP.ret rfl rfl (⟨rfl, rfl⟩)
set_option maxRecDepth 100000 in
theorem sp_mark20 {d : Nat} {I : Pl} {m s : Nat} {N : Nat → Nat} (hT : Tw I 247 N) (hN : TI N) (hs : s < 6) (hm : I 245 1 = nI m) (h16 : m + 1 ≤ 16) : Ev (d + 2) 11 [.ref 245, .int (nI s)] (mem I) (some (.int (nI s))) (mem (bg1 I m 20)) := by
  obtain ⟨b0, b1, b2, b3, b4, b5, b6, b7, b8, bS, bC, bS1, bC1, bZ, bG⟩ := id hN
  obtain ⟨bs1, bs2, bs3⟩ := bS s (by omega)
  refine Ev.only (EvX.enter rfl rfl rfl ?_)
  refine WP.run (pc' := 3) (L' := [.ref 245, .int (nI s)]) (st' := [.int (nI 20), .ref 245]) (I1 := I) 2 rfl ?_
  refine WP.callV (rest := []) rfl rfl (sp_begin (d := d) (m := m) (x := 20) hm (by omega)) ?_
  refine WP.run (pc' := 7) (L' := [.ref 245, .int (nI s)]) (st' := [.int (nI s)]) (I1 := (bg1 I m 20)) 1 rfl ?_
  exact WP.ret rfl rfl (⟨rfl, rfl⟩)
set_option maxRecDepth 100000 in
theorem sp_mark21 {d : Nat} {I : Pl} {m s : Nat} {N : Nat → Nat} (hT : Tw I 247 N) (hN : TI N) (hs : s < 6) (hm : I 245 1 = nI m) (h16 : m + 2 ≤ 16) : Ev (d + 3) 12 [.ref 245, .ref 247, .int (nI s)] (mem I) (some (.int (nI (s + (N (21 + s)))))) (mem (bg1 (bg1 I m 21) (m + 1) 20)) := by
  obtain ⟨b0, b1, b2, b3, b4, b5, b6, b7, b8, bS, bC, bS1, bC1, bZ, bG⟩ := id hN
  obtain ⟨bs1, bs2, bs3⟩ := bS s (by omega)
  refine Ev.only (EvX.enter rfl rfl rfl ?_)
  refine WP.run (pc' := 3) (L' := [.ref 245, .ref 247, .int (nI s)]) (st' := [.int (nI 21), .ref 245]) (I1 := I) 2 rfl ?_
  refine WP.callV (rest := []) rfl rfl (sp_begin (d := d + 1) (m := m) (x := 21) hm (by omega)) ?_
  refine WP.run (pc' := 8) (L' := [.ref 245, .ref 247, .int (nI s)]) (st' := [.int (nI s), .ref 245]) (I1 := (bg1 I m 21)) 2 rfl ?_
  refine WP.callV (rest := []) rfl rfl (sp_mark20 (d := d) (m := m + 1) (s := s) (bg1_tw hT) hN hs bg1_m (by omega)) ?_
  refine WP.run (pc' := 16) (L' := [.ref 245, .ref 247, .int (nI s)]) (st' := [.int (nI s), .ref 250, .int (nI s)]) (I1 := (bg1 (bg1 I m 21) (m + 1) 20)) 3 rfl ?_
  refine WP.iald rfl rfl rfl (by omega) (by decide) ?_
  refine WP.cg (st' := [.int (nI (N (21 + s))), .int (nI s)]) rfl (congrArg (fun z : Int32 => (.int z :: [.int (nI s)] : List Value)) ((bg1_tw (bg1_tw hT)).a3 (k := s) (by omega))) rfl ?_
  refine WP.run (pc' := 18) (L' := [.ref 245, .ref 247, .int (nI s)]) (st' := [.int ((nI s) + (nI (N (21 + s))))]) (I1 := (bg1 (bg1 I m 21) (m + 1) 20)) 1 rfl ?_
  refine WP.cg (st' := [.int (nI (s + (N (21 + s))))]) rfl (congrArg (fun z : Int32 => (.int z :: [] : List Value)) (nI_add s (N (21 + s)))) rfl ?_
  exact WP.ret rfl rfl (⟨rfl, rfl⟩)
