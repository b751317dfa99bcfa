/-! asks -/
def bg1 (I : Pl) (m x : Nat) : Pl := upN (upN I 246 m (nI x)) 245 1 (nI (m + 1))
theorem bg1_m {I : Pl} {m x : Nat} : bg1 I m x 245 1 = nI (m + 1) := upN_s
theorem bg1_fr {I : Pl} {m x o k : Nat} (h : o < 245 ∨ 247 ≤ o) : bg1 I m x o k = I o k := by
  unfold bg1
  rw [upN_no (by omega), upN_no (by omega)]
theorem bg1_tw {I : Pl} {m x : Nat} {N : Nat → Nat} (h : Tw I 247 N) : Tw (bg1 I m x) 247 N := h.cg (fun o k h1 h2 => bg1_fr (by omega))
set_option maxRecDepth 100000 in
theorem sp_begin {d : Nat} {I : Pl} {m x : Nat} (hm : I 245 1 = nI m) (h16 : m < 16) : Ev (d + 1) 9 [.ref 245, .int (nI x)] (mem I) (none) (mem (bg1 I m x)) := by
  refine Ev.only (EvX.enter rfl rfl rfl ?_)
  refine WP.run (pc' := 4) (L' := [.ref 245, .int (nI x)]) (st' := [.int (I 245 1)]) (I1 := I) 2 rfl ?_
  refine WP.cg (st' := [.int (nI m)]) rfl (congrArg (fun z : Int32 => (.int z :: [] : List Value)) (hm)) rfl ?_
  refine WP.run (pc' := if (nI 16) ≤ (nI m) then 29 else 9) (L' := [.ref 245, .int (nI x)]) (st' := []) (I1 := I) 2 rfl ?_
  refine WP.brF (fun q => absurd (nI_le_ (by omega) (by omega) q) (by omega)) ?_
  refine WP.run (pc' := 17) (L' := [.ref 245, .int (nI x)]) (st' := [.int (I 245 1), .ref 246]) (I1 := I) 4 rfl ?_
  refine WP.cg (st' := [.int (nI m), .ref 246]) rfl (congrArg (fun z : Int32 => (.int z :: [.ref 246] : List Value)) (hm)) rfl ?_
  refine WP.run (pc' := 18) (L' := [.ref 245, .int (nI x)]) (st' := [.int (nI x), .int (nI m), .ref 246]) (I1 := I) 1 rfl ?_
  refine WP.iast rfl rfl rfl (by omega) (by decide) ?_
  refine WP.run (pc' := 24) (L' := [.ref 245, .int (nI x)]) (st' := [.int (I 245 1), .ref 245]) (I1 := (upN I 246 m (nI x))) 3 rfl ?_
  refine WP.cg (st' := [.int (nI m), .ref 245]) rfl (congrArg (fun z : Int32 => (.int z :: [.ref 245] : List Value)) (hm)) rfl ?_
  refine WP.run (pc' := 26) (L' := [.ref 245, .int (nI x)]) (st' := [.int ((nI m) + (nI 1)), .ref 245]) (I1 := (upN I 246 m (nI x))) 2 rfl ?_
  refine WP.cg (st' := [.int (nI (m + 1)), .ref 245]) rfl (congrArg (fun z : Int32 => (.int z :: [.ref 245] : List Value)) (nI_add m 1)) rfl ?_
  refine WP.run (pc' := 29) (L' := [.ref 245, .int (nI x)]) (st' := []) (I1 := (upN (upN I 246 m (nI x)) 245 1 (nI (m + 1)))) 1 rfl ?_
  exact WP.ret rfl rfl (⟨rfl, rfl⟩)
set_option maxRecDepth 100000 in
theorem sp_size10 {d : Nat} {I : Pl} {m s : Nat} {N : Nat → Nat} (hT : Tw I 247 N) (hN : TI N) (hs : s < 6) (hm : I 245 1 = nI m) (h16 : m + 1 ≤ 16) : Ev (d + 2) 10 [.ref 245, .ref 247, .int (nI s)] (mem I) (some (.int (nI (N (15 + s))))) (mem (bg1 I m 10)) := by
  obtain ⟨b0, b1, b2, b3, b4, b5, b6, b7, b8, bS, bC, bS1, bC1, bZ, bG⟩ := id hN
  obtain ⟨bs1, bs2, bs3⟩ := bS s (by omega)
  refine Ev.only (EvX.enter rfl rfl rfl ?_)
  refine WP.run (pc' := 3) (L' := [.ref 245, .ref 247, .int (nI s)]) (st' := [.int (nI 10), .ref 245]) (I1 := I) 2 rfl ?_
  refine WP.callV (rest := []) rfl rfl (sp_begin (d := d) (m := m) (x := 10) hm (by omega)) ?_
  refine WP.run (pc' := 11) (L' := [.ref 245, .ref 247, .int (nI s)]) (st' := [.int (nI s), .ref 249]) (I1 := (bg1 I m 10)) 3 rfl ?_
  refine WP.iald rfl rfl rfl (by omega) (by decide) ?_
  refine WP.cg (st' := [.int (nI (N (15 + s)))]) rfl (congrArg (fun z : Int32 => (.int z :: [] : List Value)) ((bg1_tw hT).a2 (k := s) (by omega))) rfl ?_
  exact WP.ret rfl rfl (⟨rfl, rfl⟩)
set_option maxRecDepth 100000 in
theorem sp_mark20 {d : Nat} {I : Pl} {m s : Nat} {N : Nat → Nat} (hT : Tw I 247 N) (hN : TI N) (hs : s < 6) (hm : I 245 1 = nI m) (h16 : m + 1 ≤ 16) : Ev (d + 2) 11 [.ref 245, .int (nI s)] (mem I) (some (.int (nI s))) (mem (bg1 I m 20)) := by
  obtain ⟨b0, b1, b2, b3, b4, b5, b6, b7, b8, bS, bC, bS1, bC1, bZ, bG⟩ := id hN
  obtain ⟨bs1, bs2, bs3⟩ := bS s (by omega)
  refine Ev.only (EvX.enter rfl rfl rfl ?_)
  refine WP.run (pc' := 3) (L' := [.ref 245, .int (nI s)]) (st' := [.int (nI 20), .ref 245]) (I1 := I) 2 rfl ?_
  refine WP.callV (rest := []) rfl rfl (sp_begin (d := d) (m := m) (x := 20) hm (by omega)) ?_
  refine WP.run (pc' := 7) (L' := [.ref 245, .int (nI s)]) (st' := [.int (nI s)]) (I1 := (bg1 I m 20)) 1 rfl ?_
  exact WP.ret rfl rfl (⟨rfl, rfl⟩)
set_option maxRecDepth 100000 in
theorem sp_mark21 {d : Nat} {I : Pl} {m s : Nat} {N : Nat → Nat} (hT : Tw I 247 N) (hN : TI N) (hs : s < 6) (hm : I 245 1 = nI m) (h16 : m + 2 ≤ 16) : Ev (d + 3) 12 [.ref 245, .ref 247, .int (nI s)] (mem I) (some (.int (nI (s + (N (21 + s)))))) (mem (bg1 (bg1 I m 21) (m + 1) 20)) := by
  obtain ⟨b0, b1, b2, b3, b4, b5, b6, b7, b8, bS, bC, bS1, bC1, bZ, bG⟩ := id hN
  obtain ⟨bs1, bs2, bs3⟩ := bS s (by omega)
  refine Ev.only (EvX.enter rfl rfl rfl ?_)
  refine WP.run (pc' := 3) (L' := [.ref 245, .ref 247, .int (nI s)]) (st' := [.int (nI 21), .ref 245]) (I1 := I) 2 rfl ?_
  refine WP.callV (rest := []) rfl rfl (sp_begin (d := d + 1) (m := m) (x := 21) hm (by omega)) ?_
  refine WP.run (pc' := 8) (L' := [.ref 245, .ref 247, .int (nI s)]) (st' := [.int (nI s), .ref 245]) (I1 := (bg1 I m 21)) 2 rfl ?_
  refine WP.callV (rest := []) rfl rfl (sp_mark20 (d := d) (m := m + 1) (s := s) (bg1_tw hT) hN hs bg1_m (by omega)) ?_
  refine WP.run (pc' := 16) (L' := [.ref 245, .ref 247, .int (nI s)]) (st' := [.int (nI s), .ref 250, .int (nI s)]) (I1 := (bg1 (bg1 I m 21) (m + 1) 20)) 3 rfl ?_
  refine WP.iald rfl rfl rfl (by omega) (by decide) ?_
  refine WP.cg (st' := [.int (nI (N (21 + s))), .int (nI s)]) rfl (congrArg (fun z : Int32 => (.int z :: [.int (nI s)] : List Value)) ((bg1_tw (bg1_tw hT)).a3 (k := s) (by omega))) rfl ?_
  refine WP.run (pc' := 18) (L' := [.ref 245, .ref 247, .int (nI s)]) (st' := [.int ((nI s) + (nI (N (21 + s))))]) (I1 := (bg1 (bg1 I m 21) (m + 1) 20)) 1 rfl ?_
  refine WP.cg (st' := [.int (nI (s + (N (21 + s))))]) rfl (congrArg (fun z : Int32 => (.int z :: [] : List Value)) (nI_add s (N (21 + s)))) rfl ?_
  exact WP.ret rfl rfl (⟨rfl, rfl⟩)
set_option maxRecDepth 100000 in
theorem sp_mark22 {d : Nat} {I : Pl} {m s : Nat} {N : Nat → Nat} (hT : Tw I 247 N) (hN : TI N) (hs : s < 6) (hm : I 245 1 = nI m) (h16 : m + 3 ≤ 16) : Ev (d + 4) 14 [.ref 245, .ref 247, .int (nI s)] (mem I) (some (.int ((nI (s + (N (21 + s)))) - (nI 1000)))) (mem (bg1 (bg1 (bg1 I m 22) (m + 1) 21) (m + 1 + 1) 20)) := by
  obtain ⟨b0, b1, b2, b3, b4, b5, b6, b7, b8, bS, bC, bS1, bC1, bZ, bG⟩ := id hN
  obtain ⟨bs1, bs2, bs3⟩ := bS s (by omega)
  refine Ev.only (EvX.enter rfl rfl rfl ?_)
  refine WP.run (pc' := 3) (L' := [.ref 245, .ref 247, .int (nI s)]) (st' := [.int (nI 22), .ref 245]) (I1 := I) 2 rfl ?_
  refine WP.callV (rest := []) rfl rfl (sp_begin (d := d + 2) (m := m) (x := 22) hm (by omega)) ?_
  refine WP.run (pc' := 9) (L' := [.ref 245, .ref 247, .int (nI s)]) (st' := [.int (nI s), .ref 247, .ref 245]) (I1 := (bg1 I m 22)) 3 rfl ?_
  refine WP.callV (rest := []) rfl rfl (sp_mark21 (d := d) (m := m + 1) (s := s) (bg1_tw hT) hN hs bg1_m (by omega)) ?_
  refine WP.run (pc' := 16) (L' := [.ref 245, .ref 247, .int (nI s)]) (st' := [.int ((nI (s + (N (21 + s)))) - (nI 1000))]) (I1 := (bg1 (bg1 (bg1 I m 22) (m + 1) 21) (m + 1 + 1) 20)) 2 rfl ?_
  exact WP.ret rfl rfl (⟨rfl, rfl⟩)
set_option maxRecDepth 100000 in
theorem sp_mark24 {d : Nat} {I : Pl} {m s : Nat} {N : Nat → Nat} (hT : Tw I 247 N) (hN : TI N) (hs : s < 6) (hm : I 245 1 = nI m) (h16 : m + 3 ≤ 16) : Ev (d + 4) 13 [.ref 245, .ref 247, .int (nI s)] (mem I) (some (.int (nI (2 * (s + (N (21 + s))))))) (mem (bg1 (bg1 (bg1 I m 24) (m + 1) 21) (m + 1 + 1) 20)) := by
  obtain ⟨b0, b1, b2, b3, b4, b5, b6, b7, b8, bS, bC, bS1, bC1, bZ, bG⟩ := id hN
  obtain ⟨bs1, bs2, bs3⟩ := bS s (by omega)
  refine Ev.only (EvX.enter rfl rfl rfl ?_)
  refine WP.run (pc' := 3) (L' := [.ref 245, .ref 247, .int (nI s)]) (st' := [.int (nI 24), .ref 245]) (I1 := I) 2 rfl ?_
  refine WP.callV (rest := []) rfl rfl (sp_begin (d := d + 2) (m := m) (x := 24) hm (by omega)) ?_
  refine WP.run (pc' := 10) (L' := [.ref 245, .ref 247, .int (nI s)]) (st' := [.int (nI s), .ref 247, .ref 245, .int (nI 2)]) (I1 := (bg1 I m 24)) 4 rfl ?_
  refine WP.callV (rest := [.int (nI 2)]) rfl rfl (sp_mark21 (d := d) (m := m + 1) (s := s) (bg1_tw hT) hN hs bg1_m (by omega)) ?_
  refine WP.run (pc' := 14) (L' := [.ref 245, .ref 247, .int (nI s)]) (st' := [.int ((nI 2) * (nI (s + (N (21 + s)))))]) (I1 := (bg1 (bg1 (bg1 I m 24) (m + 1) 21) (m + 1 + 1) 20)) 1 rfl ?_
  refine WP.cg (st' := [.int (nI (2 * (s + (N (21 + s)))))]) rfl (congrArg (fun z : Int32 => (.int z :: [] : List Value)) (pk_mul 2 (s + (N (21 + s))))) rfl ?_
  exact WP.ret rfl rfl (⟨rfl, rfl⟩)
set_option maxRecDepth 100000 in
theorem sp_size13 {d : Nat} {I : Pl} {m s : Nat} {N : Nat → Nat} (hT : Tw I 247 N) (hN : TI N) (hs : s < 6) (hm : I 245 1 = nI m) (h16 : m + 2 ≤ 16) : Ev (d + 3) 17 [.ref 245, .ref 247, .int (nI s)] (mem I) (some (.int ((nI (N (15 + s))) - (nI 100)))) (mem (bg1 (bg1 I m 13) (m + 1) 10)) := by
  obtain ⟨b0, b1, b2, b3, b4, b5, b6, b7, b8, bS, bC, bS1, bC1, bZ, bG⟩ := id hN
  obtain ⟨bs1, bs2, bs3⟩ := bS s (by omega)
  refine Ev.only (EvX.enter rfl rfl rfl ?_)
  refine WP.run (pc' := 3) (L' := [.ref 245, .ref 247, .int (nI s)]) (st' := [.int (nI 13), .ref 245]) (I1 := I) 2 rfl ?_
  refine WP.callV (rest := []) rfl rfl (sp_begin (d := d + 1) (m := m) (x := 13) hm (by omega)) ?_
  refine WP.run (pc' := 9) (L' := [.ref 245, .ref 247, .int (nI s)]) (st' := [.int (nI s), .ref 247, .ref 245]) (I1 := (bg1 I m 13)) 3 rfl ?_
  refine WP.callV (rest := []) rfl rfl (sp_size10 (d := d) (m := m + 1) (s := s) (bg1_tw hT) hN hs bg1_m (by omega)) ?_
  refine WP.run (pc' := 15) (L' := [.ref 245, .ref 247, .int (nI s)]) (st' := [.int ((nI (N (15 + s))) - (nI 100))]) (I1 := (bg1 (bg1 I m 13) (m + 1) 10)) 2 rfl ?_
  exact WP.ret rfl rfl (⟨rfl, rfl⟩)
set_option maxRecDepth 100000 in
theorem sp_size14 {d : Nat} {I : Pl} {m s : Nat} {N : Nat → Nat} (hT : Tw I 247 N) (hN : TI N) (hs : s < 6) (hm : I 245 1 = nI m) (h16 : m + 3 ≤ 16) : Ev (d + 4) 18 [.ref 245, .ref 247, .int (nI s)] (mem I) (some (.int ((nI 2) * ((nI (N (15 + s))) - (nI 100))))) (mem (bg1 (bg1 (bg1 I m 14) (m + 1) 13) (m + 1 + 1) 10)) := by
  obtain ⟨b0, b1, b2, b3, b4, b5, b6, b7, b8, bS, bC, bS1, bC1, bZ, bG⟩ := id hN
  obtain ⟨bs1, bs2, bs3⟩ := bS s (by omega)
  refine Ev.only (EvX.enter rfl rfl rfl ?_)
  refine WP.run (pc' := 3) (L' := [.ref 245, .ref 247, .int (nI s)]) (st' := [.int (nI 14), .ref 245]) (I1 := I) 2 rfl ?_
  refine WP.callV (rest := []) rfl rfl (sp_begin (d := d + 2) (m := m) (x := 14) hm (by omega)) ?_
  refine WP.run (pc' := 10) (L' := [.ref 245, .ref 247, .int (nI s)]) (st' := [.int (nI s), .ref 247, .ref 245, .int (nI 2)]) (I1 := (bg1 I m 14)) 4 rfl ?_
  refine WP.callV (rest := [.int (nI 2)]) rfl rfl (sp_size13 (d := d) (m := m + 1) (s := s) (bg1_tw hT) hN hs bg1_m (by omega)) ?_
  refine WP.run (pc' := 14) (L' := [.ref 245, .ref 247, .int (nI s)]) (st' := [.int ((nI 2) * ((nI (N (15 + s))) - (nI 100)))]) (I1 := (bg1 (bg1 (bg1 I m 14) (m + 1) 13) (m + 1 + 1) 10)) 1 rfl ?_
  exact WP.ret rfl rfl (⟨rfl, rfl⟩)
set_option maxRecDepth 100000 in
theorem sp_mark23_4 {d : Nat} {I : Pl} {m s : Nat} {N : Nat → Nat} (hT : Tw I 247 N) (hN : TI N) (hs : s < 6) (hm : I 245 1 = nI m) (h16 : m + 5 ≤ 16) (hz : N (9 + s) = 4) : Ev (d + 5) 20 [.ref 245, .ref 247, .int (nI s)] (mem I) (some (.int ((nI s) - ((nI (N (15 + s))) - (nI 100))))) (mem (bg1 (bg1 (bg1 (bg1 I m 23) (m + 1) 20) (m + 1 + 1) 13) (m + 1 + 1 + 1) 10)) := by
  obtain ⟨b0, b1, b2, b3, b4, b5, b6, b7, b8, bS, bC, bS1, bC1, bZ, bG⟩ := id hN
  obtain ⟨bs1, bs2, bs3⟩ := bS s (by omega)
  refine Ev.only (EvX.enter rfl rfl rfl ?_)
  refine WP.run (pc' := 3) (L' := [.ref 245, .ref 247, .int (nI s), UU]) (st' := [.int (nI 23), .ref 245]) (I1 := I) 2 rfl ?_
  refine WP.callV (rest := []) rfl rfl (sp_begin (d := d + 3) (m := m) (x := 23) hm (by omega)) ?_
  refine WP.run (pc' := 8) (L' := [.ref 245, .ref 247, .int (nI s), UU]) (st' := [.int (nI s), .ref 245]) (I1 := (bg1 I m 23)) 2 rfl ?_
  refine WP.callV (rest := []) rfl rfl (sp_mark20 (d := d + 2) (m := m + 1) (s := s) (bg1_tw hT) hN hs bg1_m (by omega)) ?_
  refine WP.run (pc' := 18) (L' := [.ref 245, .ref 247, .int (nI s), .int (nI s)]) (st' := [.int (nI s), .ref 248, .int (nI s)]) (I1 := (bg1 (bg1 I m 23) (m + 1) 20)) 5 rfl ?_
  refine WP.iald rfl rfl rfl (by omega) (by decide) ?_
  refine WP.cg (st' := [.int (nI (N (9 + s))), .int (nI s)]) rfl (congrArg (fun z : Int32 => (.int z :: [.int (nI s)] : List Value)) ((bg1_tw (bg1_tw hT)).a1 (k := s) (by omega))) rfl ?_
  refine WP.run (pc' := if ¬ (nI (N (9 + s))) = (nI 5) then 32 else 23) (L' := [.ref 245, .ref 247, .int (nI s), .int (nI s)]) (st' := [.int (nI s)]) (I1 := (bg1 (bg1 I m 23) (m + 1) 20)) 2 rfl ?_
  refine WP.brT (by rw [hz]; decide) ?_
  refine WP.run (pc' := 35) (L' := [.ref 245, .ref 247, .int (nI s), .int (nI s)]) (st' := [.int (nI s), .ref 247, .ref 245, .int (nI s)]) (I1 := (bg1 (bg1 I m 23) (m + 1) 20)) 3 rfl ?_
  refine WP.callV (rest := [.int (nI s)]) rfl rfl (sp_size13 (d := d + 1) (m := m + 1 + 1) (s := s) (bg1_tw (bg1_tw hT)) hN hs bg1_m (by omega)) ?_
  refine WP.run (pc' := 39) (L' := [.ref 245, .ref 247, .int (nI s), .int (nI s)]) (st' := [.int ((nI s) - ((nI (N (15 + s))) - (nI 100)))]) (I1 := (bg1 (bg1 (bg1 (bg1 I m 23) (m + 1) 20) (m + 1 + 1) 13) (m + 1 + 1 + 1) 10)) 1 rfl ?_
  exact WP.ret rfl rfl (⟨rfl, rfl⟩)
set_option maxRecDepth 100000 in
theorem sp_mark23_5 {d : Nat} {I : Pl} {m s : Nat} {N : Nat → Nat} (hT : Tw I 247 N) (hN : TI N) (hs : s < 6) (hm : I 245 1 = nI m) (h16 : m + 5 ≤ 16) (hz : N (9 + s) = 5) : Ev (d + 5) 20 [.ref 245, .ref 247, .int (nI s)] (mem I) (some (.int ((nI s) - ((nI 2) * ((nI (N (15 + s))) - (nI 100)))))) (mem (bg1 (bg1 (bg1 (bg1 (bg1 I m 23) (m + 1) 20) (m + 1 + 1) 14) (m + 1 + 1 + 1) 13) (m + 1 + 1 + 1 + 1) 10)) := by
  obtain ⟨b0, b1, b2, b3, b4, b5, b6, b7, b8, bS, bC, bS1, bC1, bZ, bG⟩ := id hN
  obtain ⟨bs1, bs2, bs3⟩ := bS s (by omega)
  refine Ev.only (EvX.enter rfl rfl rfl ?_)
  refine WP.run (pc' := 3) (L' := [.ref 245, .ref 247, .int (nI s), UU]) (st' := [.int (nI 23), .ref 245]) (I1 := I) 2 rfl ?_
  refine WP.callV (rest := []) rfl rfl (sp_begin (d := d + 3) (m := m) (x := 23) hm (by omega)) ?_
  refine WP.run (pc' := 8) (L' := [.ref 245, .ref 247, .int (nI s), UU]) (st' := [.int (nI s), .ref 245]) (I1 := (bg1 I m 23)) 2 rfl ?_
  refine WP.callV (rest := []) rfl rfl (sp_mark20 (d := d + 2) (m := m + 1) (s := s) (bg1_tw hT) hN hs bg1_m (by omega)) ?_
  refine WP.run (pc' := 18) (L' := [.ref 245, .ref 247, .int (nI s), .int (nI s)]) (st' := [.int (nI s), .ref 248, .int (nI s)]) (I1 := (bg1 (bg1 I m 23) (m + 1) 20)) 5 rfl ?_
  refine WP.iald rfl rfl rfl (by omega) (by decide) ?_
  refine WP.cg (st' := [.int (nI (N (9 + s))), .int (nI s)]) rfl (congrArg (fun z : Int32 => (.int z :: [.int (nI s)] : List Value)) ((bg1_tw (bg1_tw hT)).a1 (k := s) (by omega))) rfl ?_
  refine WP.run (pc' := if ¬ (nI (N (9 + s))) = (nI 5) then 32 else 23) (L' := [.ref 245, .ref 247, .int (nI s), .int (nI s)]) (st' := [.int (nI s)]) (I1 := (bg1 (bg1 I m 23) (m + 1) 20)) 2 rfl ?_
  refine WP.brF (by rw [hz]; decide) ?_
  refine WP.run (pc' := 26) (L' := [.ref 245, .ref 247, .int (nI s), .int (nI s)]) (st' := [.int (nI s), .ref 247, .ref 245, .int (nI s)]) (I1 := (bg1 (bg1 I m 23) (m + 1) 20)) 3 rfl ?_
  refine WP.callV (rest := [.int (nI s)]) rfl rfl (sp_size14 (d := d) (m := m + 1 + 1) (s := s) (bg1_tw (bg1_tw hT)) hN hs bg1_m (by omega)) ?_
  refine WP.run (pc' := 39) (L' := [.ref 245, .ref 247, .int (nI s), .int (nI s)]) (st' := [.int ((nI s) - ((nI 2) * ((nI (N (15 + s))) - (nI 100))))]) (I1 := (bg1 (bg1 (bg1 (bg1 (bg1 I m 23) (m + 1) 20) (m + 1 + 1) 14) (m + 1 + 1 + 1) 13) (m + 1 + 1 + 1 + 1) 10)) 2 rfl ?_
  exact WP.ret rfl rfl (⟨rfl, rfl⟩)
set_option maxRecDepth 100000 in
theorem sp_size11_1 {d : Nat} {I : Pl} {m s : Nat} {N : Nat → Nat} (hT : Tw I 247 N) (hN : TI N) (hs : s < 6) (hm : I 245 1 = nI m) (h16 : m + 5 ≤ 16) (hz : N (9 + s) = 1) : Ev (d + 5) 15 [.ref 245, .ref 247, .int (nI s)] (mem I) (some (.int (nI ((N (15 + s)) + (s + (N (21 + s))))))) (mem (bg1 (bg1 (bg1 (bg1 I m 11) (m + 1) 10) (m + 1 + 1) 21) (m + 1 + 1 + 1) 20)) := by
  obtain ⟨b0, b1, b2, b3, b4, b5, b6, b7, b8, bS, bC, bS1, bC1, bZ, bG⟩ := id hN
  obtain ⟨bs1, bs2, bs3⟩ := bS s (by omega)
  refine Ev.only (EvX.enter rfl rfl rfl ?_)
  refine WP.run (pc' := 3) (L' := [.ref 245, .ref 247, .int (nI s), UU]) (st' := [.int (nI 11), .ref 245]) (I1 := I) 2 rfl ?_
  refine WP.callV (rest := []) rfl rfl (sp_begin (d := d + 3) (m := m) (x := 11) hm (by omega)) ?_
  refine WP.run (pc' := 9) (L' := [.ref 245, .ref 247, .int (nI s), UU]) (st' := [.int (nI s), .ref 247, .ref 245]) (I1 := (bg1 I m 11)) 3 rfl ?_
  refine WP.callV (rest := []) rfl rfl (sp_size10 (d := d + 2) (m := m + 1) (s := s) (bg1_tw hT) hN hs bg1_m (by omega)) ?_
  refine WP.run (pc' := 18) (L' := [.ref 245, .ref 247, .int (nI s), .int (nI (N (15 + s)))]) (st' := [.int (nI s), .ref 248]) (I1 := (bg1 (bg1 I m 11) (m + 1) 10)) 4 rfl ?_
  refine WP.iald rfl rfl rfl (by omega) (by decide) ?_
  refine WP.cg (st' := [.int (nI (N (9 + s)))]) rfl (congrArg (fun z : Int32 => (.int z :: [] : List Value)) ((bg1_tw (bg1_tw hT)).a1 (k := s) (by omega))) rfl ?_
  refine WP.cg (st' := [.int (nI 1)]) rfl (congrArg (fun z : Nat => (.int (nI z) :: [] : List Value)) hz) rfl ?_
  refine WP.run (pc' := 62) (L' := [.ref 245, .ref 247, .int (nI s), .int (nI (N (15 + s)))]) (st' := []) (I1 := (bg1 (bg1 I m 11) (m + 1) 10)) 1 rfl ?_
  refine WP.run (pc' := 66) (L' := [.ref 245, .ref 247, .int (nI s), .int (nI (N (15 + s)))]) (st' := [.int (nI s), .ref 247, .ref 245, .int (nI (N (15 + s)))]) (I1 := (bg1 (bg1 I m 11) (m + 1) 10)) 4 rfl ?_
  refine WP.callV (rest := [.int (nI (N (15 + s)))]) rfl rfl (sp_mark21 (d := d + 1) (m := m + 1 + 1) (s := s) (bg1_tw (bg1_tw hT)) hN hs bg1_m (by omega)) ?_
  refine WP.run (pc' := 70) (L' := [.ref 245, .ref 247, .int (nI s), .int (nI (N (15 + s)))]) (st' := [.int ((nI (N (15 + s))) + (nI (s + (N (21 + s)))))]) (I1 := (bg1 (bg1 (bg1 (bg1 I m 11) (m + 1) 10) (m + 1 + 1) 21) (m + 1 + 1 + 1) 20)) 1 rfl ?_
  refine WP.cg (st' := [.int (nI ((N (15 + s)) + (s + (N (21 + s)))))]) rfl (congrArg (fun z : Int32 => (.int z :: [] : List Value)) (nI_add (N (15 + s)) (s + (N (21 + s))))) rfl ?_
  exact WP.ret rfl rfl (⟨rfl, rfl⟩)
set_option maxRecDepth 100000 in
theorem sp_size11_2 {d : Nat} {I : Pl} {m s : Nat} {N : Nat → Nat} (hT : Tw I 247 N) (hN : TI N) (hs : s < 6) (hm : I 245 1 = nI m) (h16 : m + 5 ≤ 16) (hz : N (9 + s) = 2) : Ev (d + 5) 15 [.ref 245, .ref 247, .int (nI s)] (mem I) (some (.int (nI ((N (15 + s)) + (2 * (s + (N (21 + s)))))))) (mem (bg1 (bg1 (bg1 (bg1 (bg1 I m 11) (m + 1) 10) (m + 1 + 1) 24) (m + 1 + 1 + 1) 21) (m + 1 + 1 + 1 + 1) 20)) := by
  obtain ⟨b0, b1, b2, b3, b4, b5, b6, b7, b8, bS, bC, bS1, bC1, bZ, bG⟩ := id hN
  obtain ⟨bs1, bs2, bs3⟩ := bS s (by omega)
  refine Ev.only (EvX.enter rfl rfl rfl ?_)
  refine WP.run (pc' := 3) (L' := [.ref 245, .ref 247, .int (nI s), UU]) (st' := [.int (nI 11), .ref 245]) (I1 := I) 2 rfl ?_
  refine WP.callV (rest := []) rfl rfl (sp_begin (d := d + 3) (m := m) (x := 11) hm (by omega)) ?_
  refine WP.run (pc' := 9) (L' := [.ref 245, .ref 247, .int (nI s), UU]) (st' := [.int (nI s), .ref 247, .ref 245]) (I1 := (bg1 I m 11)) 3 rfl ?_
  refine WP.callV (rest := []) rfl rfl (sp_size10 (d := d + 2) (m := m + 1) (s := s) (bg1_tw hT) hN hs bg1_m (by omega)) ?_
  refine WP.run (pc' := 18) (L' := [.ref 245, .ref 247, .int (nI s), .int (nI (N (15 + s)))]) (st' := [.int (nI s), .ref 248]) (I1 := (bg1 (bg1 I m 11) (m + 1) 10)) 4 rfl ?_
  refine WP.iald rfl rfl rfl (by omega) (by decide) ?_
  refine WP.cg (st' := [.int (nI (N (9 + s)))]) rfl (congrArg (fun z : Int32 => (.int z :: [] : List Value)) ((bg1_tw (bg1_tw hT)).a1 (k := s) (by omega))) rfl ?_
  refine WP.cg (st' := [.int (nI 2)]) rfl (congrArg (fun z : Nat => (.int (nI z) :: [] : List Value)) hz) rfl ?_
  refine WP.run (pc' := 44) (L' := [.ref 245, .ref 247, .int (nI s), .int (nI (N (15 + s)))]) (st' := []) (I1 := (bg1 (bg1 I m 11) (m + 1) 10)) 1 rfl ?_
  refine WP.run (pc' := 48) (L' := [.ref 245, .ref 247, .int (nI s), .int (nI (N (15 + s)))]) (st' := [.int (nI s), .ref 247, .ref 245, .int (nI (N (15 + s)))]) (I1 := (bg1 (bg1 I m 11) (m + 1) 10)) 4 rfl ?_
  refine WP.callV (rest := [.int (nI (N (15 + s)))]) rfl rfl (sp_mark24 (d := d) (m := m + 1 + 1) (s := s) (bg1_tw (bg1_tw hT)) hN hs bg1_m (by omega)) ?_
  refine WP.run (pc' := 52) (L' := [.ref 245, .ref 247, .int (nI s), .int (nI (N (15 + s)))]) (st' := [.int ((nI (N (15 + s))) + (nI (2 * (s + (N (21 + s))))))]) (I1 := (bg1 (bg1 (bg1 (bg1 (bg1 I m 11) (m + 1) 10) (m + 1 + 1) 24) (m + 1 + 1 + 1) 21) (m + 1 + 1 + 1 + 1) 20)) 1 rfl ?_
  refine WP.cg (st' := [.int (nI ((N (15 + s)) + (2 * (s + (N (21 + s))))))]) rfl (congrArg (fun z : Int32 => (.int z :: [] : List Value)) (nI_add (N (15 + s)) (2 * (s + (N (21 + s)))))) rfl ?_
  exact WP.ret rfl rfl (⟨rfl, rfl⟩)
set_option maxRecDepth 100000 in
theorem sp_size11_3 {d : Nat} {I : Pl} {m s : Nat} {N : Nat → Nat} (hT : Tw I 247 N) (hN : TI N) (hs : s < 6) (hm : I 245 1 = nI m) (h16 : m + 5 ≤ 16) (hz : N (9 + s) = 3) : Ev (d + 5) 15 [.ref 245, .ref 247, .int (nI s)] (mem I) (some (.int ((nI (N (15 + s))) + ((nI (s + (N (21 + s)))) - (nI 1000))))) (mem (bg1 (bg1 (bg1 (bg1 (bg1 I m 11) (m + 1) 10) (m + 1 + 1) 22) (m + 1 + 1 + 1) 21) (m + 1 + 1 + 1 + 1) 20)) := by
  obtain ⟨b0, b1, b2, b3, b4, b5, b6, b7, b8, bS, bC, bS1, bC1, bZ, bG⟩ := id hN
  obtain ⟨bs1, bs2, bs3⟩ := bS s (by omega)
  refine Ev.only (EvX.enter rfl rfl rfl ?_)
  refine WP.run (pc' := 3) (L' := [.ref 245, .ref 247, .int (nI s), UU]) (st' := [.int (nI 11), .ref 245]) (I1 := I) 2 rfl ?_
  refine WP.callV (rest := []) rfl rfl (sp_begin (d := d + 3) (m := m) (x := 11) hm (by omega)) ?_
  refine WP.run (pc' := 9) (L' := [.ref 245, .ref 247, .int (nI s), UU]) (st' := [.int (nI s), .ref 247, .ref 245]) (I1 := (bg1 I m 11)) 3 rfl ?_
  refine WP.callV (rest := []) rfl rfl (sp_size10 (d := d + 2) (m := m + 1) (s := s) (bg1_tw hT) hN hs bg1_m (by omega)) ?_
  refine WP.run (pc' := 18) (L' := [.ref 245, .ref 247, .int (nI s), .int (nI (N (15 + s)))]) (st' := [.int (nI s), .ref 248]) (I1 := (bg1 (bg1 I m 11) (m + 1) 10)) 4 rfl ?_
  refine WP.iald rfl rfl rfl (by omega) (by decide) ?_
  refine WP.cg (st' := [.int (nI (N (9 + s)))]) rfl (congrArg (fun z : Int32 => (.int z :: [] : List Value)) ((bg1_tw (bg1_tw hT)).a1 (k := s) (by omega))) rfl ?_
  refine WP.cg (st' := [.int (nI 3)]) rfl (congrArg (fun z : Nat => (.int (nI z) :: [] : List Value)) hz) rfl ?_
  refine WP.run (pc' := 53) (L' := [.ref 245, .ref 247, .int (nI s), .int (nI (N (15 + s)))]) (st' := []) (I1 := (bg1 (bg1 I m 11) (m + 1) 10)) 1 rfl ?_
  refine WP.run (pc' := 57) (L' := [.ref 245, .ref 247, .int (nI s), .int (nI (N (15 + s)))]) (st' := [.int (nI s), .ref 247, .ref 245, .int (nI (N (15 + s)))]) (I1 := (bg1 (bg1 I m 11) (m + 1) 10)) 4 rfl ?_
  refine WP.callV (rest := [.int (nI (N (15 + s)))]) rfl rfl (sp_mark22 (d := d) (m := m + 1 + 1) (s := s) (bg1_tw (bg1_tw hT)) hN hs bg1_m (by omega)) ?_
  refine WP.run (pc' := 61) (L' := [.ref 245, .ref 247, .int (nI s), .int (nI (N (15 + s)))]) (st' := [.int ((nI (N (15 + s))) + ((nI (s + (N (21 + s)))) - (nI 1000)))]) (I1 := (bg1 (bg1 (bg1 (bg1 (bg1 I m 11) (m + 1) 10) (m + 1 + 1) 22) (m + 1 + 1 + 1) 21) (m + 1 + 1 + 1 + 1) 20)) 1 rfl ?_
  exact WP.ret rfl rfl (⟨rfl, rfl⟩)
set_option maxRecDepth 100000 in
theorem sp_size12_2 {d : Nat} {I : Pl} {m s : Nat} {N : Nat → Nat} (hT : Tw I 247 N) (hN : TI N) (hs : s < 6) (hm : I 245 1 = nI m) (h16 : m + 6 ≤ 16) (hz : N (9 + s) = 2) : Ev (d + 6) 16 [.ref 245, .ref 247, .int (nI s)] (mem I) (some (.int (-(nI ((N (15 + s)) + (2 * (s + (N (21 + s))))))))) (mem (bg1 (bg1 (bg1 (bg1 (bg1 (bg1 I m 12) (m + 1) 11) (m + 1 + 1) 10) (m + 1 + 1 + 1) 24) (m + 1 + 1 + 1 + 1) 21) (m + 1 + 1 + 1 + 1 + 1) 20)) := by
  obtain ⟨b0, b1, b2, b3, b4, b5, b6, b7, b8, bS, bC, bS1, bC1, bZ, bG⟩ := id hN
  obtain ⟨bs1, bs2, bs3⟩ := bS s (by omega)
  refine Ev.only (EvX.enter rfl rfl rfl ?_)
  refine WP.run (pc' := 3) (L' := [.ref 245, .ref 247, .int (nI s)]) (st' := [.int (nI 12), .ref 245]) (I1 := I) 2 rfl ?_
  refine WP.callV (rest := []) rfl rfl (sp_begin (d := d + 4) (m := m) (x := 12) hm (by omega)) ?_
  refine WP.run (pc' := 9) (L' := [.ref 245, .ref 247, .int (nI s)]) (st' := [.int (nI s), .ref 247, .ref 245]) (I1 := (bg1 I m 12)) 3 rfl ?_
  refine WP.callV (rest := []) rfl rfl (sp_size11_2 (d := d) (m := m + 1) (s := s) (bg1_tw hT) hN hs bg1_m (by omega) hz) ?_
  refine WP.run (pc' := 13) (L' := [.ref 245, .ref 247, .int (nI s)]) (st' := [.int (-(nI ((N (15 + s)) + (2 * (s + (N (21 + s)))))))]) (I1 := (bg1 (bg1 (bg1 (bg1 (bg1 (bg1 I m 12) (m + 1) 11) (m + 1 + 1) 10) (m + 1 + 1 + 1) 24) (m + 1 + 1 + 1 + 1) 21) (m + 1 + 1 + 1 + 1 + 1) 20)) 1 rfl ?_
  exact WP.ret rfl rfl (⟨rfl, rfl⟩)
set_option maxRecDepth 100000 in
theorem sp_size_1 {d : Nat} {I : Pl} {m s : Nat} {N : Nat → Nat} (hT : Tw I 247 N) (hN : TI N) (hs : s < 6) (hm : I 245 1 = nI m) (h16 : m + 6 ≤ 16) (hz : N (9 + s) = 1) : Ev (d + 7) 19 [.ref 245, .ref 247, .int (nI s)] (mem I) (some (.int (nI ((N (15 + s)) + (s + (N (21 + s))))))) (mem (bg1 (bg1 (bg1 (bg1 I m 11) (m + 1) 10) (m + 1 + 1) 21) (m + 1 + 1 + 1) 20)) := by
  obtain ⟨b0, b1, b2, b3, b4, b5, b6, b7, b8, bS, bC, bS1, bC1, bZ, bG⟩ := id hN
  obtain ⟨bs1, bs2, bs3⟩ := bS s (by omega)
  refine Ev.only (EvX.enter rfl rfl rfl ?_)
  refine WP.run (pc' := 5) (L' := [.ref 245, .ref 247, .int (nI s)]) (st' := [.int (nI s), .ref 248]) (I1 := I) 3 rfl ?_
  refine WP.iald rfl rfl rfl (by omega) (by decide) ?_
  refine WP.cg (st' := [.int (nI (N (9 + s)))]) rfl (congrArg (fun z : Int32 => (.int z :: [] : List Value)) (hT.a1 (k := s) (by omega))) rfl ?_
  refine WP.cg (st' := [.int (nI 1)]) rfl (congrArg (fun z : Nat => (.int (nI z) :: [] : List Value)) hz) rfl ?_
  refine WP.run (pc' := 40) (L' := [.ref 245, .ref 247, .int (nI s)]) (st' := []) (I1 := I) 1 rfl ?_
  refine WP.run (pc' := 43) (L' := [.ref 245, .ref 247, .int (nI s)]) (st' := [.int (nI s), .ref 247, .ref 245]) (I1 := I) 3 rfl ?_
  refine WP.callV (rest := []) rfl rfl (sp_size11_1 (d := d + 1) (m := m) (s := s) hT hN hs hm (by omega) hz) ?_
  exact WP.ret rfl rfl (⟨rfl, rfl⟩)
set_option maxRecDepth 100000 in
theorem sp_mark_1 {d : Nat} {I : Pl} {m s : Nat} {N : Nat → Nat} (hT : Tw I 247 N) (hN : TI N) (hs : s < 6) (hm : I 245 1 = nI m) (h16 : m + 5 ≤ 16) (hz : N (9 + s) = 1) : Ev (d + 6) 21 [.ref 245, .ref 247, .int (nI s)] (mem I) (some (.int (nI (s + (N (21 + s)))))) (mem (bg1 (bg1 I m 21) (m + 1) 20)) := by
  obtain ⟨b0, b1, b2, b3, b4, b5, b6, b7, b8, bS, bC, bS1, bC1, bZ, bG⟩ := id hN
  obtain ⟨bs1, bs2, bs3⟩ := bS s (by omega)
  refine Ev.only (EvX.enter rfl rfl rfl ?_)
  refine WP.run (pc' := 5) (L' := [.ref 245, .ref 247, .int (nI s)]) (st' := [.int (nI s), .ref 248]) (I1 := I) 3 rfl ?_
  refine WP.iald rfl rfl rfl (by omega) (by decide) ?_
  refine WP.cg (st' := [.int (nI (N (9 + s)))]) rfl (congrArg (fun z : Int32 => (.int z :: [] : List Value)) (hT.a1 (k := s) (by omega))) rfl ?_
  refine WP.cg (st' := [.int (nI 1)]) rfl (congrArg (fun z : Nat => (.int (nI z) :: [] : List Value)) hz) rfl ?_
  refine WP.run (pc' := 40) (L' := [.ref 245, .ref 247, .int (nI s)]) (st' := []) (I1 := I) 1 rfl ?_
  refine WP.run (pc' := 43) (L' := [.ref 245, .ref 247, .int (nI s)]) (st' := [.int (nI s), .ref 247, .ref 245]) (I1 := I) 3 rfl ?_
  refine WP.callV (rest := []) rfl rfl (sp_mark21 (d := d + 2) (m := m) (s := s) hT hN hs hm (by omega)) ?_
  exact WP.ret rfl rfl (⟨rfl, rfl⟩)
set_option maxRecDepth 100000 in
theorem sp_size_2 {d : Nat} {I : Pl} {m s : Nat} {N : Nat → Nat} (hT : Tw I 247 N) (hN : TI N) (hs : s < 6) (hm : I 245 1 = nI m) (h16 : m + 6 ≤ 16) (hz : N (9 + s) = 2) : Ev (d + 7) 19 [.ref 245, .ref 247, .int (nI s)] (mem I) (some (.int (-(nI ((N (15 + s)) + (2 * (s + (N (21 + s))))))))) (mem (bg1 (bg1 (bg1 (bg1 (bg1 (bg1 I m 12) (m + 1) 11) (m + 1 + 1) 10) (m + 1 + 1 + 1) 24) (m + 1 + 1 + 1 + 1) 21) (m + 1 + 1 + 1 + 1 + 1) 20)) := by
  obtain ⟨b0, b1, b2, b3, b4, b5, b6, b7, b8, bS, bC, bS1, bC1, bZ, bG⟩ := id hN
  obtain ⟨bs1, bs2, bs3⟩ := bS s (by omega)
  refine Ev.only (EvX.enter rfl rfl rfl ?_)
  refine WP.run (pc' := 5) (L' := [.ref 245, .ref 247, .int (nI s)]) (st' := [.int (nI s), .ref 248]) (I1 := I) 3 rfl ?_
  refine WP.iald rfl rfl rfl (by omega) (by decide) ?_
  refine WP.cg (st' := [.int (nI (N (9 + s)))]) rfl (congrArg (fun z : Int32 => (.int z :: [] : List Value)) (hT.a1 (k := s) (by omega))) rfl ?_
  refine WP.cg (st' := [.int (nI 2)]) rfl (congrArg (fun z : Nat => (.int (nI z) :: [] : List Value)) hz) rfl ?_
  refine WP.run (pc' := 47) (L' := [.ref 245, .ref 247, .int (nI s)]) (st' := []) (I1 := I) 1 rfl ?_
  refine WP.run (pc' := 50) (L' := [.ref 245, .ref 247, .int (nI s)]) (st' := [.int (nI s), .ref 247, .ref 245]) (I1 := I) 3 rfl ?_
  refine WP.callV (rest := []) rfl rfl (sp_size12_2 (d := d) (m := m) (s := s) hT hN hs hm (by omega) hz) ?_
  exact WP.ret rfl rfl (⟨rfl, rfl⟩)
set_option maxRecDepth 100000 in
theorem sp_mark_2 {d : Nat} {I : Pl} {m s : Nat} {N : Nat → Nat} (hT : Tw I 247 N) (hN : TI N) (hs : s < 6) (hm : I 245 1 = nI m) (h16 : m + 5 ≤ 16) (hz : N (9 + s) = 2) : Ev (d + 6) 21 [.ref 245, .ref 247, .int (nI s)] (mem I) (some (.int (nI (2 * (s + (N (21 + s))))))) (mem (bg1 (bg1 (bg1 I m 24) (m + 1) 21) (m + 1 + 1) 20)) := by
  obtain ⟨b0, b1, b2, b3, b4, b5, b6, b7, b8, bS, bC, bS1, bC1, bZ, bG⟩ := id hN
  obtain ⟨bs1, bs2, bs3⟩ := bS s (by omega)
  refine Ev.only (EvX.enter rfl rfl rfl ?_)
  refine WP.run (pc' := 5) (L' := [.ref 245, .ref 247, .int (nI s)]) (st' := [.int (nI s), .ref 248]) (I1 := I) 3 rfl ?_
  refine WP.iald rfl rfl rfl (by omega) (by decide) ?_
  refine WP.cg (st' := [.int (nI (N (9 + s)))]) rfl (congrArg (fun z : Int32 => (.int z :: [] : List Value)) (hT.a1 (k := s) (by omega))) rfl ?_
  refine WP.cg (st' := [.int (nI 2)]) rfl (congrArg (fun z : Nat => (.int (nI z) :: [] : List Value)) hz) rfl ?_
  refine WP.run (pc' := 61) (L' := [.ref 245, .ref 247, .int (nI s)]) (st' := []) (I1 := I) 1 rfl ?_
  refine WP.run (pc' := 64) (L' := [.ref 245, .ref 247, .int (nI s)]) (st' := [.int (nI s), .ref 247, .ref 245]) (I1 := I) 3 rfl ?_
  refine WP.callV (rest := []) rfl rfl (sp_mark24 (d := d + 1) (m := m) (s := s) hT hN hs hm (by omega)) ?_
  exact WP.ret rfl rfl (⟨rfl, rfl⟩)
set_option maxRecDepth 100000 in
theorem sp_size_3 {d : Nat} {I : Pl} {m s : Nat} {N : Nat → Nat} (hT : Tw I 247 N) (hN : TI N) (hs : s < 6) (hm : I 245 1 = nI m) (h16 : m + 6 ≤ 16) (hz : N (9 + s) = 3) : Ev (d + 7) 19 [.ref 245, .ref 247, .int (nI s)] (mem I) (some (.int ((nI (N (15 + s))) + ((nI (s + (N (21 + s)))) - (nI 1000))))) (mem (bg1 (bg1 (bg1 (bg1 (bg1 I m 11) (m + 1) 10) (m + 1 + 1) 22) (m + 1 + 1 + 1) 21) (m + 1 + 1 + 1 + 1) 20)) := by
  obtain ⟨b0, b1, b2, b3, b4, b5, b6, b7, b8, bS, bC, bS1, bC1, bZ, bG⟩ := id hN
  obtain ⟨bs1, bs2, bs3⟩ := bS s (by omega)
  refine Ev.only (EvX.enter rfl rfl rfl ?_)
  refine WP.run (pc' := 5) (L' := [.ref 245, .ref 247, .int (nI s)]) (st' := [.int (nI s), .ref 248]) (I1 := I) 3 rfl ?_
  refine WP.iald rfl rfl rfl (by omega) (by decide) ?_
  refine WP.cg (st' := [.int (nI (N (9 + s)))]) rfl (congrArg (fun z : Int32 => (.int z :: [] : List Value)) (hT.a1 (k := s) (by omega))) rfl ?_
  refine WP.cg (st' := [.int (nI 3)]) rfl (congrArg (fun z : Nat => (.int (nI z) :: [] : List Value)) hz) rfl ?_
  refine WP.run (pc' := 40) (L' := [.ref 245, .ref 247, .int (nI s)]) (st' := []) (I1 := I) 1 rfl ?_
  refine WP.run (pc' := 43) (L' := [.ref 245, .ref 247, .int (nI s)]) (st' := [.int (nI s), .ref 247, .ref 245]) (I1 := I) 3 rfl ?_
  refine WP.callV (rest := []) rfl rfl (sp_size11_3 (d := d + 1) (m := m) (s := s) hT hN hs hm (by omega) hz) ?_
  exact WP.ret rfl rfl (⟨rfl, rfl⟩)
set_option maxRecDepth 100000 in
theorem sp_mark_3 {d : Nat} {I : Pl} {m s : Nat} {N : Nat → Nat} (hT : Tw I 247 N) (hN : TI N) (hs : s < 6) (hm : I 245 1 = nI m) (h16 : m + 5 ≤ 16) (hz : N (9 + s) = 3) : Ev (d + 6) 21 [.ref 245, .ref 247, .int (nI s)] (mem I) (some (.int ((nI (s + (N (21 + s)))) - (nI 1000)))) (mem (bg1 (bg1 (bg1 I m 22) (m + 1) 21) (m + 1 + 1) 20)) := by
  obtain ⟨b0, b1, b2, b3, b4, b5, b6, b7, b8, bS, bC, bS1, bC1, bZ, bG⟩ := id hN
  obtain ⟨bs1, bs2, bs3⟩ := bS s (by omega)
  refine Ev.only (EvX.enter rfl rfl rfl ?_)
  refine WP.run (pc' := 5) (L' := [.ref 245, .ref 247, .int (nI s)]) (st' := [.int (nI s), .ref 248]) (I1 := I) 3 rfl ?_
  refine WP.iald rfl rfl rfl (by omega) (by decide) ?_
  refine WP.cg (st' := [.int (nI (N (9 + s)))]) rfl (congrArg (fun z : Int32 => (.int z :: [] : List Value)) (hT.a1 (k := s) (by omega))) rfl ?_
  refine WP.cg (st' := [.int (nI 3)]) rfl (congrArg (fun z : Nat => (.int (nI z) :: [] : List Value)) hz) rfl ?_
  refine WP.run (pc' := 47) (L' := [.ref 245, .ref 247, .int (nI s)]) (st' := []) (I1 := I) 1 rfl ?_
  refine WP.run (pc' := 50) (L' := [.ref 245, .ref 247, .int (nI s)]) (st' := [.int (nI s), .ref 247, .ref 245]) (I1 := I) 3 rfl ?_
  refine WP.callV (rest := []) rfl rfl (sp_mark22 (d := d + 1) (m := m) (s := s) hT hN hs hm (by omega)) ?_
  exact WP.ret rfl rfl (⟨rfl, rfl⟩)
set_option maxRecDepth 100000 in
theorem sp_size_4 {d : Nat} {I : Pl} {m s : Nat} {N : Nat → Nat} (hT : Tw I 247 N) (hN : TI N) (hs : s < 6) (hm : I 245 1 = nI m) (h16 : m + 6 ≤ 16) (hz : N (9 + s) = 4) : Ev (d + 7) 19 [.ref 245, .ref 247, .int (nI s)] (mem I) (some (.int ((nI (N (15 + s))) - (nI 100)))) (mem (bg1 (bg1 I m 13) (m + 1) 10)) := by
  obtain ⟨b0, b1, b2, b3, b4, b5, b6, b7, b8, bS, bC, bS1, bC1, bZ, bG⟩ := id hN
  obtain ⟨bs1, bs2, bs3⟩ := bS s (by omega)
  refine Ev.only (EvX.enter rfl rfl rfl ?_)
  refine WP.run (pc' := 5) (L' := [.ref 245, .ref 247, .int (nI s)]) (st' := [.int (nI s), .ref 248]) (I1 := I) 3 rfl ?_
  refine WP.iald rfl rfl rfl (by omega) (by decide) ?_
  refine WP.cg (st' := [.int (nI (N (9 + s)))]) rfl (congrArg (fun z : Int32 => (.int z :: [] : List Value)) (hT.a1 (k := s) (by omega))) rfl ?_
  refine WP.cg (st' := [.int (nI 4)]) rfl (congrArg (fun z : Nat => (.int (nI z) :: [] : List Value)) hz) rfl ?_
  refine WP.run (pc' := 54) (L' := [.ref 245, .ref 247, .int (nI s)]) (st' := []) (I1 := I) 1 rfl ?_
  refine WP.run (pc' := 57) (L' := [.ref 245, .ref 247, .int (nI s)]) (st' := [.int (nI s), .ref 247, .ref 245]) (I1 := I) 3 rfl ?_
  refine WP.callV (rest := []) rfl rfl (sp_size13 (d := d + 3) (m := m) (s := s) hT hN hs hm (by omega)) ?_
  exact WP.ret rfl rfl (⟨rfl, rfl⟩)
set_option maxRecDepth 100000 in
theorem sp_mark_4 {d : Nat} {I : Pl} {m s : Nat} {N : Nat → Nat} (hT : Tw I 247 N) (hN : TI N) (hs : s < 6) (hm : I 245 1 = nI m) (h16 : m + 5 ≤ 16) (hz : N (9 + s) = 4) : Ev (d + 6) 21 [.ref 245, .ref 247, .int (nI s)] (mem I) (some (.int ((nI s) - ((nI (N (15 + s))) - (nI 100))))) (mem (bg1 (bg1 (bg1 (bg1 I m 23) (m + 1) 20) (m + 1 + 1) 13) (m + 1 + 1 + 1) 10)) := by
  obtain ⟨b0, b1, b2, b3, b4, b5, b6, b7, b8, bS, bC, bS1, bC1, bZ, bG⟩ := id hN
  obtain ⟨bs1, bs2, bs3⟩ := bS s (by omega)
  refine Ev.only (EvX.enter rfl rfl rfl ?_)
  refine WP.run (pc' := 5) (L' := [.ref 245, .ref 247, .int (nI s)]) (st' := [.int (nI s), .ref 248]) (I1 := I) 3 rfl ?_
  refine WP.iald rfl rfl rfl (by omega) (by decide) ?_
  refine WP.cg (st' := [.int (nI (N (9 + s)))]) rfl (congrArg (fun z : Int32 => (.int z :: [] : List Value)) (hT.a1 (k := s) (by omega))) rfl ?_
  refine WP.cg (st' := [.int (nI 4)]) rfl (congrArg (fun z : Nat => (.int (nI z) :: [] : List Value)) hz) rfl ?_
  refine WP.run (pc' := 54) (L' := [.ref 245, .ref 247, .int (nI s)]) (st' := []) (I1 := I) 1 rfl ?_
  refine WP.run (pc' := 57) (L' := [.ref 245, .ref 247, .int (nI s)]) (st' := [.int (nI s), .ref 247, .ref 245]) (I1 := I) 3 rfl ?_
  refine WP.callV (rest := []) rfl rfl (sp_mark23_4 (d := d) (m := m) (s := s) hT hN hs hm (by omega) hz) ?_
  exact WP.ret rfl rfl (⟨rfl, rfl⟩)
set_option maxRecDepth 100000 in
theorem sp_size_5 {d : Nat} {I : Pl} {m s : Nat} {N : Nat → Nat} (hT : Tw I 247 N) (hN : TI N) (hs : s < 6) (hm : I 245 1 = nI m) (h16 : m + 6 ≤ 16) (hz : N (9 + s) = 5) : Ev (d + 7) 19 [.ref 245, .ref 247, .int (nI s)] (mem I) (some (.int ((nI 2) * ((nI (N (15 + s))) - (nI 100))))) (mem (bg1 (bg1 (bg1 I m 14) (m + 1) 13) (m + 1 + 1) 10)) := by
  obtain ⟨b0, b1, b2, b3, b4, b5, b6, b7, b8, bS, bC, bS1, bC1, bZ, bG⟩ := id hN
  obtain ⟨bs1, bs2, bs3⟩ := bS s (by omega)
  refine Ev.only (EvX.enter rfl rfl rfl ?_)
  refine WP.run (pc' := 5) (L' := [.ref 245, .ref 247, .int (nI s)]) (st' := [.int (nI s), .ref 248]) (I1 := I) 3 rfl ?_
  refine WP.iald rfl rfl rfl (by omega) (by decide) ?_
  refine WP.cg (st' := [.int (nI (N (9 + s)))]) rfl (congrArg (fun z : Int32 => (.int z :: [] : List Value)) (hT.a1 (k := s) (by omega))) rfl ?_
  refine WP.cg (st' := [.int (nI 5)]) rfl (congrArg (fun z : Nat => (.int (nI z) :: [] : List Value)) hz) rfl ?_
  refine WP.run (pc' := 61) (L' := [.ref 245, .ref 247, .int (nI s)]) (st' := []) (I1 := I) 1 rfl ?_
  refine WP.run (pc' := 64) (L' := [.ref 245, .ref 247, .int (nI s)]) (st' := [.int (nI s), .ref 247, .ref 245]) (I1 := I) 3 rfl ?_
  refine WP.callV (rest := []) rfl rfl (sp_size14 (d := d + 2) (m := m) (s := s) hT hN hs hm (by omega)) ?_
  exact WP.ret rfl rfl (⟨rfl, rfl⟩)
set_option maxRecDepth 100000 in
theorem sp_mark_5 {d : Nat} {I : Pl} {m s : Nat} {N : Nat → Nat} (hT : Tw I 247 N) (hN : TI N) (hs : s < 6) (hm : I 245 1 = nI m) (h16 : m + 5 ≤ 16) (hz : N (9 + s) = 5) : Ev (d + 6) 21 [.ref 245, .ref 247, .int (nI s)] (mem I) (some (.int ((nI s) - ((nI 2) * ((nI (N (15 + s))) - (nI 100)))))) (mem (bg1 (bg1 (bg1 (bg1 (bg1 I m 23) (m + 1) 20) (m + 1 + 1) 14) (m + 1 + 1 + 1) 13) (m + 1 + 1 + 1 + 1) 10)) := by
  obtain ⟨b0, b1, b2, b3, b4, b5, b6, b7, b8, bS, bC, bS1, bC1, bZ, bG⟩ := id hN
  obtain ⟨bs1, bs2, bs3⟩ := bS s (by omega)
  refine Ev.only (EvX.enter rfl rfl rfl ?_)
  refine WP.run (pc' := 5) (L' := [.ref 245, .ref 247, .int (nI s)]) (st' := [.int (nI s), .ref 248]) (I1 := I) 3 rfl ?_
  refine WP.iald rfl rfl rfl (by omega) (by decide) ?_
  refine WP.cg (st' := [.int (nI (N (9 + s)))]) rfl (congrArg (fun z : Int32 => (.int z :: [] : List Value)) (hT.a1 (k := s) (by omega))) rfl ?_
  refine WP.cg (st' := [.int (nI 5)]) rfl (congrArg (fun z : Nat => (.int (nI z) :: [] : List Value)) hz) rfl ?_
  refine WP.run (pc' := 54) (L' := [.ref 245, .ref 247, .int (nI s)]) (st' := []) (I1 := I) 1 rfl ?_
  refine WP.run (pc' := 57) (L' := [.ref 245, .ref 247, .int (nI s)]) (st' := [.int (nI s), .ref 247, .ref 245]) (I1 := I) 3 rfl ?_
  refine WP.callV (rest := []) rfl rfl (sp_mark23_5 (d := d) (m := m) (s := s) hT hN hs hm (by omega) hz) ?_
  exact WP.ret rfl rfl (⟨rfl, rfl⟩)
