/-! the reference asked -/
def lv1 (I : Pl) (m x : Nat) : Pl := upN (upN I 282 m (nI x)) 271 19 (nI (m + 1))
theorem lv1_m {I : Pl} {m x : Nat} : lv1 I m x 271 19 = nI (m + 1) := upN_s
theorem lv1_t0 {I : Pl} {m x : Nat} {N : Nat → Nat} (h : T0 I N) : T0 (lv1 I m x) N := (h.out (Or.inl (by decide))).out (Or.inl (by decide))
set_option maxRecDepth 100000 in
theorem ms_leaves {d : Nat} {I : Pl} {m x : Nat} (hm : I 271 19 = nI m) (h16 : m < 16) : Ev (d + 1) 190 [.ref 271, .int (nI x)] (mem I) (none) (mem (lv1 I m x)) := by
  refine Ev.only (EvX.enter rfl rfl rfl ?_)
  refine WP.run (pc' := 4) (L' := [.ref 271, .int (nI x)]) (st' := [.int (I 271 19)]) (I1 := I) 2 rfl ?_
  refine WP.cg (st' := [.int (nI m)]) rfl (congrArg (fun z : Int32 => (.int z :: [] : List Value)) (hm)) rfl ?_
  refine WP.run (pc' := 6) (L' := [.ref 271, .int (nI x)]) (st' := [.int (nI 16), .int (nI m)]) (I1 := I) 1 rfl ?_
  refine WP.run (pc' := if (nI 16) ≤ (nI m) then 29 else 9) (L' := [.ref 271, .int (nI x)]) (st' := []) (I1 := I) 1 rfl ?_
  refine WP.brF (fun q => absurd (nI_le_ (by omega) (by omega) q) (by omega)) ?_
  refine WP.run (pc' := 17) (L' := [.ref 271, .int (nI x)]) (st' := [.int (I 271 19), .ref 282]) (I1 := I) 4 rfl ?_
  refine WP.cg (st' := [.int (nI m), .ref 282]) rfl (congrArg (fun z : Int32 => (.int z :: [.ref 282] : List Value)) (hm)) rfl ?_
  refine WP.run (pc' := 18) (L' := [.ref 271, .int (nI x)]) (st' := [.int (nI x), .int (nI m), .ref 282]) (I1 := I) 1 rfl ?_
  refine WP.iast rfl rfl rfl (by omega) (by decide) ?_
  refine WP.run (pc' := 24) (L' := [.ref 271, .int (nI x)]) (st' := [.int (I 271 19), .ref 271]) (I1 := (upN I 282 m (nI x))) 3 rfl ?_
  refine WP.cg (st' := [.int (nI m), .ref 271]) rfl (congrArg (fun z : Int32 => (.int z :: [.ref 271] : List Value)) (hm)) rfl ?_
  refine WP.run (pc' := 26) (L' := [.ref 271, .int (nI x)]) (st' := [.int ((nI m) + (nI 1)), .ref 271]) (I1 := (upN I 282 m (nI x))) 2 rfl ?_
  refine WP.cg (st' := [.int (nI (m + 1)), .ref 271]) rfl (congrArg (fun z : Int32 => (.int z :: [.ref 271] : List Value)) (nI_add m 1)) rfl ?_
  refine WP.run (pc' := 29) (L' := [.ref 271, .int (nI x)]) (st' := []) (I1 := (upN (upN I 282 m (nI x)) 271 19 (nI (m + 1)))) 1 rfl ?_
  exact WP.ret rfl rfl (⟨rfl, rfl⟩)
set_option maxRecDepth 100000 in
theorem ms_bareSize {d : Nat} {I : Pl} {m s : Nat} {N : Nat → Nat} (hM : T0 I N) (hN : TI N) (hs : s < 6) (hm : I 271 19 = nI m) (h16 : m + 1 ≤ 16) : Ev (d + 2) 194 [.ref 271, .int (nI s)] (mem I) (some (.int (nI (N (15 + s))))) (mem (lv1 I m 10)) := by
  obtain ⟨b0, b1, b2, b3, b4, b5, b6, b7, b8, bS, bC, bS1, bC1, bZ, bG⟩ := id hN
  obtain ⟨bs1, bs2, bs3⟩ := bS s (by omega)
  refine Ev.only (EvX.enter rfl rfl rfl ?_)
  refine WP.run (pc' := 3) (L' := [.ref 271, .int (nI s)]) (st' := [.int (nI 10), .ref 271]) (I1 := I) 2 rfl ?_
  refine WP.callV (rest := []) rfl rfl (ms_leaves (d := d) (m := m) (x := 10) hm (by omega)) ?_
  refine WP.run (pc' := 14) (L' := [.ref 271, .int (nI s)]) (st' := [.int ((nI 15) + (nI s)), .ref 272]) (I1 := (lv1 I m 10)) 5 rfl ?_
  refine WP.cg (st' := [.int (nI (15 + s)), .ref 272]) rfl (congrArg (fun z : Int32 => (.int z :: [.ref 272] : List Value)) (nI_add 15 s)) rfl ?_
  refine WP.iald rfl rfl rfl (by omega) (by decide) ?_
  refine WP.cg (st' := [.int (nI (N (15 + s)))]) rfl (congrArg (fun z : Int32 => (.int z :: [] : List Value)) ((lv1_t0 hM) (15 + s) (by omega))) rfl ?_
  exact WP.ret rfl rfl (⟨rfl, rfl⟩)
set_option maxRecDepth 100000 in
theorem ms_bareMark {d : Nat} {I : Pl} {m s : Nat} {N : Nat → Nat} (hM : T0 I N) (hN : TI N) (hs : s < 6) (hm : I 271 19 = nI m) (h16 : m + 1 ≤ 16) : Ev (d + 2) 195 [.ref 271, .int (nI s)] (mem I) (some (.int (nI s))) (mem (lv1 I m 20)) := by
  obtain ⟨b0, b1, b2, b3, b4, b5, b6, b7, b8, bS, bC, bS1, bC1, bZ, bG⟩ := id hN
  obtain ⟨bs1, bs2, bs3⟩ := bS s (by omega)
  refine Ev.only (EvX.enter rfl rfl rfl ?_)
  refine WP.run (pc' := 3) (L' := [.ref 271, .int (nI s)]) (st' := [.int (nI 20), .ref 271]) (I1 := I) 2 rfl ?_
  refine WP.callV (rest := []) rfl rfl (ms_leaves (d := d) (m := m) (x := 20) hm (by omega)) ?_
  refine WP.run (pc' := 7) (L' := [.ref 271, .int (nI s)]) (st' := [.int (nI s)]) (I1 := (lv1 I m 20)) 1 rfl ?_
  exact WP.ret rfl rfl (⟨rfl, rfl⟩)
set_option maxRecDepth 100000 in
theorem ms_hairMark {d : Nat} {I : Pl} {m s : Nat} {N : Nat → Nat} (hM : T0 I N) (hN : TI N) (hs : s < 6) (hm : I 271 19 = nI m) (h16 : m + 2 ≤ 16) : Ev (d + 3) 196 [.ref 271, .int (nI s)] (mem I) (some (.int (nI (s + (N (21 + s)))))) (mem (lv1 (lv1 I m 21) (m + 1) 20)) := by
  obtain ⟨b0, b1, b2, b3, b4, b5, b6, b7, b8, bS, bC, bS1, bC1, bZ, bG⟩ := id hN
  obtain ⟨bs1, bs2, bs3⟩ := bS s (by omega)
  refine Ev.only (EvX.enter rfl rfl rfl ?_)
  refine WP.run (pc' := 3) (L' := [.ref 271, .int (nI s)]) (st' := [.int (nI 21), .ref 271]) (I1 := I) 2 rfl ?_
  refine WP.callV (rest := []) rfl rfl (ms_leaves (d := d + 1) (m := m) (x := 21) hm (by omega)) ?_
  refine WP.run (pc' := 8) (L' := [.ref 271, .int (nI s)]) (st' := [.int (nI s), .ref 271]) (I1 := (lv1 I m 21)) 2 rfl ?_
  refine WP.callV (rest := []) rfl rfl (ms_bareMark (d := d) (m := m + 1) (s := s) (lv1_t0 hM) hN hs lv1_m (by omega)) ?_
  refine WP.run (pc' := 19) (L' := [.ref 271, .int (nI s)]) (st' := [.int ((nI 21) + (nI s)), .ref 272, .int (nI s)]) (I1 := (lv1 (lv1 I m 21) (m + 1) 20)) 5 rfl ?_
  refine WP.cg (st' := [.int (nI (21 + s)), .ref 272, .int (nI s)]) rfl (congrArg (fun z : Int32 => (.int z :: [.ref 272, .int (nI s)] : List Value)) (nI_add 21 s)) rfl ?_
  refine WP.iald rfl rfl rfl (by omega) (by decide) ?_
  refine WP.cg (st' := [.int (nI (N (21 + s))), .int (nI s)]) rfl (congrArg (fun z : Int32 => (.int z :: [.int (nI s)] : List Value)) ((lv1_t0 (lv1_t0 hM)) (21 + s) (by omega))) rfl ?_
  refine WP.run (pc' := 21) (L' := [.ref 271, .int (nI s)]) (st' := [.int ((nI s) + (nI (N (21 + s))))]) (I1 := (lv1 (lv1 I m 21) (m + 1) 20)) 1 rfl ?_
  refine WP.cg (st' := [.int (nI (s + (N (21 + s))))]) rfl (congrArg (fun z : Int32 => (.int z :: [] : List Value)) (nI_add s (N (21 + s)))) rfl ?_
  exact WP.ret rfl rfl (⟨rfl, rfl⟩)
set_option maxRecDepth 100000 in
theorem ms_markOfHair_1 {d : Nat} {I : Pl} {m s : Nat} {N : Nat → Nat} (hM : T0 I N) (hN : TI N) (hs : s < 6) (hm : I 271 19 = nI m) (h16 : m + 3 ≤ 16) (hz : N (9 + s) = 1) : Ev (d + 4) 197 [.ref 271, .int (nI s)] (mem I) (some (.int (nI (s + (N (21 + s)))))) (mem (lv1 (lv1 I m 21) (m + 1) 20)) := by
  obtain ⟨b0, b1, b2, b3, b4, b5, b6, b7, b8, bS, bC, bS1, bC1, bZ, bG⟩ := id hN
  obtain ⟨bs1, bs2, bs3⟩ := bS s (by omega)
  refine Ev.only (EvX.enter rfl rfl rfl ?_)
  refine WP.run (pc' := 8) (L' := [.ref 271, .int (nI s)]) (st' := [.int ((nI 9) + (nI s)), .ref 272]) (I1 := I) 5 rfl ?_
  refine WP.cg (st' := [.int (nI (9 + s)), .ref 272]) rfl (congrArg (fun z : Int32 => (.int z :: [.ref 272] : List Value)) (nI_add 9 s)) rfl ?_
  refine WP.iald rfl rfl rfl (by omega) (by decide) ?_
  refine WP.cg (st' := [.int (nI (N (9 + s)))]) rfl (congrArg (fun z : Int32 => (.int z :: [] : List Value)) (hM (9 + s) (by omega))) rfl ?_
  refine WP.run (pc' := if ¬ (nI (N (9 + s))) = (nI 2) then 27 else 13) (L' := [.ref 271, .int (nI s)]) (st' := []) (I1 := I) 2 rfl ?_
  refine WP.brT (by rw [hz]; decide) ?_
  refine WP.run (pc' := 35) (L' := [.ref 271, .int (nI s)]) (st' := [.int ((nI 9) + (nI s)), .ref 272]) (I1 := I) 5 rfl ?_
  refine WP.cg (st' := [.int (nI (9 + s)), .ref 272]) rfl (congrArg (fun z : Int32 => (.int z :: [.ref 272] : List Value)) (nI_add 9 s)) rfl ?_
  refine WP.iald rfl rfl rfl (by omega) (by decide) ?_
  refine WP.cg (st' := [.int (nI (N (9 + s)))]) rfl (congrArg (fun z : Int32 => (.int z :: [] : List Value)) (hM (9 + s) (by omega))) rfl ?_
  refine WP.run (pc' := if ¬ (nI (N (9 + s))) = (nI 3) then 56 else 40) (L' := [.ref 271, .int (nI s)]) (st' := []) (I1 := I) 2 rfl ?_
  refine WP.brT (by rw [hz]; decide) ?_
  refine WP.run (pc' := 58) (L' := [.ref 271, .int (nI s)]) (st' := [.int (nI s), .ref 271]) (I1 := I) 2 rfl ?_
  refine WP.callV (rest := []) rfl rfl (ms_hairMark (d := d) (m := m) (s := s) hM hN hs hm (by omega)) ?_
  exact WP.ret rfl rfl (⟨rfl, rfl⟩)
set_option maxRecDepth 100000 in
theorem ms_hairSize_1 {d : Nat} {I : Pl} {m s : Nat} {N : Nat → Nat} (hM : T0 I N) (hN : TI N) (hs : s < 6) (hm : I 271 19 = nI m) (h16 : m + 5 ≤ 16) (hz : N (9 + s) = 1) : Ev (d + 5) 198 [.ref 271, .int (nI s)] (mem I) (some (.int (nI ((N (15 + s)) + (s + (N (21 + s))))))) (mem (lv1 (lv1 (lv1 (lv1 I m 11) (m + 1) 10) (m + 1 + 1) 21) (m + 1 + 1 + 1) 20)) := by
  obtain ⟨b0, b1, b2, b3, b4, b5, b6, b7, b8, bS, bC, bS1, bC1, bZ, bG⟩ := id hN
  obtain ⟨bs1, bs2, bs3⟩ := bS s (by omega)
  refine Ev.only (EvX.enter rfl rfl rfl ?_)
  refine WP.run (pc' := 3) (L' := [.ref 271, .int (nI s), UU]) (st' := [.int (nI 11), .ref 271]) (I1 := I) 2 rfl ?_
  refine WP.callV (rest := []) rfl rfl (ms_leaves (d := d + 3) (m := m) (x := 11) hm (by omega)) ?_
  refine WP.run (pc' := 8) (L' := [.ref 271, .int (nI s), UU]) (st' := [.int (nI s), .ref 271]) (I1 := (lv1 I m 11)) 2 rfl ?_
  refine WP.callV (rest := []) rfl rfl (ms_bareSize (d := d + 2) (m := m + 1) (s := s) (lv1_t0 hM) hN hs lv1_m (by omega)) ?_
  refine WP.run (pc' := 15) (L' := [.ref 271, .int (nI s), .int (nI (N (15 + s)))]) (st' := [.int (nI s), .ref 271, .int (nI (N (15 + s)))]) (I1 := (lv1 (lv1 I m 11) (m + 1) 10)) 4 rfl ?_
  refine WP.callV (rest := [.int (nI (N (15 + s)))]) rfl rfl (ms_markOfHair_1 (d := d) (m := m + 1 + 1) (s := s) (lv1_t0 (lv1_t0 hM)) hN hs lv1_m (by omega) hz) ?_
  refine WP.run (pc' := 19) (L' := [.ref 271, .int (nI s), .int (nI (N (15 + s)))]) (st' := [.int ((nI (N (15 + s))) + (nI (s + (N (21 + s)))))]) (I1 := (lv1 (lv1 (lv1 (lv1 I m 11) (m + 1) 10) (m + 1 + 1) 21) (m + 1 + 1 + 1) 20)) 1 rfl ?_
  refine WP.cg (st' := [.int (nI ((N (15 + s)) + (s + (N (21 + s)))))]) rfl (congrArg (fun z : Int32 => (.int z :: [] : List Value)) (nI_add (N (15 + s)) (s + (N (21 + s))))) rfl ?_
  exact WP.ret rfl rfl (⟨rfl, rfl⟩)
set_option maxRecDepth 100000 in
theorem ms_markOfHair_2 {d : Nat} {I : Pl} {m s : Nat} {N : Nat → Nat} (hM : T0 I N) (hN : TI N) (hs : s < 6) (hm : I 271 19 = nI m) (h16 : m + 3 ≤ 16) (hz : N (9 + s) = 2) : Ev (d + 4) 197 [.ref 271, .int (nI s)] (mem I) (some (.int (nI (2 * (s + (N (21 + s))))))) (mem (lv1 (lv1 (lv1 I m 24) (m + 1) 21) (m + 1 + 1) 20)) := by
  obtain ⟨b0, b1, b2, b3, b4, b5, b6, b7, b8, bS, bC, bS1, bC1, bZ, bG⟩ := id hN
  obtain ⟨bs1, bs2, bs3⟩ := bS s (by omega)
  refine Ev.only (EvX.enter rfl rfl rfl ?_)
  refine WP.run (pc' := 8) (L' := [.ref 271, .int (nI s)]) (st' := [.int ((nI 9) + (nI s)), .ref 272]) (I1 := I) 5 rfl ?_
  refine WP.cg (st' := [.int (nI (9 + s)), .ref 272]) rfl (congrArg (fun z : Int32 => (.int z :: [.ref 272] : List Value)) (nI_add 9 s)) rfl ?_
  refine WP.iald rfl rfl rfl (by omega) (by decide) ?_
  refine WP.cg (st' := [.int (nI (N (9 + s)))]) rfl (congrArg (fun z : Int32 => (.int z :: [] : List Value)) (hM (9 + s) (by omega))) rfl ?_
  refine WP.run (pc' := if ¬ (nI (N (9 + s))) = (nI 2) then 27 else 13) (L' := [.ref 271, .int (nI s)]) (st' := []) (I1 := I) 2 rfl ?_
  refine WP.brF (by rw [hz]; decide) ?_
  refine WP.run (pc' := 16) (L' := [.ref 271, .int (nI s)]) (st' := [.int (nI 24), .ref 271]) (I1 := I) 2 rfl ?_
  refine WP.callV (rest := []) rfl rfl (ms_leaves (d := d + 2) (m := m) (x := 24) hm (by omega)) ?_
  refine WP.run (pc' := 22) (L' := [.ref 271, .int (nI s)]) (st' := [.int (nI s), .ref 271, .int (nI 2)]) (I1 := (lv1 I m 24)) 3 rfl ?_
  refine WP.callV (rest := [.int (nI 2)]) rfl rfl (ms_hairMark (d := d) (m := m + 1) (s := s) (lv1_t0 hM) hN hs lv1_m (by omega)) ?_
  refine WP.run (pc' := 26) (L' := [.ref 271, .int (nI s)]) (st' := [.int ((nI 2) * (nI (s + (N (21 + s)))))]) (I1 := (lv1 (lv1 (lv1 I m 24) (m + 1) 21) (m + 1 + 1) 20)) 1 rfl ?_
  refine WP.cg (st' := [.int (nI (2 * (s + (N (21 + s)))))]) rfl (congrArg (fun z : Int32 => (.int z :: [] : List Value)) (pk_mul 2 (s + (N (21 + s))))) rfl ?_
  exact WP.ret rfl rfl (⟨rfl, rfl⟩)
set_option maxRecDepth 100000 in
theorem ms_hairSize_2 {d : Nat} {I : Pl} {m s : Nat} {N : Nat → Nat} (hM : T0 I N) (hN : TI N) (hs : s < 6) (hm : I 271 19 = nI m) (h16 : m + 5 ≤ 16) (hz : N (9 + s) = 2) : Ev (d + 5) 198 [.ref 271, .int (nI s)] (mem I) (some (.int (nI ((N (15 + s)) + (2 * (s + (N (21 + s)))))))) (mem (lv1 (lv1 (lv1 (lv1 (lv1 I m 11) (m + 1) 10) (m + 1 + 1) 24) (m + 1 + 1 + 1) 21) (m + 1 + 1 + 1 + 1) 20)) := by
  obtain ⟨b0, b1, b2, b3, b4, b5, b6, b7, b8, bS, bC, bS1, bC1, bZ, bG⟩ := id hN
  obtain ⟨bs1, bs2, bs3⟩ := bS s (by omega)
  refine Ev.only (EvX.enter rfl rfl rfl ?_)
  refine WP.run (pc' := 3) (L' := [.ref 271, .int (nI s), UU]) (st' := [.int (nI 11), .ref 271]) (I1 := I) 2 rfl ?_
  refine WP.callV (rest := []) rfl rfl (ms_leaves (d := d + 3) (m := m) (x := 11) hm (by omega)) ?_
  refine WP.run (pc' := 8) (L' := [.ref 271, .int (nI s), UU]) (st' := [.int (nI s), .ref 271]) (I1 := (lv1 I m 11)) 2 rfl ?_
  refine WP.callV (rest := []) rfl rfl (ms_bareSize (d := d + 2) (m := m + 1) (s := s) (lv1_t0 hM) hN hs lv1_m (by omega)) ?_
  refine WP.run (pc' := 15) (L' := [.ref 271, .int (nI s), .int (nI (N (15 + s)))]) (st' := [.int (nI s), .ref 271, .int (nI (N (15 + s)))]) (I1 := (lv1 (lv1 I m 11) (m + 1) 10)) 4 rfl ?_
  refine WP.callV (rest := [.int (nI (N (15 + s)))]) rfl rfl (ms_markOfHair_2 (d := d) (m := m + 1 + 1) (s := s) (lv1_t0 (lv1_t0 hM)) hN hs lv1_m (by omega) hz) ?_
  refine WP.run (pc' := 19) (L' := [.ref 271, .int (nI s), .int (nI (N (15 + s)))]) (st' := [.int ((nI (N (15 + s))) + (nI (2 * (s + (N (21 + s))))))]) (I1 := (lv1 (lv1 (lv1 (lv1 (lv1 I m 11) (m + 1) 10) (m + 1 + 1) 24) (m + 1 + 1 + 1) 21) (m + 1 + 1 + 1 + 1) 20)) 1 rfl ?_
  refine WP.cg (st' := [.int (nI ((N (15 + s)) + (2 * (s + (N (21 + s))))))]) rfl (congrArg (fun z : Int32 => (.int z :: [] : List Value)) (nI_add (N (15 + s)) (2 * (s + (N (21 + s)))))) rfl ?_
  exact WP.ret rfl rfl (⟨rfl, rfl⟩)
set_option maxRecDepth 100000 in
theorem ms_markOfHair_3 {d : Nat} {I : Pl} {m s : Nat} {N : Nat → Nat} (hM : T0 I N) (hN : TI N) (hs : s < 6) (hm : I 271 19 = nI m) (h16 : m + 3 ≤ 16) (hz : N (9 + s) = 3) : Ev (d + 4) 197 [.ref 271, .int (nI s)] (mem I) (some (.int ((nI (s + (N (21 + s)))) - (nI 1000)))) (mem (lv1 (lv1 (lv1 I m 22) (m + 1) 21) (m + 1 + 1) 20)) := by
  obtain ⟨b0, b1, b2, b3, b4, b5, b6, b7, b8, bS, bC, bS1, bC1, bZ, bG⟩ := id hN
  obtain ⟨bs1, bs2, bs3⟩ := bS s (by omega)
  refine Ev.only (EvX.enter rfl rfl rfl ?_)
  refine WP.run (pc' := 8) (L' := [.ref 271, .int (nI s)]) (st' := [.int ((nI 9) + (nI s)), .ref 272]) (I1 := I) 5 rfl ?_
  refine WP.cg (st' := [.int (nI (9 + s)), .ref 272]) rfl (congrArg (fun z : Int32 => (.int z :: [.ref 272] : List Value)) (nI_add 9 s)) rfl ?_
  refine WP.iald rfl rfl rfl (by omega) (by decide) ?_
  refine WP.cg (st' := [.int (nI (N (9 + s)))]) rfl (congrArg (fun z : Int32 => (.int z :: [] : List Value)) (hM (9 + s) (by omega))) rfl ?_
  refine WP.run (pc' := if ¬ (nI (N (9 + s))) = (nI 2) then 27 else 13) (L' := [.ref 271, .int (nI s)]) (st' := []) (I1 := I) 2 rfl ?_
  refine WP.brT (by rw [hz]; decide) ?_
  refine WP.run (pc' := 35) (L' := [.ref 271, .int (nI s)]) (st' := [.int ((nI 9) + (nI s)), .ref 272]) (I1 := I) 5 rfl ?_
  refine WP.cg (st' := [.int (nI (9 + s)), .ref 272]) rfl (congrArg (fun z : Int32 => (.int z :: [.ref 272] : List Value)) (nI_add 9 s)) rfl ?_
  refine WP.iald rfl rfl rfl (by omega) (by decide) ?_
  refine WP.cg (st' := [.int (nI (N (9 + s)))]) rfl (congrArg (fun z : Int32 => (.int z :: [] : List Value)) (hM (9 + s) (by omega))) rfl ?_
  refine WP.run (pc' := if ¬ (nI (N (9 + s))) = (nI 3) then 56 else 40) (L' := [.ref 271, .int (nI s)]) (st' := []) (I1 := I) 2 rfl ?_
  refine WP.brF (by rw [hz]; decide) ?_
  refine WP.run (pc' := 43) (L' := [.ref 271, .int (nI s)]) (st' := [.int (nI 22), .ref 271]) (I1 := I) 2 rfl ?_
  refine WP.callV (rest := []) rfl rfl (ms_leaves (d := d + 2) (m := m) (x := 22) hm (by omega)) ?_
  refine WP.run (pc' := 48) (L' := [.ref 271, .int (nI s)]) (st' := [.int (nI s), .ref 271]) (I1 := (lv1 I m 22)) 2 rfl ?_
  refine WP.callV (rest := []) rfl rfl (ms_hairMark (d := d) (m := m + 1) (s := s) (lv1_t0 hM) hN hs lv1_m (by omega)) ?_
  refine WP.run (pc' := 55) (L' := [.ref 271, .int (nI s)]) (st' := [.int ((nI (s + (N (21 + s)))) - (nI 1000))]) (I1 := (lv1 (lv1 (lv1 I m 22) (m + 1) 21) (m + 1 + 1) 20)) 2 rfl ?_
  exact WP.ret rfl rfl (⟨rfl, rfl⟩)
set_option maxRecDepth 100000 in
theorem ms_hairSize_3 {d : Nat} {I : Pl} {m s : Nat} {N : Nat → Nat} (hM : T0 I N) (hN : TI N) (hs : s < 6) (hm : I 271 19 = nI m) (h16 : m + 5 ≤ 16) (hz : N (9 + s) = 3) : Ev (d + 5) 198 [.ref 271, .int (nI s)] (mem I) (some (.int ((nI (N (15 + s))) + ((nI (s + (N (21 + s)))) - (nI 1000))))) (mem (lv1 (lv1 (lv1 (lv1 (lv1 I m 11) (m + 1) 10) (m + 1 + 1) 22) (m + 1 + 1 + 1) 21) (m + 1 + 1 + 1 + 1) 20)) := by
  obtain ⟨b0, b1, b2, b3, b4, b5, b6, b7, b8, bS, bC, bS1, bC1, bZ, bG⟩ := id hN
  obtain ⟨bs1, bs2, bs3⟩ := bS s (by omega)
  refine Ev.only (EvX.enter rfl rfl rfl ?_)
  refine WP.run (pc' := 3) (L' := [.ref 271, .int (nI s), UU]) (st' := [.int (nI 11), .ref 271]) (I1 := I) 2 rfl ?_
  refine WP.callV (rest := []) rfl rfl (ms_leaves (d := d + 3) (m := m) (x := 11) hm (by omega)) ?_
  refine WP.run (pc' := 8) (L' := [.ref 271, .int (nI s), UU]) (st' := [.int (nI s), .ref 271]) (I1 := (lv1 I m 11)) 2 rfl ?_
  refine WP.callV (rest := []) rfl rfl (ms_bareSize (d := d + 2) (m := m + 1) (s := s) (lv1_t0 hM) hN hs lv1_m (by omega)) ?_
  refine WP.run (pc' := 15) (L' := [.ref 271, .int (nI s), .int (nI (N (15 + s)))]) (st' := [.int (nI s), .ref 271, .int (nI (N (15 + s)))]) (I1 := (lv1 (lv1 I m 11) (m + 1) 10)) 4 rfl ?_
  refine WP.callV (rest := [.int (nI (N (15 + s)))]) rfl rfl (ms_markOfHair_3 (d := d) (m := m + 1 + 1) (s := s) (lv1_t0 (lv1_t0 hM)) hN hs lv1_m (by omega) hz) ?_
  refine WP.run (pc' := 19) (L' := [.ref 271, .int (nI s), .int (nI (N (15 + s)))]) (st' := [.int ((nI (N (15 + s))) + ((nI (s + (N (21 + s)))) - (nI 1000)))]) (I1 := (lv1 (lv1 (lv1 (lv1 (lv1 I m 11) (m + 1) 10) (m + 1 + 1) 22) (m + 1 + 1 + 1) 21) (m + 1 + 1 + 1 + 1) 20)) 1 rfl ?_
  exact WP.ret rfl rfl (⟨rfl, rfl⟩)
set_option maxRecDepth 100000 in
theorem ms_ropeSize {d : Nat} {I : Pl} {m s : Nat} {N : Nat → Nat} (hM : T0 I N) (hN : TI N) (hs : s < 6) (hm : I 271 19 = nI m) (h16 : m + 2 ≤ 16) : Ev (d + 3) 199 [.ref 271, .int (nI s)] (mem I) (some (.int ((nI (N (15 + s))) - (nI 100)))) (mem (lv1 (lv1 I m 13) (m + 1) 10)) := by
  obtain ⟨b0, b1, b2, b3, b4, b5, b6, b7, b8, bS, bC, bS1, bC1, bZ, bG⟩ := id hN
  obtain ⟨bs1, bs2, bs3⟩ := bS s (by omega)
  refine Ev.only (EvX.enter rfl rfl rfl ?_)
  refine WP.run (pc' := 3) (L' := [.ref 271, .int (nI s)]) (st' := [.int (nI 13), .ref 271]) (I1 := I) 2 rfl ?_
  refine WP.callV (rest := []) rfl rfl (ms_leaves (d := d + 1) (m := m) (x := 13) hm (by omega)) ?_
  refine WP.run (pc' := 8) (L' := [.ref 271, .int (nI s)]) (st' := [.int (nI s), .ref 271]) (I1 := (lv1 I m 13)) 2 rfl ?_
  refine WP.callV (rest := []) rfl rfl (ms_bareSize (d := d) (m := m + 1) (s := s) (lv1_t0 hM) hN hs lv1_m (by omega)) ?_
  refine WP.run (pc' := 14) (L' := [.ref 271, .int (nI s)]) (st' := [.int ((nI (N (15 + s))) - (nI 100))]) (I1 := (lv1 (lv1 I m 13) (m + 1) 10)) 2 rfl ?_
  exact WP.ret rfl rfl (⟨rfl, rfl⟩)
set_option maxRecDepth 100000 in
theorem ms_sizeOf_1 {d : Nat} {I : Pl} {m s : Nat} {N : Nat → Nat} (hM : T0 I N) (hN : TI N) (hs : s < 6) (hm : I 271 19 = nI m) (h16 : m + 6 ≤ 16) (hz : N (9 + s) = 1) : Ev (d + 6) 200 [.ref 271, .int (nI s)] (mem I) (some (.int (nI ((N (15 + s)) + (s + (N (21 + s))))))) (mem (lv1 (lv1 (lv1 (lv1 I m 11) (m + 1) 10) (m + 1 + 1) 21) (m + 1 + 1 + 1) 20)) := by
  obtain ⟨b0, b1, b2, b3, b4, b5, b6, b7, b8, bS, bC, bS1, bC1, bZ, bG⟩ := id hN
  obtain ⟨bs1, bs2, bs3⟩ := bS s (by omega)
  refine Ev.only (EvX.enter rfl rfl rfl ?_)
  refine WP.run (pc' := 8) (L' := [.ref 271, .int (nI s)]) (st' := [.int ((nI 9) + (nI s)), .ref 272]) (I1 := I) 5 rfl ?_
  refine WP.cg (st' := [.int (nI (9 + s)), .ref 272]) rfl (congrArg (fun z : Int32 => (.int z :: [.ref 272] : List Value)) (nI_add 9 s)) rfl ?_
  refine WP.iald rfl rfl rfl (by omega) (by decide) ?_
  refine WP.cg (st' := [.int (nI (N (9 + s)))]) rfl (congrArg (fun z : Int32 => (.int z :: [] : List Value)) (hM (9 + s) (by omega))) rfl ?_
  refine WP.cg (st' := [.int (nI 1)]) rfl (congrArg (fun z : Nat => (.int (nI z) :: [] : List Value)) hz) rfl ?_
  refine WP.run (pc' := 73) (L' := [.ref 271, .int (nI s)]) (st' := []) (I1 := I) 1 rfl ?_
  refine WP.run (pc' := 75) (L' := [.ref 271, .int (nI s)]) (st' := [.int (nI s), .ref 271]) (I1 := I) 2 rfl ?_
  refine WP.callV (rest := []) rfl rfl (ms_hairSize_1 (d := d) (m := m) (s := s) hM hN hs hm (by omega) hz) ?_
  exact WP.ret rfl rfl (⟨rfl, rfl⟩)
set_option maxRecDepth 100000 in
theorem ms_sizeOf_2 {d : Nat} {I : Pl} {m s : Nat} {N : Nat → Nat} (hM : T0 I N) (hN : TI N) (hs : s < 6) (hm : I 271 19 = nI m) (h16 : m + 6 ≤ 16) (hz : N (9 + s) = 2) : Ev (d + 6) 200 [.ref 271, .int (nI s)] (mem I) (some (.int (-(nI ((N (15 + s)) + (2 * (s + (N (21 + s))))))))) (mem (lv1 (lv1 (lv1 (lv1 (lv1 (lv1 I m 12) (m + 1) 11) (m + 1 + 1) 10) (m + 1 + 1 + 1) 24) (m + 1 + 1 + 1 + 1) 21) (m + 1 + 1 + 1 + 1 + 1) 20)) := by
  obtain ⟨b0, b1, b2, b3, b4, b5, b6, b7, b8, bS, bC, bS1, bC1, bZ, bG⟩ := id hN
  obtain ⟨bs1, bs2, bs3⟩ := bS s (by omega)
  refine Ev.only (EvX.enter rfl rfl rfl ?_)
  refine WP.run (pc' := 8) (L' := [.ref 271, .int (nI s)]) (st' := [.int ((nI 9) + (nI s)), .ref 272]) (I1 := I) 5 rfl ?_
  refine WP.cg (st' := [.int (nI (9 + s)), .ref 272]) rfl (congrArg (fun z : Int32 => (.int z :: [.ref 272] : List Value)) (nI_add 9 s)) rfl ?_
  refine WP.iald rfl rfl rfl (by omega) (by decide) ?_
  refine WP.cg (st' := [.int (nI (N (9 + s)))]) rfl (congrArg (fun z : Int32 => (.int z :: [] : List Value)) (hM (9 + s) (by omega))) rfl ?_
  refine WP.cg (st' := [.int (nI 2)]) rfl (congrArg (fun z : Nat => (.int (nI z) :: [] : List Value)) hz) rfl ?_
  refine WP.run (pc' := 40) (L' := [.ref 271, .int (nI s)]) (st' := []) (I1 := I) 1 rfl ?_
  refine WP.run (pc' := 43) (L' := [.ref 271, .int (nI s)]) (st' := [.int (nI 12), .ref 271]) (I1 := I) 2 rfl ?_
  refine WP.callV (rest := []) rfl rfl (ms_leaves (d := d + 4) (m := m) (x := 12) hm (by omega)) ?_
  refine WP.run (pc' := 48) (L' := [.ref 271, .int (nI s)]) (st' := [.int (nI s), .ref 271]) (I1 := (lv1 I m 12)) 2 rfl ?_
  refine WP.callV (rest := []) rfl rfl (ms_hairSize_2 (d := d) (m := m + 1) (s := s) (lv1_t0 hM) hN hs lv1_m (by omega) hz) ?_
  refine WP.run (pc' := 52) (L' := [.ref 271, .int (nI s)]) (st' := [.int (-(nI ((N (15 + s)) + (2 * (s + (N (21 + s)))))))]) (I1 := (lv1 (lv1 (lv1 (lv1 (lv1 (lv1 I m 12) (m + 1) 11) (m + 1 + 1) 10) (m + 1 + 1 + 1) 24) (m + 1 + 1 + 1 + 1) 21) (m + 1 + 1 + 1 + 1 + 1) 20)) 1 rfl ?_
  exact WP.ret rfl rfl (⟨rfl, rfl⟩)
set_option maxRecDepth 100000 in
theorem ms_sizeOf_3 {d : Nat} {I : Pl} {m s : Nat} {N : Nat → Nat} (hM : T0 I N) (hN : TI N) (hs : s < 6) (hm : I 271 19 = nI m) (h16 : m + 6 ≤ 16) (hz : N (9 + s) = 3) : Ev (d + 6) 200 [.ref 271, .int (nI s)] (mem I) (some (.int ((nI (N (15 + s))) + ((nI (s + (N (21 + s)))) - (nI 1000))))) (mem (lv1 (lv1 (lv1 (lv1 (lv1 I m 11) (m + 1) 10) (m + 1 + 1) 22) (m + 1 + 1 + 1) 21) (m + 1 + 1 + 1 + 1) 20)) := by
  obtain ⟨b0, b1, b2, b3, b4, b5, b6, b7, b8, bS, bC, bS1, bC1, bZ, bG⟩ := id hN
  obtain ⟨bs1, bs2, bs3⟩ := bS s (by omega)
  refine Ev.only (EvX.enter rfl rfl rfl ?_)
  refine WP.run (pc' := 8) (L' := [.ref 271, .int (nI s)]) (st' := [.int ((nI 9) + (nI s)), .ref 272]) (I1 := I) 5 rfl ?_
  refine WP.cg (st' := [.int (nI (9 + s)), .ref 272]) rfl (congrArg (fun z : Int32 => (.int z :: [.ref 272] : List Value)) (nI_add 9 s)) rfl ?_
  refine WP.iald rfl rfl rfl (by omega) (by decide) ?_
  refine WP.cg (st' := [.int (nI (N (9 + s)))]) rfl (congrArg (fun z : Int32 => (.int z :: [] : List Value)) (hM (9 + s) (by omega))) rfl ?_
  refine WP.cg (st' := [.int (nI 3)]) rfl (congrArg (fun z : Nat => (.int (nI z) :: [] : List Value)) hz) rfl ?_
  refine WP.run (pc' := 73) (L' := [.ref 271, .int (nI s)]) (st' := []) (I1 := I) 1 rfl ?_
  refine WP.run (pc' := 75) (L' := [.ref 271, .int (nI s)]) (st' := [.int (nI s), .ref 271]) (I1 := I) 2 rfl ?_
  refine WP.callV (rest := []) rfl rfl (ms_hairSize_3 (d := d) (m := m) (s := s) hM hN hs hm (by omega) hz) ?_
  exact WP.ret rfl rfl (⟨rfl, rfl⟩)
set_option maxRecDepth 100000 in
theorem ms_sizeOf_4 {d : Nat} {I : Pl} {m s : Nat} {N : Nat → Nat} (hM : T0 I N) (hN : TI N) (hs : s < 6) (hm : I 271 19 = nI m) (h16 : m + 6 ≤ 16) (hz : N (9 + s) = 4) : Ev (d + 6) 200 [.ref 271, .int (nI s)] (mem I) (some (.int ((nI (N (15 + s))) - (nI 100)))) (mem (lv1 (lv1 I m 13) (m + 1) 10)) := by
  obtain ⟨b0, b1, b2, b3, b4, b5, b6, b7, b8, bS, bC, bS1, bC1, bZ, bG⟩ := id hN
  obtain ⟨bs1, bs2, bs3⟩ := bS s (by omega)
  refine Ev.only (EvX.enter rfl rfl rfl ?_)
  refine WP.run (pc' := 8) (L' := [.ref 271, .int (nI s)]) (st' := [.int ((nI 9) + (nI s)), .ref 272]) (I1 := I) 5 rfl ?_
  refine WP.cg (st' := [.int (nI (9 + s)), .ref 272]) rfl (congrArg (fun z : Int32 => (.int z :: [.ref 272] : List Value)) (nI_add 9 s)) rfl ?_
  refine WP.iald rfl rfl rfl (by omega) (by decide) ?_
  refine WP.cg (st' := [.int (nI (N (9 + s)))]) rfl (congrArg (fun z : Int32 => (.int z :: [] : List Value)) (hM (9 + s) (by omega))) rfl ?_
  refine WP.cg (st' := [.int (nI 4)]) rfl (congrArg (fun z : Nat => (.int (nI z) :: [] : List Value)) hz) rfl ?_
  refine WP.run (pc' := 53) (L' := [.ref 271, .int (nI s)]) (st' := []) (I1 := I) 1 rfl ?_
  refine WP.run (pc' := 55) (L' := [.ref 271, .int (nI s)]) (st' := [.int (nI s), .ref 271]) (I1 := I) 2 rfl ?_
  refine WP.callV (rest := []) rfl rfl (ms_ropeSize (d := d + 2) (m := m) (s := s) hM hN hs hm (by omega)) ?_
  exact WP.ret rfl rfl (⟨rfl, rfl⟩)
set_option maxRecDepth 100000 in
theorem ms_sizeOf_5 {d : Nat} {I : Pl} {m s : Nat} {N : Nat → Nat} (hM : T0 I N) (hN : TI N) (hs : s < 6) (hm : I 271 19 = nI m) (h16 : m + 6 ≤ 16) (hz : N (9 + s) = 5) : Ev (d + 6) 200 [.ref 271, .int (nI s)] (mem I) (some (.int ((nI 2) * ((nI (N (15 + s))) - (nI 100))))) (mem (lv1 (lv1 (lv1 I m 14) (m + 1) 13) (m + 1 + 1) 10)) := by
  obtain ⟨b0, b1, b2, b3, b4, b5, b6, b7, b8, bS, bC, bS1, bC1, bZ, bG⟩ := id hN
  obtain ⟨bs1, bs2, bs3⟩ := bS s (by omega)
  refine Ev.only (EvX.enter rfl rfl rfl ?_)
  refine WP.run (pc' := 8) (L' := [.ref 271, .int (nI s)]) (st' := [.int ((nI 9) + (nI s)), .ref 272]) (I1 := I) 5 rfl ?_
  refine WP.cg (st' := [.int (nI (9 + s)), .ref 272]) rfl (congrArg (fun z : Int32 => (.int z :: [.ref 272] : List Value)) (nI_add 9 s)) rfl ?_
  refine WP.iald rfl rfl rfl (by omega) (by decide) ?_
  refine WP.cg (st' := [.int (nI (N (9 + s)))]) rfl (congrArg (fun z : Int32 => (.int z :: [] : List Value)) (hM (9 + s) (by omega))) rfl ?_
  refine WP.cg (st' := [.int (nI 5)]) rfl (congrArg (fun z : Nat => (.int (nI z) :: [] : List Value)) hz) rfl ?_
  refine WP.run (pc' := 59) (L' := [.ref 271, .int (nI s)]) (st' := []) (I1 := I) 1 rfl ?_
  refine WP.run (pc' := 62) (L' := [.ref 271, .int (nI s)]) (st' := [.int (nI 14), .ref 271]) (I1 := I) 2 rfl ?_
  refine WP.callV (rest := []) rfl rfl (ms_leaves (d := d + 4) (m := m) (x := 14) hm (by omega)) ?_
  refine WP.run (pc' := 68) (L' := [.ref 271, .int (nI s)]) (st' := [.int (nI s), .ref 271, .int (nI 2)]) (I1 := (lv1 I m 14)) 3 rfl ?_
  refine WP.callV (rest := [.int (nI 2)]) rfl rfl (ms_ropeSize (d := d + 2) (m := m + 1) (s := s) (lv1_t0 hM) hN hs lv1_m (by omega)) ?_
  refine WP.run (pc' := 72) (L' := [.ref 271, .int (nI s)]) (st' := [.int ((nI 2) * ((nI (N (15 + s))) - (nI 100)))]) (I1 := (lv1 (lv1 (lv1 I m 14) (m + 1) 13) (m + 1 + 1) 10)) 1 rfl ?_
  exact WP.ret rfl rfl (⟨rfl, rfl⟩)
set_option maxRecDepth 100000 in
theorem ms_markOf_1 {d : Nat} {I : Pl} {m s : Nat} {N : Nat → Nat} (hM : T0 I N) (hN : TI N) (hs : s < 6) (hm : I 271 19 = nI m) (h16 : m + 8 ≤ 16) (hz : N (9 + s) = 1) : Ev (d + 7) 201 [.ref 271, .int (nI s)] (mem I) (some (.int (nI (s + (N (21 + s)))))) (mem (lv1 (lv1 I m 21) (m + 1) 20)) := by
  obtain ⟨b0, b1, b2, b3, b4, b5, b6, b7, b8, bS, bC, bS1, bC1, bZ, bG⟩ := id hN
  obtain ⟨bs1, bs2, bs3⟩ := bS s (by omega)
  refine Ev.only (EvX.enter rfl rfl rfl ?_)
  refine WP.run (pc' := 8) (L' := [.ref 271, .int (nI s), UU]) (st' := [.int ((nI 9) + (nI s)), .ref 272]) (I1 := I) 5 rfl ?_
  refine WP.cg (st' := [.int (nI (9 + s)), .ref 272]) rfl (congrArg (fun z : Int32 => (.int z :: [.ref 272] : List Value)) (nI_add 9 s)) rfl ?_
  refine WP.iald rfl rfl rfl (by omega) (by decide) ?_
  refine WP.cg (st' := [.int (nI (N (9 + s)))]) rfl (congrArg (fun z : Int32 => (.int z :: [] : List Value)) (hM (9 + s) (by omega))) rfl ?_
  refine WP.run (pc' := if (nI 4) ≤ (nI (N (9 + s))) then 19 else 13) (L' := [.ref 271, .int (nI s), UU]) (st' := []) (I1 := I) 2 rfl ?_
  refine WP.brF (by rw [hz]; decide) ?_
  refine WP.run (pc' := 15) (L' := [.ref 271, .int (nI s), UU]) (st' := [.int (nI s), .ref 271]) (I1 := I) 2 rfl ?_
  refine WP.callV (rest := []) rfl rfl (ms_markOfHair_1 (d := d + 2) (m := m) (s := s) hM hN hs hm (by omega) hz) ?_
  exact WP.ret rfl rfl (⟨rfl, rfl⟩)
set_option maxRecDepth 100000 in
theorem ms_markOf_2 {d : Nat} {I : Pl} {m s : Nat} {N : Nat → Nat} (hM : T0 I N) (hN : TI N) (hs : s < 6) (hm : I 271 19 = nI m) (h16 : m + 8 ≤ 16) (hz : N (9 + s) = 2) : Ev (d + 7) 201 [.ref 271, .int (nI s)] (mem I) (some (.int (nI (2 * (s + (N (21 + s))))))) (mem (lv1 (lv1 (lv1 I m 24) (m + 1) 21) (m + 1 + 1) 20)) := by
  obtain ⟨b0, b1, b2, b3, b4, b5, b6, b7, b8, bS, bC, bS1, bC1, bZ, bG⟩ := id hN
  obtain ⟨bs1, bs2, bs3⟩ := bS s (by omega)
  refine Ev.only (EvX.enter rfl rfl rfl ?_)
  refine WP.run (pc' := 8) (L' := [.ref 271, .int (nI s), UU]) (st' := [.int ((nI 9) + (nI s)), .ref 272]) (I1 := I) 5 rfl ?_
  refine WP.cg (st' := [.int (nI (9 + s)), .ref 272]) rfl (congrArg (fun z : Int32 => (.int z :: [.ref 272] : List Value)) (nI_add 9 s)) rfl ?_
  refine WP.iald rfl rfl rfl (by omega) (by decide) ?_
  refine WP.cg (st' := [.int (nI (N (9 + s)))]) rfl (congrArg (fun z : Int32 => (.int z :: [] : List Value)) (hM (9 + s) (by omega))) rfl ?_
  refine WP.run (pc' := if (nI 4) ≤ (nI (N (9 + s))) then 19 else 13) (L' := [.ref 271, .int (nI s), UU]) (st' := []) (I1 := I) 2 rfl ?_
  refine WP.brF (by rw [hz]; decide) ?_
  refine WP.run (pc' := 15) (L' := [.ref 271, .int (nI s), UU]) (st' := [.int (nI s), .ref 271]) (I1 := I) 2 rfl ?_
  refine WP.callV (rest := []) rfl rfl (ms_markOfHair_2 (d := d + 2) (m := m) (s := s) hM hN hs hm (by omega) hz) ?_
  exact WP.ret rfl rfl (⟨rfl, rfl⟩)
set_option maxRecDepth 100000 in
theorem ms_markOf_3 {d : Nat} {I : Pl} {m s : Nat} {N : Nat → Nat} (hM : T0 I N) (hN : TI N) (hs : s < 6) (hm : I 271 19 = nI m) (h16 : m + 8 ≤ 16) (hz : N (9 + s) = 3) : Ev (d + 7) 201 [.ref 271, .int (nI s)] (mem I) (some (.int ((nI (s + (N (21 + s)))) - (nI 1000)))) (mem (lv1 (lv1 (lv1 I m 22) (m + 1) 21) (m + 1 + 1) 20)) := by
  obtain ⟨b0, b1, b2, b3, b4, b5, b6, b7, b8, bS, bC, bS1, bC1, bZ, bG⟩ := id hN
  obtain ⟨bs1, bs2, bs3⟩ := bS s (by omega)
  refine Ev.only (EvX.enter rfl rfl rfl ?_)
  refine WP.run (pc' := 8) (L' := [.ref 271, .int (nI s), UU]) (st' := [.int ((nI 9) + (nI s)), .ref 272]) (I1 := I) 5 rfl ?_
  refine WP.cg (st' := [.int (nI (9 + s)), .ref 272]) rfl (congrArg (fun z : Int32 => (.int z :: [.ref 272] : List Value)) (nI_add 9 s)) rfl ?_
  refine WP.iald rfl rfl rfl (by omega) (by decide) ?_
  refine WP.cg (st' := [.int (nI (N (9 + s)))]) rfl (congrArg (fun z : Int32 => (.int z :: [] : List Value)) (hM (9 + s) (by omega))) rfl ?_
  refine WP.run (pc' := if (nI 4) ≤ (nI (N (9 + s))) then 19 else 13) (L' := [.ref 271, .int (nI s), UU]) (st' := []) (I1 := I) 2 rfl ?_
  refine WP.brF (by rw [hz]; decide) ?_
  refine WP.run (pc' := 15) (L' := [.ref 271, .int (nI s), UU]) (st' := [.int (nI s), .ref 271]) (I1 := I) 2 rfl ?_
  refine WP.callV (rest := []) rfl rfl (ms_markOfHair_3 (d := d + 2) (m := m) (s := s) hM hN hs hm (by omega) hz) ?_
  exact WP.ret rfl rfl (⟨rfl, rfl⟩)
set_option maxRecDepth 100000 in
theorem ms_markOf_4 {d : Nat} {I : Pl} {m s : Nat} {N : Nat → Nat} (hM : T0 I N) (hN : TI N) (hs : s < 6) (hm : I 271 19 = nI m) (h16 : m + 8 ≤ 16) (hz : N (9 + s) = 4) : Ev (d + 7) 201 [.ref 271, .int (nI s)] (mem I) (some (.int ((nI s) - ((nI (N (15 + s))) - (nI 100))))) (mem (lv1 (lv1 (lv1 (lv1 I m 23) (m + 1) 20) (m + 1 + 1) 13) (m + 1 + 1 + 1) 10)) := by
  obtain ⟨b0, b1, b2, b3, b4, b5, b6, b7, b8, bS, bC, bS1, bC1, bZ, bG⟩ := id hN
  obtain ⟨bs1, bs2, bs3⟩ := bS s (by omega)
  refine Ev.only (EvX.enter rfl rfl rfl ?_)
  refine WP.run (pc' := 8) (L' := [.ref 271, .int (nI s), UU]) (st' := [.int ((nI 9) + (nI s)), .ref 272]) (I1 := I) 5 rfl ?_
  refine WP.cg (st' := [.int (nI (9 + s)), .ref 272]) rfl (congrArg (fun z : Int32 => (.int z :: [.ref 272] : List Value)) (nI_add 9 s)) rfl ?_
  refine WP.iald rfl rfl rfl (by omega) (by decide) ?_
  refine WP.cg (st' := [.int (nI (N (9 + s)))]) rfl (congrArg (fun z : Int32 => (.int z :: [] : List Value)) (hM (9 + s) (by omega))) rfl ?_
  refine WP.run (pc' := if (nI 4) ≤ (nI (N (9 + s))) then 19 else 13) (L' := [.ref 271, .int (nI s), UU]) (st' := []) (I1 := I) 2 rfl ?_
  refine WP.brT (by rw [hz]; decide) ?_
  refine WP.run (pc' := 22) (L' := [.ref 271, .int (nI s), UU]) (st' := [.int (nI 23), .ref 271]) (I1 := I) 2 rfl ?_
  refine WP.callV (rest := []) rfl rfl (ms_leaves (d := d + 5) (m := m) (x := 23) hm (by omega)) ?_
  refine WP.run (pc' := 27) (L' := [.ref 271, .int (nI s), UU]) (st' := [.int (nI s), .ref 271]) (I1 := (lv1 I m 23)) 2 rfl ?_
  refine WP.callV (rest := []) rfl rfl (ms_bareMark (d := d + 4) (m := m + 1) (s := s) (lv1_t0 hM) hN hs lv1_m (by omega)) ?_
  refine WP.run (pc' := 34) (L' := [.ref 271, .int (nI s), .int (nI s)]) (st' := [.int (nI s), .ref 271, .int (nI s)]) (I1 := (lv1 (lv1 I m 23) (m + 1) 20)) 4 rfl ?_
  refine WP.callV (rest := [.int (nI s)]) rfl rfl (ms_sizeOf_4 (d := d) (m := m + 1 + 1) (s := s) (lv1_t0 (lv1_t0 hM)) hN hs lv1_m (by omega) hz) ?_
  refine WP.run (pc' := 38) (L' := [.ref 271, .int (nI s), .int (nI s)]) (st' := [.int ((nI s) - ((nI (N (15 + s))) - (nI 100)))]) (I1 := (lv1 (lv1 (lv1 (lv1 I m 23) (m + 1) 20) (m + 1 + 1) 13) (m + 1 + 1 + 1) 10)) 1 rfl ?_
  exact WP.ret rfl rfl (⟨rfl, rfl⟩)
set_option maxRecDepth 100000 in
theorem ms_markOf_5 {d : Nat} {I : Pl} {m s : Nat} {N : Nat → Nat} (hM : T0 I N) (hN : TI N) (hs : s < 6) (hm : I 271 19 = nI m) (h16 : m + 8 ≤ 16) (hz : N (9 + s) = 5) : Ev (d + 7) 201 [.ref 271, .int (nI s)] (mem I) (some (.int ((nI s) - ((nI 2) * ((nI (N (15 + s))) - (nI 100)))))) (mem (lv1 (lv1 (lv1 (lv1 (lv1 I m 23) (m + 1) 20) (m + 1 + 1) 14) (m + 1 + 1 + 1) 13) (m + 1 + 1 + 1 + 1) 10)) := by
  obtain ⟨b0, b1, b2, b3, b4, b5, b6, b7, b8, bS, bC, bS1, bC1, bZ, bG⟩ := id hN
  obtain ⟨bs1, bs2, bs3⟩ := bS s (by omega)
  refine Ev.only (EvX.enter rfl rfl rfl ?_)
  refine WP.run (pc' := 8) (L' := [.ref 271, .int (nI s), UU]) (st' := [.int ((nI 9) + (nI s)), .ref 272]) (I1 := I) 5 rfl ?_
  refine WP.cg (st' := [.int (nI (9 + s)), .ref 272]) rfl (congrArg (fun z : Int32 => (.int z :: [.ref 272] : List Value)) (nI_add 9 s)) rfl ?_
  refine WP.iald rfl rfl rfl (by omega) (by decide) ?_
  refine WP.cg (st' := [.int (nI (N (9 + s)))]) rfl (congrArg (fun z : Int32 => (.int z :: [] : List Value)) (hM (9 + s) (by omega))) rfl ?_
  refine WP.run (pc' := if (nI 4) ≤ (nI (N (9 + s))) then 19 else 13) (L' := [.ref 271, .int (nI s), UU]) (st' := []) (I1 := I) 2 rfl ?_
  refine WP.brT (by rw [hz]; decide) ?_
  refine WP.run (pc' := 22) (L' := [.ref 271, .int (nI s), UU]) (st' := [.int (nI 23), .ref 271]) (I1 := I) 2 rfl ?_
  refine WP.callV (rest := []) rfl rfl (ms_leaves (d := d + 5) (m := m) (x := 23) hm (by omega)) ?_
  refine WP.run (pc' := 27) (L' := [.ref 271, .int (nI s), UU]) (st' := [.int (nI s), .ref 271]) (I1 := (lv1 I m 23)) 2 rfl ?_
  refine WP.callV (rest := []) rfl rfl (ms_bareMark (d := d + 4) (m := m + 1) (s := s) (lv1_t0 hM) hN hs lv1_m (by omega)) ?_
  refine WP.run (pc' := 34) (L' := [.ref 271, .int (nI s), .int (nI s)]) (st' := [.int (nI s), .ref 271, .int (nI s)]) (I1 := (lv1 (lv1 I m 23) (m + 1) 20)) 4 rfl ?_
  refine WP.callV (rest := [.int (nI s)]) rfl rfl (ms_sizeOf_5 (d := d) (m := m + 1 + 1) (s := s) (lv1_t0 (lv1_t0 hM)) hN hs lv1_m (by omega) hz) ?_
  refine WP.run (pc' := 38) (L' := [.ref 271, .int (nI s), .int (nI s)]) (st' := [.int ((nI s) - ((nI 2) * ((nI (N (15 + s))) - (nI 100))))]) (I1 := (lv1 (lv1 (lv1 (lv1 (lv1 I m 23) (m + 1) 20) (m + 1 + 1) 14) (m + 1 + 1 + 1) 13) (m + 1 + 1 + 1 + 1) 10)) 1 rfl ?_
  exact WP.ret rfl rfl (⟨rfl, rfl⟩)
def askA (N : Nat → Nat) (s w : Nat) : Int32 := if w = 0 then (if N (9 + s) = 1 then (nI ((N (15 + s)) + (s + (N (21 + s))))) else if N (9 + s) = 2 then (-(nI ((N (15 + s)) + (2 * (s + (N (21 + s))))))) else if N (9 + s) = 3 then ((nI (N (15 + s))) + ((nI (s + (N (21 + s)))) - (nI 1000))) else if N (9 + s) = 4 then ((nI (N (15 + s))) - (nI 100)) else ((nI 2) * ((nI (N (15 + s))) - (nI 100)))) else (if N (9 + s) = 1 then (nI (s + (N (21 + s)))) else if N (9 + s) = 2 then (nI (2 * (s + (N (21 + s))))) else if N (9 + s) = 3 then ((nI (s + (N (21 + s)))) - (nI 1000)) else if N (9 + s) = 4 then ((nI s) - ((nI (N (15 + s))) - (nI 100))) else ((nI s) - ((nI 2) * ((nI (N (15 + s))) - (nI 100)))))
def askB (N : Nat → Nat) (s w : Nat) : List Nat := if w = 0 then (if N (9 + s) = 1 then [11, 10, 21, 20] else if N (9 + s) = 2 then [12, 11, 10, 24, 21, 20] else if N (9 + s) = 3 then [11, 10, 22, 21, 20] else if N (9 + s) = 4 then [13, 10] else [14, 13, 10]) else (if N (9 + s) = 1 then [21, 20] else if N (9 + s) = 2 then [24, 21, 20] else if N (9 + s) = 3 then [22, 21, 20] else if N (9 + s) = 4 then [23, 20, 13, 10] else [23, 20, 14, 13, 10])
def aAsk (N : Nat → Nat) (x w : Int32) : Int32 := if inA x (N 2) then (if inA w 2 then askA N (nOf x) (nOf w) else -1000001) else -1000001
def tAsk (N : Nat → Nat) (l : List Nat) (x w : Int32) : List Nat := if inA x (N 2) then (if inA w 2 then askB N (nOf x) (nOf w) else l) else l
def TrC (I : Pl) (l : List Nat) : Prop := l.length ≤ 16 ∧ I 245 1 = nI l.length ∧ ∀ i, i < l.length → I 246 i = nI (l.getD i 0)
def TrM (I : Pl) (l : List Nat) : Prop := l.length ≤ 16 ∧ I 271 19 = nI l.length ∧ ∀ i, i < l.length → I 282 i = nI (l.getD i 0)
def tcP (o _k : Nat) : Prop := o = 245 ∨ o = 246
def tmP (o k : Nat) : Prop := (o = 271 ∧ k = 19) ∨ o = 282
theorem TrC.nil {I : Pl} : TrC (upN I 245 1 (nI 0)) [] := ⟨Nat.zero_le _, upN_s, fun i hi => absurd hi (Nat.not_lt_zero _)⟩
theorem TrM.nil {I : Pl} : TrM (upN I 271 19 (nI 0)) [] := ⟨Nat.zero_le _, upN_s, fun i hi => absurd hi (Nat.not_lt_zero _)⟩
theorem getD_last {l : List Nat} {x : Nat} : (l ++ [x]).getD l.length 0 = x := by
  rw [List.getD_eq_getElem?_getD, List.getElem?_append_right (Nat.le_refl _), Nat.sub_self]
  rfl
theorem getD_old {l : List Nat} {x i : Nat} (h : i < l.length) : (l ++ [x]).getD i 0 = l.getD i 0 := by
  rw [List.getD_eq_getElem?_getD, List.getElem?_append_left h, List.getD_eq_getElem?_getD]
theorem TrC.bg {I : Pl} {l : List Nat} {x : Nat} (h : TrC I l) (hl : l.length < 16) : TrC (bg1 I l.length x) (l ++ [x]) := by
  obtain ⟨h1, h2, h3⟩ := h
  refine ⟨by rw [List.length_append]; exact hl, by rw [List.length_append]; exact upN_s, fun i hi => ?_⟩
  rw [List.length_append] at hi
  have hi : i < l.length + 1 := hi
  unfold bg1
  rw [upN_no (by decide)]
  by_cases q : i = l.length
  · subst q
    rw [upN_s, getD_last]
  · rw [upN_nk q, h3 i (by omega), getD_old (by omega)]
theorem TrM.lv {I : Pl} {l : List Nat} {x : Nat} (h : TrM I l) (hl : l.length < 16) : TrM (lv1 I l.length x) (l ++ [x]) := by
  obtain ⟨h1, h2, h3⟩ := h
  refine ⟨by rw [List.length_append]; exact hl, by rw [List.length_append]; exact upN_s, fun i hi => ?_⟩
  rw [List.length_append] at hi
  have hi : i < l.length + 1 := hi
  unfold lv1
  rw [upN_no (by decide)]
  by_cases q : i = l.length
  · subst q
    rw [upN_s, getD_last]
  · rw [upN_nk q, h3 i (by omega), getD_old (by omega)]
theorem bg1_only {I J : Pl} {m x : Nat} (h : Only I J tcP) : Only I (bg1 J m x) tcP := (h.up (Or.inr rfl)).up (Or.inl rfl)
theorem lv1_only {I J : Pl} {m x : Nat} (h : Only I J tmP) : Only I (lv1 J m x) tmP := (h.up (Or.inr rfl)).up (Or.inl ⟨rfl, rfl⟩)
set_option maxRecDepth 100000 in
theorem sp_clearTrace {d : Nat} {I : Pl}  : Ev (d + 1) 7 [.ref 245] (mem I) (none) (mem (upN I 245 1 (nI 0))) := by
  refine Ev.only (EvX.enter rfl rfl rfl ?_)
  refine WP.run (pc' := 5) (L' := [.ref 245]) (st' := []) (I1 := (upN I 245 1 (nI 0))) 3 rfl ?_
  exact WP.ret rfl rfl (⟨rfl, rfl⟩)
set_option maxRecDepth 100000 in
theorem cs_ask {d : Nat} {I : Pl} {l : List Nat} {x w : Int32} {N : Nat → Nat} (hT : Tw I 247 N) (hN : TI N) (hL : TrC I l) : EvX (d + 8) 119 [.ref 0, .int x, .int w] I (fun v K => v = some (.int (aAsk N x w)) ∧ TrC K (tAsk N l x w) ∧ Only I K tcP) := by
  obtain ⟨b0, b1, b2, b3, b4, b5, b6, b7, b8, bS, bC, bS1, bC1, bZ, bG⟩ := id hN
  obtain ⟨s6, s7, s64⟩ := hN.set64
  refine EvX.enter rfl rfl rfl ?_
  refine WP.run (pc' := 5) (L' := [.ref 0, .int x, .int w]) (st' := [.int x, .ref 247]) (I1 := I) 3 rfl ?_
  refine WP.callB (rest := []) rfl rfl (sp_isStrand (d := d + 6) (x := x) hT hN) (fun h1 => ?_) (fun h1 => ?_)
  · refine WP.run (pc' := 11) (L' := [.ref 0, .int x, .int w]) (st' := []) (I1 := I) 1 rfl ?_
    have hx_s : inA x (N 2) := (by assumption)
    obtain ⟨s, hs, rfl⟩ := inA_of hx_s (by omega)
    refine WP.run (pc' := if w < 0 then 20 else 15) (L' := [.ref 0, .int (nI s), .int w]) (st' := []) (I1 := I) 2 rfl ?_
    refine WP.br (fun h2 => ?_) (fun h2 => ?_)
    · have h2 : w.toInt < 0 := (iLtZ).mp h2
      refine WP.run (pc' := 22) (L' := [.ref 0, .int (nI s), .int w]) (st' := [.int (-1000001)]) (I1 := I) 1 rfl ?_
      exact WP.ret rfl rfl (by
              have e : aAsk N (nI s) w = (-1000001) := by (unfold aAsk; (repeat first | rw [if_pos (by first | assumption | omega | (refine inA_iff.mpr ?_; omega) | (intro q; have q2 := inA_iff.mp q; omega) | (intro q; omega) | (refine ⟨?_, ?_⟩ <;> rw [nI_int (by omega)] <;> omega) | (rw [nI_int (by omega)]; omega) | (intro q; rw [nI_int (by omega)] at q; omega) | (refine ⟨?_, ?_, ?_⟩ <;> omega) | (intro q; obtain ⟨q1, q2, q3⟩ := q; omega) | fail)] | rw [if_neg (by first | assumption | omega | (refine inA_iff.mpr ?_; omega) | (intro q; have q2 := inA_iff.mp q; omega) | (intro q; omega) | (refine ⟨?_, ?_⟩ <;> rw [nI_int (by omega)] <;> omega) | (rw [nI_int (by omega)]; omega) | (intro q; rw [nI_int (by omega)] at q; omega) | (refine ⟨?_, ?_, ?_⟩ <;> omega) | (intro q; obtain ⟨q1, q2, q3⟩ := q; omega) | fail)])) <;> rfl
              have e2 : tAsk N l (nI s) w = l := by (unfold tAsk; (repeat first | rw [if_pos (by first | assumption | omega | (refine inA_iff.mpr ?_; omega) | (intro q; have q2 := inA_iff.mp q; omega) | (intro q; omega) | (refine ⟨?_, ?_⟩ <;> rw [nI_int (by omega)] <;> omega) | (rw [nI_int (by omega)]; omega) | (intro q; rw [nI_int (by omega)] at q; omega) | (refine ⟨?_, ?_, ?_⟩ <;> omega) | (intro q; obtain ⟨q1, q2, q3⟩ := q; omega) | fail)] | rw [if_neg (by first | assumption | omega | (refine inA_iff.mpr ?_; omega) | (intro q; have q2 := inA_iff.mp q; omega) | (intro q; omega) | (refine ⟨?_, ?_⟩ <;> rw [nI_int (by omega)] <;> omega) | (rw [nI_int (by omega)]; omega) | (intro q; rw [nI_int (by omega)] at q; omega) | (refine ⟨?_, ?_, ?_⟩ <;> omega) | (intro q; obtain ⟨q1, q2, q3⟩ := q; omega) | fail)])) <;> rfl
              rw [e, e2]
              exact ⟨rfl, hL, Only.rfl_⟩)
    · have h2 : ¬ (w.toInt < 0) := fun q => h2 ((iLtZ).mpr q)
      refine WP.run (pc' := if w ≤ (nI 1) then 23 else 20) (L' := [.ref 0, .int (nI s), .int w]) (st' := []) (I1 := I) 3 rfl ?_
      refine WP.br (fun h3 => ?_) (fun h3 => ?_)
      · have h3 : w.toInt ≤ 1 := (iLeL (n := 1) (by omega)).mp h3
        have hx_r : inA w 2 := (by refine inA_iff.mpr ?_; omega)
        obtain ⟨r, hr, rfl⟩ := inA_of hx_r (by omega)
        rw [nI_int (by omega)] at *
        refine WP.run (pc' := 27) (L' := [.ref 0, .int (nI s), .int (nI r)]) (st' := [.ref 245]) (I1 := I) 2 rfl ?_
        refine WP.callV (rest := []) rfl rfl (sp_clearTrace (d := d + 6)) ?_
        obtain ⟨bs1, bs2, bs3⟩ := bS s (by omega)
        obtain ⟨bt1, bt2⟩ := bS1 s (by omega)
        have hs : s < 6 := by omega
        have hz5 : N (9 + s) = 1 ∨ N (9 + s) = 2 ∨ N (9 + s) = 3 ∨ N (9 + s) = 4 ∨ N (9 + s) = 5 := by omega
        rcases hz5 with hz | hz | hz | hz | hz
        · refine WP.run (pc' := if ¬ (nI r) = 0 then 49 else 34) (L' := [.ref 0, .int (nI s), .int (nI r)]) (st' := []) (I1 := (upN I 245 1 (nI 0))) 2 rfl ?_
          refine WP.br (fun h4 => ?_) (fun h4 => ?_)
          · have h4 : ¬ r = 0 := fun q => h4 (nI_eq_r q)
            refine WP.run (pc' := 58) (L' := [.ref 0, .int (nI s), .int (nI r)]) (st' := [.int (nI s), .ref 247, .ref 245]) (I1 := (upN I 245 1 (nI 0))) 5 rfl ?_
            refine WP.callV (rest := []) rfl rfl (sp_mark_1 (d := d + 1) (m := 0) (s := s) (Tw.cg hT (fun o k h1 h2 => upN_no (by omega))) hN hs upN_s (by omega) hz) ?_
            exact WP.ret rfl rfl (by
                          have e : aAsk N (nI s) (nI r) = (nI (s + (N (21 + s)))) := by (unfold aAsk askA; (repeat rw [nOf_nI (by omega)]); (repeat first | rw [if_pos (by first | assumption | omega | (refine inA_iff.mpr ?_; omega) | (intro q; have q2 := inA_iff.mp q; omega) | (intro q; omega) | (refine ⟨?_, ?_⟩ <;> rw [nI_int (by omega)] <;> omega) | (rw [nI_int (by omega)]; omega) | (intro q; rw [nI_int (by omega)] at q; omega) | (refine ⟨?_, ?_, ?_⟩ <;> omega) | (intro q; obtain ⟨q1, q2, q3⟩ := q; omega) | fail)] | rw [if_neg (by first | assumption | omega | (refine inA_iff.mpr ?_; omega) | (intro q; have q2 := inA_iff.mp q; omega) | (intro q; omega) | (refine ⟨?_, ?_⟩ <;> rw [nI_int (by omega)] <;> omega) | (rw [nI_int (by omega)]; omega) | (intro q; rw [nI_int (by omega)] at q; omega) | (refine ⟨?_, ?_, ?_⟩ <;> omega) | (intro q; obtain ⟨q1, q2, q3⟩ := q; omega) | fail)])) <;> rfl
                          have e2 : tAsk N l (nI s) (nI r) = [21, 20] := by (unfold tAsk askB; (repeat rw [nOf_nI (by omega)]); (repeat first | rw [if_pos (by first | assumption | omega | (refine inA_iff.mpr ?_; omega) | (intro q; have q2 := inA_iff.mp q; omega) | (intro q; omega) | (refine ⟨?_, ?_⟩ <;> rw [nI_int (by omega)] <;> omega) | (rw [nI_int (by omega)]; omega) | (intro q; rw [nI_int (by omega)] at q; omega) | (refine ⟨?_, ?_, ?_⟩ <;> omega) | (intro q; obtain ⟨q1, q2, q3⟩ := q; omega) | fail)] | rw [if_neg (by first | assumption | omega | (refine inA_iff.mpr ?_; omega) | (intro q; have q2 := inA_iff.mp q; omega) | (intro q; omega) | (refine ⟨?_, ?_⟩ <;> rw [nI_int (by omega)] <;> omega) | (rw [nI_int (by omega)]; omega) | (intro q; rw [nI_int (by omega)] at q; omega) | (refine ⟨?_, ?_, ?_⟩ <;> omega) | (intro q; obtain ⟨q1, q2, q3⟩ := q; omega) | fail)])) <;> rfl
                          rw [e, e2]
                          exact ⟨rfl, (TrC.bg (TrC.bg TrC.nil (by decide)) (by decide)), (bg1_only (bg1_only (Only.up Only.rfl_ (Or.inl rfl))))⟩)
          · have h4 : r = 0 := nI_eq_ (by omega) (by omega) (Decidable.byContradiction h4)
            refine WP.run (pc' := 43) (L' := [.ref 0, .int (nI s), .int (nI r)]) (st' := [.int (nI s), .ref 247, .ref 245]) (I1 := (upN I 245 1 (nI 0))) 5 rfl ?_
            refine WP.callV (rest := []) rfl rfl (sp_size_1 (d := d) (m := 0) (s := s) (Tw.cg hT (fun o k h1 h2 => upN_no (by omega))) hN hs upN_s (by omega) hz) ?_
            refine WP.run (pc' := 61) (L' := [.ref 0, .int (nI s), .int (nI r)]) (st' := [.int (nI ((N (15 + s)) + (s + (N (21 + s)))))]) (I1 := (bg1 (bg1 (bg1 (bg1 (upN I 245 1 (nI 0)) 0 11) (0 + 1) 10) (0 + 1 + 1) 21) (0 + 1 + 1 + 1) 20)) 1 rfl ?_
            exact WP.ret rfl rfl (by
                          have e : aAsk N (nI s) (nI r) = (nI ((N (15 + s)) + (s + (N (21 + s))))) := by (unfold aAsk askA; (repeat rw [nOf_nI (by omega)]); (repeat first | rw [if_pos (by first | assumption | omega | (refine inA_iff.mpr ?_; omega) | (intro q; have q2 := inA_iff.mp q; omega) | (intro q; omega) | (refine ⟨?_, ?_⟩ <;> rw [nI_int (by omega)] <;> omega) | (rw [nI_int (by omega)]; omega) | (intro q; rw [nI_int (by omega)] at q; omega) | (refine ⟨?_, ?_, ?_⟩ <;> omega) | (intro q; obtain ⟨q1, q2, q3⟩ := q; omega) | fail)] | rw [if_neg (by first | assumption | omega | (refine inA_iff.mpr ?_; omega) | (intro q; have q2 := inA_iff.mp q; omega) | (intro q; omega) | (refine ⟨?_, ?_⟩ <;> rw [nI_int (by omega)] <;> omega) | (rw [nI_int (by omega)]; omega) | (intro q; rw [nI_int (by omega)] at q; omega) | (refine ⟨?_, ?_, ?_⟩ <;> omega) | (intro q; obtain ⟨q1, q2, q3⟩ := q; omega) | fail)])) <;> rfl
                          have e2 : tAsk N l (nI s) (nI r) = [11, 10, 21, 20] := by (unfold tAsk askB; (repeat rw [nOf_nI (by omega)]); (repeat first | rw [if_pos (by first | assumption | omega | (refine inA_iff.mpr ?_; omega) | (intro q; have q2 := inA_iff.mp q; omega) | (intro q; omega) | (refine ⟨?_, ?_⟩ <;> rw [nI_int (by omega)] <;> omega) | (rw [nI_int (by omega)]; omega) | (intro q; rw [nI_int (by omega)] at q; omega) | (refine ⟨?_, ?_, ?_⟩ <;> omega) | (intro q; obtain ⟨q1, q2, q3⟩ := q; omega) | fail)] | rw [if_neg (by first | assumption | omega | (refine inA_iff.mpr ?_; omega) | (intro q; have q2 := inA_iff.mp q; omega) | (intro q; omega) | (refine ⟨?_, ?_⟩ <;> rw [nI_int (by omega)] <;> omega) | (rw [nI_int (by omega)]; omega) | (intro q; rw [nI_int (by omega)] at q; omega) | (refine ⟨?_, ?_, ?_⟩ <;> omega) | (intro q; obtain ⟨q1, q2, q3⟩ := q; omega) | fail)])) <;> rfl
                          rw [e, e2]
                          exact ⟨rfl, (TrC.bg (TrC.bg (TrC.bg (TrC.bg TrC.nil (by decide)) (by decide)) (by decide)) (by decide)), (bg1_only (bg1_only (bg1_only (bg1_only (Only.up Only.rfl_ (Or.inl rfl))))))⟩)
        · refine WP.run (pc' := if ¬ (nI r) = 0 then 49 else 34) (L' := [.ref 0, .int (nI s), .int (nI r)]) (st' := []) (I1 := (upN I 245 1 (nI 0))) 2 rfl ?_
          refine WP.br (fun h5 => ?_) (fun h5 => ?_)
          · have h5 : ¬ r = 0 := fun q => h5 (nI_eq_r q)
            refine WP.run (pc' := 58) (L' := [.ref 0, .int (nI s), .int (nI r)]) (st' := [.int (nI s), .ref 247, .ref 245]) (I1 := (upN I 245 1 (nI 0))) 5 rfl ?_
            refine WP.callV (rest := []) rfl rfl (sp_mark_2 (d := d + 1) (m := 0) (s := s) (Tw.cg hT (fun o k h1 h2 => upN_no (by omega))) hN hs upN_s (by omega) hz) ?_
            exact WP.ret rfl rfl (by
                          have e : aAsk N (nI s) (nI r) = (nI (2 * (s + (N (21 + s))))) := by (unfold aAsk askA; (repeat rw [nOf_nI (by omega)]); (repeat first | rw [if_pos (by first | assumption | omega | (refine inA_iff.mpr ?_; omega) | (intro q; have q2 := inA_iff.mp q; omega) | (intro q; omega) | (refine ⟨?_, ?_⟩ <;> rw [nI_int (by omega)] <;> omega) | (rw [nI_int (by omega)]; omega) | (intro q; rw [nI_int (by omega)] at q; omega) | (refine ⟨?_, ?_, ?_⟩ <;> omega) | (intro q; obtain ⟨q1, q2, q3⟩ := q; omega) | fail)] | rw [if_neg (by first | assumption | omega | (refine inA_iff.mpr ?_; omega) | (intro q; have q2 := inA_iff.mp q; omega) | (intro q; omega) | (refine ⟨?_, ?_⟩ <;> rw [nI_int (by omega)] <;> omega) | (rw [nI_int (by omega)]; omega) | (intro q; rw [nI_int (by omega)] at q; omega) | (refine ⟨?_, ?_, ?_⟩ <;> omega) | (intro q; obtain ⟨q1, q2, q3⟩ := q; omega) | fail)])) <;> rfl
                          have e2 : tAsk N l (nI s) (nI r) = [24, 21, 20] := by (unfold tAsk askB; (repeat rw [nOf_nI (by omega)]); (repeat first | rw [if_pos (by first | assumption | omega | (refine inA_iff.mpr ?_; omega) | (intro q; have q2 := inA_iff.mp q; omega) | (intro q; omega) | (refine ⟨?_, ?_⟩ <;> rw [nI_int (by omega)] <;> omega) | (rw [nI_int (by omega)]; omega) | (intro q; rw [nI_int (by omega)] at q; omega) | (refine ⟨?_, ?_, ?_⟩ <;> omega) | (intro q; obtain ⟨q1, q2, q3⟩ := q; omega) | fail)] | rw [if_neg (by first | assumption | omega | (refine inA_iff.mpr ?_; omega) | (intro q; have q2 := inA_iff.mp q; omega) | (intro q; omega) | (refine ⟨?_, ?_⟩ <;> rw [nI_int (by omega)] <;> omega) | (rw [nI_int (by omega)]; omega) | (intro q; rw [nI_int (by omega)] at q; omega) | (refine ⟨?_, ?_, ?_⟩ <;> omega) | (intro q; obtain ⟨q1, q2, q3⟩ := q; omega) | fail)])) <;> rfl
                          rw [e, e2]
                          exact ⟨rfl, (TrC.bg (TrC.bg (TrC.bg TrC.nil (by decide)) (by decide)) (by decide)), (bg1_only (bg1_only (bg1_only (Only.up Only.rfl_ (Or.inl rfl)))))⟩)
          · have h5 : r = 0 := nI_eq_ (by omega) (by omega) (Decidable.byContradiction h5)
            refine WP.run (pc' := 43) (L' := [.ref 0, .int (nI s), .int (nI r)]) (st' := [.int (nI s), .ref 247, .ref 245]) (I1 := (upN I 245 1 (nI 0))) 5 rfl ?_
            refine WP.callV (rest := []) rfl rfl (sp_size_2 (d := d) (m := 0) (s := s) (Tw.cg hT (fun o k h1 h2 => upN_no (by omega))) hN hs upN_s (by omega) hz) ?_
            refine WP.run (pc' := 61) (L' := [.ref 0, .int (nI s), .int (nI r)]) (st' := [.int (-(nI ((N (15 + s)) + (2 * (s + (N (21 + s)))))))]) (I1 := (bg1 (bg1 (bg1 (bg1 (bg1 (bg1 (upN I 245 1 (nI 0)) 0 12) (0 + 1) 11) (0 + 1 + 1) 10) (0 + 1 + 1 + 1) 24) (0 + 1 + 1 + 1 + 1) 21) (0 + 1 + 1 + 1 + 1 + 1) 20)) 1 rfl ?_
            exact WP.ret rfl rfl (by
                          have e : aAsk N (nI s) (nI r) = (-(nI ((N (15 + s)) + (2 * (s + (N (21 + s))))))) := by (unfold aAsk askA; (repeat rw [nOf_nI (by omega)]); (repeat first | rw [if_pos (by first | assumption | omega | (refine inA_iff.mpr ?_; omega) | (intro q; have q2 := inA_iff.mp q; omega) | (intro q; omega) | (refine ⟨?_, ?_⟩ <;> rw [nI_int (by omega)] <;> omega) | (rw [nI_int (by omega)]; omega) | (intro q; rw [nI_int (by omega)] at q; omega) | (refine ⟨?_, ?_, ?_⟩ <;> omega) | (intro q; obtain ⟨q1, q2, q3⟩ := q; omega) | fail)] | rw [if_neg (by first | assumption | omega | (refine inA_iff.mpr ?_; omega) | (intro q; have q2 := inA_iff.mp q; omega) | (intro q; omega) | (refine ⟨?_, ?_⟩ <;> rw [nI_int (by omega)] <;> omega) | (rw [nI_int (by omega)]; omega) | (intro q; rw [nI_int (by omega)] at q; omega) | (refine ⟨?_, ?_, ?_⟩ <;> omega) | (intro q; obtain ⟨q1, q2, q3⟩ := q; omega) | fail)])) <;> rfl
                          have e2 : tAsk N l (nI s) (nI r) = [12, 11, 10, 24, 21, 20] := by (unfold tAsk askB; (repeat rw [nOf_nI (by omega)]); (repeat first | rw [if_pos (by first | assumption | omega | (refine inA_iff.mpr ?_; omega) | (intro q; have q2 := inA_iff.mp q; omega) | (intro q; omega) | (refine ⟨?_, ?_⟩ <;> rw [nI_int (by omega)] <;> omega) | (rw [nI_int (by omega)]; omega) | (intro q; rw [nI_int (by omega)] at q; omega) | (refine ⟨?_, ?_, ?_⟩ <;> omega) | (intro q; obtain ⟨q1, q2, q3⟩ := q; omega) | fail)] | rw [if_neg (by first | assumption | omega | (refine inA_iff.mpr ?_; omega) | (intro q; have q2 := inA_iff.mp q; omega) | (intro q; omega) | (refine ⟨?_, ?_⟩ <;> rw [nI_int (by omega)] <;> omega) | (rw [nI_int (by omega)]; omega) | (intro q; rw [nI_int (by omega)] at q; omega) | (refine ⟨?_, ?_, ?_⟩ <;> omega) | (intro q; obtain ⟨q1, q2, q3⟩ := q; omega) | fail)])) <;> rfl
                          rw [e, e2]
                          exact ⟨rfl, (TrC.bg (TrC.bg (TrC.bg (TrC.bg (TrC.bg (TrC.bg TrC.nil (by decide)) (by decide)) (by decide)) (by decide)) (by decide)) (by decide)), (bg1_only (bg1_only (bg1_only (bg1_only (bg1_only (bg1_only (Only.up Only.rfl_ (Or.inl rfl))))))))⟩)
        · refine WP.run (pc' := if ¬ (nI r) = 0 then 49 else 34) (L' := [.ref 0, .int (nI s), .int (nI r)]) (st' := []) (I1 := (upN I 245 1 (nI 0))) 2 rfl ?_
          refine WP.br (fun h6 => ?_) (fun h6 => ?_)
          · have h6 : ¬ r = 0 := fun q => h6 (nI_eq_r q)
            refine WP.run (pc' := 58) (L' := [.ref 0, .int (nI s), .int (nI r)]) (st' := [.int (nI s), .ref 247, .ref 245]) (I1 := (upN I 245 1 (nI 0))) 5 rfl ?_
            refine WP.callV (rest := []) rfl rfl (sp_mark_3 (d := d + 1) (m := 0) (s := s) (Tw.cg hT (fun o k h1 h2 => upN_no (by omega))) hN hs upN_s (by omega) hz) ?_
            exact WP.ret rfl rfl (by
                          have e : aAsk N (nI s) (nI r) = ((nI (s + (N (21 + s)))) - (nI 1000)) := by (unfold aAsk askA; (repeat rw [nOf_nI (by omega)]); (repeat first | rw [if_pos (by first | assumption | omega | (refine inA_iff.mpr ?_; omega) | (intro q; have q2 := inA_iff.mp q; omega) | (intro q; omega) | (refine ⟨?_, ?_⟩ <;> rw [nI_int (by omega)] <;> omega) | (rw [nI_int (by omega)]; omega) | (intro q; rw [nI_int (by omega)] at q; omega) | (refine ⟨?_, ?_, ?_⟩ <;> omega) | (intro q; obtain ⟨q1, q2, q3⟩ := q; omega) | fail)] | rw [if_neg (by first | assumption | omega | (refine inA_iff.mpr ?_; omega) | (intro q; have q2 := inA_iff.mp q; omega) | (intro q; omega) | (refine ⟨?_, ?_⟩ <;> rw [nI_int (by omega)] <;> omega) | (rw [nI_int (by omega)]; omega) | (intro q; rw [nI_int (by omega)] at q; omega) | (refine ⟨?_, ?_, ?_⟩ <;> omega) | (intro q; obtain ⟨q1, q2, q3⟩ := q; omega) | fail)])) <;> rfl
                          have e2 : tAsk N l (nI s) (nI r) = [22, 21, 20] := by (unfold tAsk askB; (repeat rw [nOf_nI (by omega)]); (repeat first | rw [if_pos (by first | assumption | omega | (refine inA_iff.mpr ?_; omega) | (intro q; have q2 := inA_iff.mp q; omega) | (intro q; omega) | (refine ⟨?_, ?_⟩ <;> rw [nI_int (by omega)] <;> omega) | (rw [nI_int (by omega)]; omega) | (intro q; rw [nI_int (by omega)] at q; omega) | (refine ⟨?_, ?_, ?_⟩ <;> omega) | (intro q; obtain ⟨q1, q2, q3⟩ := q; omega) | fail)] | rw [if_neg (by first | assumption | omega | (refine inA_iff.mpr ?_; omega) | (intro q; have q2 := inA_iff.mp q; omega) | (intro q; omega) | (refine ⟨?_, ?_⟩ <;> rw [nI_int (by omega)] <;> omega) | (rw [nI_int (by omega)]; omega) | (intro q; rw [nI_int (by omega)] at q; omega) | (refine ⟨?_, ?_, ?_⟩ <;> omega) | (intro q; obtain ⟨q1, q2, q3⟩ := q; omega) | fail)])) <;> rfl
                          rw [e, e2]
                          exact ⟨rfl, (TrC.bg (TrC.bg (TrC.bg TrC.nil (by decide)) (by decide)) (by decide)), (bg1_only (bg1_only (bg1_only (Only.up Only.rfl_ (Or.inl rfl)))))⟩)
          · have h6 : r = 0 := nI_eq_ (by omega) (by omega) (Decidable.byContradiction h6)
            refine WP.run (pc' := 43) (L' := [.ref 0, .int (nI s), .int (nI r)]) (st' := [.int (nI s), .ref 247, .ref 245]) (I1 := (upN I 245 1 (nI 0))) 5 rfl ?_
            refine WP.callV (rest := []) rfl rfl (sp_size_3 (d := d) (m := 0) (s := s) (Tw.cg hT (fun o k h1 h2 => upN_no (by omega))) hN hs upN_s (by omega) hz) ?_
            refine WP.run (pc' := 61) (L' := [.ref 0, .int (nI s), .int (nI r)]) (st' := [.int ((nI (N (15 + s))) + ((nI (s + (N (21 + s)))) - (nI 1000)))]) (I1 := (bg1 (bg1 (bg1 (bg1 (bg1 (upN I 245 1 (nI 0)) 0 11) (0 + 1) 10) (0 + 1 + 1) 22) (0 + 1 + 1 + 1) 21) (0 + 1 + 1 + 1 + 1) 20)) 1 rfl ?_
            exact WP.ret rfl rfl (by
                          have e : aAsk N (nI s) (nI r) = ((nI (N (15 + s))) + ((nI (s + (N (21 + s)))) - (nI 1000))) := by (unfold aAsk askA; (repeat rw [nOf_nI (by omega)]); (repeat first | rw [if_pos (by first | assumption | omega | (refine inA_iff.mpr ?_; omega) | (intro q; have q2 := inA_iff.mp q; omega) | (intro q; omega) | (refine ⟨?_, ?_⟩ <;> rw [nI_int (by omega)] <;> omega) | (rw [nI_int (by omega)]; omega) | (intro q; rw [nI_int (by omega)] at q; omega) | (refine ⟨?_, ?_, ?_⟩ <;> omega) | (intro q; obtain ⟨q1, q2, q3⟩ := q; omega) | fail)] | rw [if_neg (by first | assumption | omega | (refine inA_iff.mpr ?_; omega) | (intro q; have q2 := inA_iff.mp q; omega) | (intro q; omega) | (refine ⟨?_, ?_⟩ <;> rw [nI_int (by omega)] <;> omega) | (rw [nI_int (by omega)]; omega) | (intro q; rw [nI_int (by omega)] at q; omega) | (refine ⟨?_, ?_, ?_⟩ <;> omega) | (intro q; obtain ⟨q1, q2, q3⟩ := q; omega) | fail)])) <;> rfl
                          have e2 : tAsk N l (nI s) (nI r) = [11, 10, 22, 21, 20] := by (unfold tAsk askB; (repeat rw [nOf_nI (by omega)]); (repeat first | rw [if_pos (by first | assumption | omega | (refine inA_iff.mpr ?_; omega) | (intro q; have q2 := inA_iff.mp q; omega) | (intro q; omega) | (refine ⟨?_, ?_⟩ <;> rw [nI_int (by omega)] <;> omega) | (rw [nI_int (by omega)]; omega) | (intro q; rw [nI_int (by omega)] at q; omega) | (refine ⟨?_, ?_, ?_⟩ <;> omega) | (intro q; obtain ⟨q1, q2, q3⟩ := q; omega) | fail)] | rw [if_neg (by first | assumption | omega | (refine inA_iff.mpr ?_; omega) | (intro q; have q2 := inA_iff.mp q; omega) | (intro q; omega) | (refine ⟨?_, ?_⟩ <;> rw [nI_int (by omega)] <;> omega) | (rw [nI_int (by omega)]; omega) | (intro q; rw [nI_int (by omega)] at q; omega) | (refine ⟨?_, ?_, ?_⟩ <;> omega) | (intro q; obtain ⟨q1, q2, q3⟩ := q; omega) | fail)])) <;> rfl
                          rw [e, e2]
                          exact ⟨rfl, (TrC.bg (TrC.bg (TrC.bg (TrC.bg (TrC.bg TrC.nil (by decide)) (by decide)) (by decide)) (by decide)) (by decide)), (bg1_only (bg1_only (bg1_only (bg1_only (bg1_only (Only.up Only.rfl_ (Or.inl rfl)))))))⟩)
        · refine WP.run (pc' := if ¬ (nI r) = 0 then 49 else 34) (L' := [.ref 0, .int (nI s), .int (nI r)]) (st' := []) (I1 := (upN I 245 1 (nI 0))) 2 rfl ?_
          refine WP.br (fun h7 => ?_) (fun h7 => ?_)
          · have h7 : ¬ r = 0 := fun q => h7 (nI_eq_r q)
            refine WP.run (pc' := 58) (L' := [.ref 0, .int (nI s), .int (nI r)]) (st' := [.int (nI s), .ref 247, .ref 245]) (I1 := (upN I 245 1 (nI 0))) 5 rfl ?_
            refine WP.callV (rest := []) rfl rfl (sp_mark_4 (d := d + 1) (m := 0) (s := s) (Tw.cg hT (fun o k h1 h2 => upN_no (by omega))) hN hs upN_s (by omega) hz) ?_
            exact WP.ret rfl rfl (by
                          have e : aAsk N (nI s) (nI r) = ((nI s) - ((nI (N (15 + s))) - (nI 100))) := by (unfold aAsk askA; (repeat rw [nOf_nI (by omega)]); (repeat first | rw [if_pos (by first | assumption | omega | (refine inA_iff.mpr ?_; omega) | (intro q; have q2 := inA_iff.mp q; omega) | (intro q; omega) | (refine ⟨?_, ?_⟩ <;> rw [nI_int (by omega)] <;> omega) | (rw [nI_int (by omega)]; omega) | (intro q; rw [nI_int (by omega)] at q; omega) | (refine ⟨?_, ?_, ?_⟩ <;> omega) | (intro q; obtain ⟨q1, q2, q3⟩ := q; omega) | fail)] | rw [if_neg (by first | assumption | omega | (refine inA_iff.mpr ?_; omega) | (intro q; have q2 := inA_iff.mp q; omega) | (intro q; omega) | (refine ⟨?_, ?_⟩ <;> rw [nI_int (by omega)] <;> omega) | (rw [nI_int (by omega)]; omega) | (intro q; rw [nI_int (by omega)] at q; omega) | (refine ⟨?_, ?_, ?_⟩ <;> omega) | (intro q; obtain ⟨q1, q2, q3⟩ := q; omega) | fail)])) <;> rfl
                          have e2 : tAsk N l (nI s) (nI r) = [23, 20, 13, 10] := by (unfold tAsk askB; (repeat rw [nOf_nI (by omega)]); (repeat first | rw [if_pos (by first | assumption | omega | (refine inA_iff.mpr ?_; omega) | (intro q; have q2 := inA_iff.mp q; omega) | (intro q; omega) | (refine ⟨?_, ?_⟩ <;> rw [nI_int (by omega)] <;> omega) | (rw [nI_int (by omega)]; omega) | (intro q; rw [nI_int (by omega)] at q; omega) | (refine ⟨?_, ?_, ?_⟩ <;> omega) | (intro q; obtain ⟨q1, q2, q3⟩ := q; omega) | fail)] | rw [if_neg (by first | assumption | omega | (refine inA_iff.mpr ?_; omega) | (intro q; have q2 := inA_iff.mp q; omega) | (intro q; omega) | (refine ⟨?_, ?_⟩ <;> rw [nI_int (by omega)] <;> omega) | (rw [nI_int (by omega)]; omega) | (intro q; rw [nI_int (by omega)] at q; omega) | (refine ⟨?_, ?_, ?_⟩ <;> omega) | (intro q; obtain ⟨q1, q2, q3⟩ := q; omega) | fail)])) <;> rfl
                          rw [e, e2]
                          exact ⟨rfl, (TrC.bg (TrC.bg (TrC.bg (TrC.bg TrC.nil (by decide)) (by decide)) (by decide)) (by decide)), (bg1_only (bg1_only (bg1_only (bg1_only (Only.up Only.rfl_ (Or.inl rfl))))))⟩)
          · have h7 : r = 0 := nI_eq_ (by omega) (by omega) (Decidable.byContradiction h7)
            refine WP.run (pc' := 43) (L' := [.ref 0, .int (nI s), .int (nI r)]) (st' := [.int (nI s), .ref 247, .ref 245]) (I1 := (upN I 245 1 (nI 0))) 5 rfl ?_
            refine WP.callV (rest := []) rfl rfl (sp_size_4 (d := d) (m := 0) (s := s) (Tw.cg hT (fun o k h1 h2 => upN_no (by omega))) hN hs upN_s (by omega) hz) ?_
            refine WP.run (pc' := 61) (L' := [.ref 0, .int (nI s), .int (nI r)]) (st' := [.int ((nI (N (15 + s))) - (nI 100))]) (I1 := (bg1 (bg1 (upN I 245 1 (nI 0)) 0 13) (0 + 1) 10)) 1 rfl ?_
            exact WP.ret rfl rfl (by
                          have e : aAsk N (nI s) (nI r) = ((nI (N (15 + s))) - (nI 100)) := by (unfold aAsk askA; (repeat rw [nOf_nI (by omega)]); (repeat first | rw [if_pos (by first | assumption | omega | (refine inA_iff.mpr ?_; omega) | (intro q; have q2 := inA_iff.mp q; omega) | (intro q; omega) | (refine ⟨?_, ?_⟩ <;> rw [nI_int (by omega)] <;> omega) | (rw [nI_int (by omega)]; omega) | (intro q; rw [nI_int (by omega)] at q; omega) | (refine ⟨?_, ?_, ?_⟩ <;> omega) | (intro q; obtain ⟨q1, q2, q3⟩ := q; omega) | fail)] | rw [if_neg (by first | assumption | omega | (refine inA_iff.mpr ?_; omega) | (intro q; have q2 := inA_iff.mp q; omega) | (intro q; omega) | (refine ⟨?_, ?_⟩ <;> rw [nI_int (by omega)] <;> omega) | (rw [nI_int (by omega)]; omega) | (intro q; rw [nI_int (by omega)] at q; omega) | (refine ⟨?_, ?_, ?_⟩ <;> omega) | (intro q; obtain ⟨q1, q2, q3⟩ := q; omega) | fail)])) <;> rfl
                          have e2 : tAsk N l (nI s) (nI r) = [13, 10] := by (unfold tAsk askB; (repeat rw [nOf_nI (by omega)]); (repeat first | rw [if_pos (by first | assumption | omega | (refine inA_iff.mpr ?_; omega) | (intro q; have q2 := inA_iff.mp q; omega) | (intro q; omega) | (refine ⟨?_, ?_⟩ <;> rw [nI_int (by omega)] <;> omega) | (rw [nI_int (by omega)]; omega) | (intro q; rw [nI_int (by omega)] at q; omega) | (refine ⟨?_, ?_, ?_⟩ <;> omega) | (intro q; obtain ⟨q1, q2, q3⟩ := q; omega) | fail)] | rw [if_neg (by first | assumption | omega | (refine inA_iff.mpr ?_; omega) | (intro q; have q2 := inA_iff.mp q; omega) | (intro q; omega) | (refine ⟨?_, ?_⟩ <;> rw [nI_int (by omega)] <;> omega) | (rw [nI_int (by omega)]; omega) | (intro q; rw [nI_int (by omega)] at q; omega) | (refine ⟨?_, ?_, ?_⟩ <;> omega) | (intro q; obtain ⟨q1, q2, q3⟩ := q; omega) | fail)])) <;> rfl
                          rw [e, e2]
                          exact ⟨rfl, (TrC.bg (TrC.bg TrC.nil (by decide)) (by decide)), (bg1_only (bg1_only (Only.up Only.rfl_ (Or.inl rfl))))⟩)
        · refine WP.run (pc' := if ¬ (nI r) = 0 then 49 else 34) (L' := [.ref 0, .int (nI s), .int (nI r)]) (st' := []) (I1 := (upN I 245 1 (nI 0))) 2 rfl ?_
          refine WP.br (fun h8 => ?_) (fun h8 => ?_)
          · have h8 : ¬ r = 0 := fun q => h8 (nI_eq_r q)
            refine WP.run (pc' := 58) (L' := [.ref 0, .int (nI s), .int (nI r)]) (st' := [.int (nI s), .ref 247, .ref 245]) (I1 := (upN I 245 1 (nI 0))) 5 rfl ?_
            refine WP.callV (rest := []) rfl rfl (sp_mark_5 (d := d + 1) (m := 0) (s := s) (Tw.cg hT (fun o k h1 h2 => upN_no (by omega))) hN hs upN_s (by omega) hz) ?_
            exact WP.ret rfl rfl (by
                          have e : aAsk N (nI s) (nI r) = ((nI s) - ((nI 2) * ((nI (N (15 + s))) - (nI 100)))) := by (unfold aAsk askA; (repeat rw [nOf_nI (by omega)]); (repeat first | rw [if_pos (by first | assumption | omega | (refine inA_iff.mpr ?_; omega) | (intro q; have q2 := inA_iff.mp q; omega) | (intro q; omega) | (refine ⟨?_, ?_⟩ <;> rw [nI_int (by omega)] <;> omega) | (rw [nI_int (by omega)]; omega) | (intro q; rw [nI_int (by omega)] at q; omega) | (refine ⟨?_, ?_, ?_⟩ <;> omega) | (intro q; obtain ⟨q1, q2, q3⟩ := q; omega) | fail)] | rw [if_neg (by first | assumption | omega | (refine inA_iff.mpr ?_; omega) | (intro q; have q2 := inA_iff.mp q; omega) | (intro q; omega) | (refine ⟨?_, ?_⟩ <;> rw [nI_int (by omega)] <;> omega) | (rw [nI_int (by omega)]; omega) | (intro q; rw [nI_int (by omega)] at q; omega) | (refine ⟨?_, ?_, ?_⟩ <;> omega) | (intro q; obtain ⟨q1, q2, q3⟩ := q; omega) | fail)])) <;> rfl
                          have e2 : tAsk N l (nI s) (nI r) = [23, 20, 14, 13, 10] := by (unfold tAsk askB; (repeat rw [nOf_nI (by omega)]); (repeat first | rw [if_pos (by first | assumption | omega | (refine inA_iff.mpr ?_; omega) | (intro q; have q2 := inA_iff.mp q; omega) | (intro q; omega) | (refine ⟨?_, ?_⟩ <;> rw [nI_int (by omega)] <;> omega) | (rw [nI_int (by omega)]; omega) | (intro q; rw [nI_int (by omega)] at q; omega) | (refine ⟨?_, ?_, ?_⟩ <;> omega) | (intro q; obtain ⟨q1, q2, q3⟩ := q; omega) | fail)] | rw [if_neg (by first | assumption | omega | (refine inA_iff.mpr ?_; omega) | (intro q; have q2 := inA_iff.mp q; omega) | (intro q; omega) | (refine ⟨?_, ?_⟩ <;> rw [nI_int (by omega)] <;> omega) | (rw [nI_int (by omega)]; omega) | (intro q; rw [nI_int (by omega)] at q; omega) | (refine ⟨?_, ?_, ?_⟩ <;> omega) | (intro q; obtain ⟨q1, q2, q3⟩ := q; omega) | fail)])) <;> rfl
                          rw [e, e2]
                          exact ⟨rfl, (TrC.bg (TrC.bg (TrC.bg (TrC.bg (TrC.bg TrC.nil (by decide)) (by decide)) (by decide)) (by decide)) (by decide)), (bg1_only (bg1_only (bg1_only (bg1_only (bg1_only (Only.up Only.rfl_ (Or.inl rfl)))))))⟩)
          · have h8 : r = 0 := nI_eq_ (by omega) (by omega) (Decidable.byContradiction h8)
            refine WP.run (pc' := 43) (L' := [.ref 0, .int (nI s), .int (nI r)]) (st' := [.int (nI s), .ref 247, .ref 245]) (I1 := (upN I 245 1 (nI 0))) 5 rfl ?_
            refine WP.callV (rest := []) rfl rfl (sp_size_5 (d := d) (m := 0) (s := s) (Tw.cg hT (fun o k h1 h2 => upN_no (by omega))) hN hs upN_s (by omega) hz) ?_
            refine WP.run (pc' := 61) (L' := [.ref 0, .int (nI s), .int (nI r)]) (st' := [.int ((nI 2) * ((nI (N (15 + s))) - (nI 100)))]) (I1 := (bg1 (bg1 (bg1 (upN I 245 1 (nI 0)) 0 14) (0 + 1) 13) (0 + 1 + 1) 10)) 1 rfl ?_
            exact WP.ret rfl rfl (by
                          have e : aAsk N (nI s) (nI r) = ((nI 2) * ((nI (N (15 + s))) - (nI 100))) := by (unfold aAsk askA; (repeat rw [nOf_nI (by omega)]); (repeat first | rw [if_pos (by first | assumption | omega | (refine inA_iff.mpr ?_; omega) | (intro q; have q2 := inA_iff.mp q; omega) | (intro q; omega) | (refine ⟨?_, ?_⟩ <;> rw [nI_int (by omega)] <;> omega) | (rw [nI_int (by omega)]; omega) | (intro q; rw [nI_int (by omega)] at q; omega) | (refine ⟨?_, ?_, ?_⟩ <;> omega) | (intro q; obtain ⟨q1, q2, q3⟩ := q; omega) | fail)] | rw [if_neg (by first | assumption | omega | (refine inA_iff.mpr ?_; omega) | (intro q; have q2 := inA_iff.mp q; omega) | (intro q; omega) | (refine ⟨?_, ?_⟩ <;> rw [nI_int (by omega)] <;> omega) | (rw [nI_int (by omega)]; omega) | (intro q; rw [nI_int (by omega)] at q; omega) | (refine ⟨?_, ?_, ?_⟩ <;> omega) | (intro q; obtain ⟨q1, q2, q3⟩ := q; omega) | fail)])) <;> rfl
                          have e2 : tAsk N l (nI s) (nI r) = [14, 13, 10] := by (unfold tAsk askB; (repeat rw [nOf_nI (by omega)]); (repeat first | rw [if_pos (by first | assumption | omega | (refine inA_iff.mpr ?_; omega) | (intro q; have q2 := inA_iff.mp q; omega) | (intro q; omega) | (refine ⟨?_, ?_⟩ <;> rw [nI_int (by omega)] <;> omega) | (rw [nI_int (by omega)]; omega) | (intro q; rw [nI_int (by omega)] at q; omega) | (refine ⟨?_, ?_, ?_⟩ <;> omega) | (intro q; obtain ⟨q1, q2, q3⟩ := q; omega) | fail)] | rw [if_neg (by first | assumption | omega | (refine inA_iff.mpr ?_; omega) | (intro q; have q2 := inA_iff.mp q; omega) | (intro q; omega) | (refine ⟨?_, ?_⟩ <;> rw [nI_int (by omega)] <;> omega) | (rw [nI_int (by omega)]; omega) | (intro q; rw [nI_int (by omega)] at q; omega) | (refine ⟨?_, ?_, ?_⟩ <;> omega) | (intro q; obtain ⟨q1, q2, q3⟩ := q; omega) | fail)])) <;> rfl
                          rw [e, e2]
                          exact ⟨rfl, (TrC.bg (TrC.bg (TrC.bg TrC.nil (by decide)) (by decide)) (by decide)), (bg1_only (bg1_only (bg1_only (Only.up Only.rfl_ (Or.inl rfl)))))⟩)
      · have h3 : ¬ (w.toInt ≤ 1) := fun q => h3 ((iLeL (n := 1) (by omega)).mpr q)
        refine WP.run (pc' := 22) (L' := [.ref 0, .int (nI s), .int w]) (st' := [.int (-1000001)]) (I1 := I) 1 rfl ?_
        exact WP.ret rfl rfl (by
                  have e : aAsk N (nI s) w = (-1000001) := by (unfold aAsk; (repeat first | rw [if_pos (by first | assumption | omega | (refine inA_iff.mpr ?_; omega) | (intro q; have q2 := inA_iff.mp q; omega) | (intro q; omega) | (refine ⟨?_, ?_⟩ <;> rw [nI_int (by omega)] <;> omega) | (rw [nI_int (by omega)]; omega) | (intro q; rw [nI_int (by omega)] at q; omega) | (refine ⟨?_, ?_, ?_⟩ <;> omega) | (intro q; obtain ⟨q1, q2, q3⟩ := q; omega) | fail)] | rw [if_neg (by first | assumption | omega | (refine inA_iff.mpr ?_; omega) | (intro q; have q2 := inA_iff.mp q; omega) | (intro q; omega) | (refine ⟨?_, ?_⟩ <;> rw [nI_int (by omega)] <;> omega) | (rw [nI_int (by omega)]; omega) | (intro q; rw [nI_int (by omega)] at q; omega) | (refine ⟨?_, ?_, ?_⟩ <;> omega) | (intro q; obtain ⟨q1, q2, q3⟩ := q; omega) | fail)])) <;> rfl
                  have e2 : tAsk N l (nI s) w = l := by (unfold tAsk; (repeat first | rw [if_pos (by first | assumption | omega | (refine inA_iff.mpr ?_; omega) | (intro q; have q2 := inA_iff.mp q; omega) | (intro q; omega) | (refine ⟨?_, ?_⟩ <;> rw [nI_int (by omega)] <;> omega) | (rw [nI_int (by omega)]; omega) | (intro q; rw [nI_int (by omega)] at q; omega) | (refine ⟨?_, ?_, ?_⟩ <;> omega) | (intro q; obtain ⟨q1, q2, q3⟩ := q; omega) | fail)] | rw [if_neg (by first | assumption | omega | (refine inA_iff.mpr ?_; omega) | (intro q; have q2 := inA_iff.mp q; omega) | (intro q; omega) | (refine ⟨?_, ?_⟩ <;> rw [nI_int (by omega)] <;> omega) | (rw [nI_int (by omega)]; omega) | (intro q; rw [nI_int (by omega)] at q; omega) | (refine ⟨?_, ?_, ?_⟩ <;> omega) | (intro q; obtain ⟨q1, q2, q3⟩ := q; omega) | fail)])) <;> rfl
                  rw [e, e2]
                  exact ⟨rfl, hL, Only.rfl_⟩)
  · refine WP.run (pc' := 22) (L' := [.ref 0, .int x, .int w]) (st' := [.int (-1000001)]) (I1 := I) 2 rfl ?_
    exact WP.ret rfl rfl (by
          have e : aAsk N x w = (-1000001) := by (unfold aAsk; (repeat first | rw [if_pos (by first | assumption | omega | (refine inA_iff.mpr ?_; omega) | (intro q; have q2 := inA_iff.mp q; omega) | (intro q; omega) | (refine ⟨?_, ?_⟩ <;> rw [nI_int (by omega)] <;> omega) | (rw [nI_int (by omega)]; omega) | (intro q; rw [nI_int (by omega)] at q; omega) | (refine ⟨?_, ?_, ?_⟩ <;> omega) | (intro q; obtain ⟨q1, q2, q3⟩ := q; omega) | fail)] | rw [if_neg (by first | assumption | omega | (refine inA_iff.mpr ?_; omega) | (intro q; have q2 := inA_iff.mp q; omega) | (intro q; omega) | (refine ⟨?_, ?_⟩ <;> rw [nI_int (by omega)] <;> omega) | (rw [nI_int (by omega)]; omega) | (intro q; rw [nI_int (by omega)] at q; omega) | (refine ⟨?_, ?_, ?_⟩ <;> omega) | (intro q; obtain ⟨q1, q2, q3⟩ := q; omega) | fail)])) <;> rfl
          have e2 : tAsk N l x w = l := by (unfold tAsk; (repeat first | rw [if_pos (by first | assumption | omega | (refine inA_iff.mpr ?_; omega) | (intro q; have q2 := inA_iff.mp q; omega) | (intro q; omega) | (refine ⟨?_, ?_⟩ <;> rw [nI_int (by omega)] <;> omega) | (rw [nI_int (by omega)]; omega) | (intro q; rw [nI_int (by omega)] at q; omega) | (refine ⟨?_, ?_, ?_⟩ <;> omega) | (intro q; obtain ⟨q1, q2, q3⟩ := q; omega) | fail)] | rw [if_neg (by first | assumption | omega | (refine inA_iff.mpr ?_; omega) | (intro q; have q2 := inA_iff.mp q; omega) | (intro q; omega) | (refine ⟨?_, ?_⟩ <;> rw [nI_int (by omega)] <;> omega) | (rw [nI_int (by omega)]; omega) | (intro q; rw [nI_int (by omega)] at q; omega) | (refine ⟨?_, ?_, ?_⟩ <;> omega) | (intro q; obtain ⟨q1, q2, q3⟩ := q; omega) | fail)])) <;> rfl
          rw [e, e2]
          exact ⟨rfl, hL, Only.rfl_⟩)
set_option maxRecDepth 100000 in
theorem ms_ask {d : Nat} {I : Pl} {l : List Nat} {x w : Int32} {N : Nat → Nat} (hM : T0 I N) (hN : TI N) (hL : TrM I l) : EvX (d + 8) 202 [.ref 271, .int x, .int w] I (fun v K => v = some (.int (aAsk N x w)) ∧ TrM K (tAsk N l x w) ∧ Only I K tmP) := by
  obtain ⟨b0, b1, b2, b3, b4, b5, b6, b7, b8, bS, bC, bS1, bC1, bZ, bG⟩ := id hN
  obtain ⟨s6, s7, s64⟩ := hN.set64
  refine EvX.enter rfl rfl rfl ?_
  refine WP.run (pc' := 2) (L' := [.ref 271, .int x, .int w]) (st' := [.int x, .ref 271]) (I1 := I) 2 rfl ?_
  refine WP.callB (rest := []) rfl rfl (ms_isStrand (d := d + 5) (x := x) hM hN) (fun h1 => ?_) (fun h1 => ?_)
  · refine WP.run (pc' := 8) (L' := [.ref 271, .int x, .int w]) (st' := []) (I1 := I) 1 rfl ?_
    have hx_s : inA x (N 2) := (by assumption)
    obtain ⟨s, hs, rfl⟩ := inA_of hx_s (by omega)
    refine WP.run (pc' := 12) (L' := [.ref 271, .int (nI s), .int w]) (st' := [.long (1 : Int64), .long (0 : Int64), .long w.toInt64]) (I1 := I) 4 rfl ?_
    refine WP.callB (rest := []) rfl rfl (sp_inA (d := d + 6) (x := w) (n := 2) (hi := (1 : Int64)) rfl) (fun h2 => ?_) (fun h2 => ?_)
    · refine WP.run (pc' := 21) (L' := [.ref 271, .int (nI s), .int w]) (st' := []) (I1 := I) 1 rfl ?_
      have hx_r : inA w 2 := (by assumption)
      obtain ⟨r, hr, rfl⟩ := inA_of hx_r (by omega)
      refine WP.run (pc' := 26) (L' := [.ref 271, .int (nI s), .int (nI r)]) (st' := []) (I1 := (upN I 271 19 (nI 0))) 3 rfl ?_
      obtain ⟨bs1, bs2, bs3⟩ := bS s (by omega)
      obtain ⟨bt1, bt2⟩ := bS1 s (by omega)
      have hs : s < 6 := by omega
      have hz5 : N (9 + s) = 1 ∨ N (9 + s) = 2 ∨ N (9 + s) = 3 ∨ N (9 + s) = 4 ∨ N (9 + s) = 5 := by omega
      rcases hz5 with hz | hz | hz | hz | hz
      · refine WP.run (pc' := if ¬ (nI r) = 0 then 38 else 30) (L' := [.ref 271, .int (nI s), .int (nI r)]) (st' := []) (I1 := (upN I 271 19 (nI 0))) 2 rfl ?_
        refine WP.br (fun h3 => ?_) (fun h3 => ?_)
        · have h3 : ¬ r = 0 := fun q => h3 (nI_eq_r q)
          refine WP.run (pc' := 40) (L' := [.ref 271, .int (nI s), .int (nI r)]) (st' := [.int (nI s), .ref 271]) (I1 := (upN I 271 19 (nI 0))) 2 rfl ?_
          refine WP.callV (rest := []) rfl rfl (ms_markOf_1 (d := d) (m := 0) (s := s) (T0.out hM (Or.inl (by decide))) hN hs upN_s (by omega) hz) ?_
          exact WP.ret rfl rfl (by
                      have e : aAsk N (nI s) (nI r) = (nI (s + (N (21 + s)))) := by (unfold aAsk askA; (repeat rw [nOf_nI (by omega)]); (repeat first | rw [if_pos (by first | assumption | omega | (refine inA_iff.mpr ?_; omega) | (intro q; have q2 := inA_iff.mp q; omega) | (intro q; omega) | (refine ⟨?_, ?_⟩ <;> rw [nI_int (by omega)] <;> omega) | (rw [nI_int (by omega)]; omega) | (intro q; rw [nI_int (by omega)] at q; omega) | (refine ⟨?_, ?_, ?_⟩ <;> omega) | (intro q; obtain ⟨q1, q2, q3⟩ := q; omega) | fail)] | rw [if_neg (by first | assumption | omega | (refine inA_iff.mpr ?_; omega) | (intro q; have q2 := inA_iff.mp q; omega) | (intro q; omega) | (refine ⟨?_, ?_⟩ <;> rw [nI_int (by omega)] <;> omega) | (rw [nI_int (by omega)]; omega) | (intro q; rw [nI_int (by omega)] at q; omega) | (refine ⟨?_, ?_, ?_⟩ <;> omega) | (intro q; obtain ⟨q1, q2, q3⟩ := q; omega) | fail)])) <;> rfl
                      have e2 : tAsk N l (nI s) (nI r) = [21, 20] := by (unfold tAsk askB; (repeat rw [nOf_nI (by omega)]); (repeat first | rw [if_pos (by first | assumption | omega | (refine inA_iff.mpr ?_; omega) | (intro q; have q2 := inA_iff.mp q; omega) | (intro q; omega) | (refine ⟨?_, ?_⟩ <;> rw [nI_int (by omega)] <;> omega) | (rw [nI_int (by omega)]; omega) | (intro q; rw [nI_int (by omega)] at q; omega) | (refine ⟨?_, ?_, ?_⟩ <;> omega) | (intro q; obtain ⟨q1, q2, q3⟩ := q; omega) | fail)] | rw [if_neg (by first | assumption | omega | (refine inA_iff.mpr ?_; omega) | (intro q; have q2 := inA_iff.mp q; omega) | (intro q; omega) | (refine ⟨?_, ?_⟩ <;> rw [nI_int (by omega)] <;> omega) | (rw [nI_int (by omega)]; omega) | (intro q; rw [nI_int (by omega)] at q; omega) | (refine ⟨?_, ?_, ?_⟩ <;> omega) | (intro q; obtain ⟨q1, q2, q3⟩ := q; omega) | fail)])) <;> rfl
                      rw [e, e2]
                      exact ⟨rfl, (TrM.lv (TrM.lv TrM.nil (by decide)) (by decide)), (lv1_only (lv1_only (Only.up Only.rfl_ (Or.inl ⟨rfl, rfl⟩))))⟩)
        · have h3 : r = 0 := nI_eq_ (by omega) (by omega) (Decidable.byContradiction h3)
          refine WP.run (pc' := 32) (L' := [.ref 271, .int (nI s), .int (nI r)]) (st' := [.int (nI s), .ref 271]) (I1 := (upN I 271 19 (nI 0))) 2 rfl ?_
          refine WP.callV (rest := []) rfl rfl (ms_sizeOf_1 (d := d + 1) (m := 0) (s := s) (T0.out hM (Or.inl (by decide))) hN hs upN_s (by omega) hz) ?_
          refine WP.run (pc' := 43) (L' := [.ref 271, .int (nI s), .int (nI r)]) (st' := [.int (nI ((N (15 + s)) + (s + (N (21 + s)))))]) (I1 := (lv1 (lv1 (lv1 (lv1 (upN I 271 19 (nI 0)) 0 11) (0 + 1) 10) (0 + 1 + 1) 21) (0 + 1 + 1 + 1) 20)) 1 rfl ?_
          exact WP.ret rfl rfl (by
                      have e : aAsk N (nI s) (nI r) = (nI ((N (15 + s)) + (s + (N (21 + s))))) := by (unfold aAsk askA; (repeat rw [nOf_nI (by omega)]); (repeat first | rw [if_pos (by first | assumption | omega | (refine inA_iff.mpr ?_; omega) | (intro q; have q2 := inA_iff.mp q; omega) | (intro q; omega) | (refine ⟨?_, ?_⟩ <;> rw [nI_int (by omega)] <;> omega) | (rw [nI_int (by omega)]; omega) | (intro q; rw [nI_int (by omega)] at q; omega) | (refine ⟨?_, ?_, ?_⟩ <;> omega) | (intro q; obtain ⟨q1, q2, q3⟩ := q; omega) | fail)] | rw [if_neg (by first | assumption | omega | (refine inA_iff.mpr ?_; omega) | (intro q; have q2 := inA_iff.mp q; omega) | (intro q; omega) | (refine ⟨?_, ?_⟩ <;> rw [nI_int (by omega)] <;> omega) | (rw [nI_int (by omega)]; omega) | (intro q; rw [nI_int (by omega)] at q; omega) | (refine ⟨?_, ?_, ?_⟩ <;> omega) | (intro q; obtain ⟨q1, q2, q3⟩ := q; omega) | fail)])) <;> rfl
                      have e2 : tAsk N l (nI s) (nI r) = [11, 10, 21, 20] := by (unfold tAsk askB; (repeat rw [nOf_nI (by omega)]); (repeat first | rw [if_pos (by first | assumption | omega | (refine inA_iff.mpr ?_; omega) | (intro q; have q2 := inA_iff.mp q; omega) | (intro q; omega) | (refine ⟨?_, ?_⟩ <;> rw [nI_int (by omega)] <;> omega) | (rw [nI_int (by omega)]; omega) | (intro q; rw [nI_int (by omega)] at q; omega) | (refine ⟨?_, ?_, ?_⟩ <;> omega) | (intro q; obtain ⟨q1, q2, q3⟩ := q; omega) | fail)] | rw [if_neg (by first | assumption | omega | (refine inA_iff.mpr ?_; omega) | (intro q; have q2 := inA_iff.mp q; omega) | (intro q; omega) | (refine ⟨?_, ?_⟩ <;> rw [nI_int (by omega)] <;> omega) | (rw [nI_int (by omega)]; omega) | (intro q; rw [nI_int (by omega)] at q; omega) | (refine ⟨?_, ?_, ?_⟩ <;> omega) | (intro q; obtain ⟨q1, q2, q3⟩ := q; omega) | fail)])) <;> rfl
                      rw [e, e2]
                      exact ⟨rfl, (TrM.lv (TrM.lv (TrM.lv (TrM.lv TrM.nil (by decide)) (by decide)) (by decide)) (by decide)), (lv1_only (lv1_only (lv1_only (lv1_only (Only.up Only.rfl_ (Or.inl ⟨rfl, rfl⟩))))))⟩)
      · refine WP.run (pc' := if ¬ (nI r) = 0 then 38 else 30) (L' := [.ref 271, .int (nI s), .int (nI r)]) (st' := []) (I1 := (upN I 271 19 (nI 0))) 2 rfl ?_
        refine WP.br (fun h4 => ?_) (fun h4 => ?_)
        · have h4 : ¬ r = 0 := fun q => h4 (nI_eq_r q)
          refine WP.run (pc' := 40) (L' := [.ref 271, .int (nI s), .int (nI r)]) (st' := [.int (nI s), .ref 271]) (I1 := (upN I 271 19 (nI 0))) 2 rfl ?_
          refine WP.callV (rest := []) rfl rfl (ms_markOf_2 (d := d) (m := 0) (s := s) (T0.out hM (Or.inl (by decide))) hN hs upN_s (by omega) hz) ?_
          exact WP.ret rfl rfl (by
                      have e : aAsk N (nI s) (nI r) = (nI (2 * (s + (N (21 + s))))) := by (unfold aAsk askA; (repeat rw [nOf_nI (by omega)]); (repeat first | rw [if_pos (by first | assumption | omega | (refine inA_iff.mpr ?_; omega) | (intro q; have q2 := inA_iff.mp q; omega) | (intro q; omega) | (refine ⟨?_, ?_⟩ <;> rw [nI_int (by omega)] <;> omega) | (rw [nI_int (by omega)]; omega) | (intro q; rw [nI_int (by omega)] at q; omega) | (refine ⟨?_, ?_, ?_⟩ <;> omega) | (intro q; obtain ⟨q1, q2, q3⟩ := q; omega) | fail)] | rw [if_neg (by first | assumption | omega | (refine inA_iff.mpr ?_; omega) | (intro q; have q2 := inA_iff.mp q; omega) | (intro q; omega) | (refine ⟨?_, ?_⟩ <;> rw [nI_int (by omega)] <;> omega) | (rw [nI_int (by omega)]; omega) | (intro q; rw [nI_int (by omega)] at q; omega) | (refine ⟨?_, ?_, ?_⟩ <;> omega) | (intro q; obtain ⟨q1, q2, q3⟩ := q; omega) | fail)])) <;> rfl
                      have e2 : tAsk N l (nI s) (nI r) = [24, 21, 20] := by (unfold tAsk askB; (repeat rw [nOf_nI (by omega)]); (repeat first | rw [if_pos (by first | assumption | omega | (refine inA_iff.mpr ?_; omega) | (intro q; have q2 := inA_iff.mp q; omega) | (intro q; omega) | (refine ⟨?_, ?_⟩ <;> rw [nI_int (by omega)] <;> omega) | (rw [nI_int (by omega)]; omega) | (intro q; rw [nI_int (by omega)] at q; omega) | (refine ⟨?_, ?_, ?_⟩ <;> omega) | (intro q; obtain ⟨q1, q2, q3⟩ := q; omega) | fail)] | rw [if_neg (by first | assumption | omega | (refine inA_iff.mpr ?_; omega) | (intro q; have q2 := inA_iff.mp q; omega) | (intro q; omega) | (refine ⟨?_, ?_⟩ <;> rw [nI_int (by omega)] <;> omega) | (rw [nI_int (by omega)]; omega) | (intro q; rw [nI_int (by omega)] at q; omega) | (refine ⟨?_, ?_, ?_⟩ <;> omega) | (intro q; obtain ⟨q1, q2, q3⟩ := q; omega) | fail)])) <;> rfl
                      rw [e, e2]
                      exact ⟨rfl, (TrM.lv (TrM.lv (TrM.lv TrM.nil (by decide)) (by decide)) (by decide)), (lv1_only (lv1_only (lv1_only (Only.up Only.rfl_ (Or.inl ⟨rfl, rfl⟩)))))⟩)
        · have h4 : r = 0 := nI_eq_ (by omega) (by omega) (Decidable.byContradiction h4)
          refine WP.run (pc' := 32) (L' := [.ref 271, .int (nI s), .int (nI r)]) (st' := [.int (nI s), .ref 271]) (I1 := (upN I 271 19 (nI 0))) 2 rfl ?_
          refine WP.callV (rest := []) rfl rfl (ms_sizeOf_2 (d := d + 1) (m := 0) (s := s) (T0.out hM (Or.inl (by decide))) hN hs upN_s (by omega) hz) ?_
          refine WP.run (pc' := 43) (L' := [.ref 271, .int (nI s), .int (nI r)]) (st' := [.int (-(nI ((N (15 + s)) + (2 * (s + (N (21 + s)))))))]) (I1 := (lv1 (lv1 (lv1 (lv1 (lv1 (lv1 (upN I 271 19 (nI 0)) 0 12) (0 + 1) 11) (0 + 1 + 1) 10) (0 + 1 + 1 + 1) 24) (0 + 1 + 1 + 1 + 1) 21) (0 + 1 + 1 + 1 + 1 + 1) 20)) 1 rfl ?_
          exact WP.ret rfl rfl (by
                      have e : aAsk N (nI s) (nI r) = (-(nI ((N (15 + s)) + (2 * (s + (N (21 + s))))))) := by (unfold aAsk askA; (repeat rw [nOf_nI (by omega)]); (repeat first | rw [if_pos (by first | assumption | omega | (refine inA_iff.mpr ?_; omega) | (intro q; have q2 := inA_iff.mp q; omega) | (intro q; omega) | (refine ⟨?_, ?_⟩ <;> rw [nI_int (by omega)] <;> omega) | (rw [nI_int (by omega)]; omega) | (intro q; rw [nI_int (by omega)] at q; omega) | (refine ⟨?_, ?_, ?_⟩ <;> omega) | (intro q; obtain ⟨q1, q2, q3⟩ := q; omega) | fail)] | rw [if_neg (by first | assumption | omega | (refine inA_iff.mpr ?_; omega) | (intro q; have q2 := inA_iff.mp q; omega) | (intro q; omega) | (refine ⟨?_, ?_⟩ <;> rw [nI_int (by omega)] <;> omega) | (rw [nI_int (by omega)]; omega) | (intro q; rw [nI_int (by omega)] at q; omega) | (refine ⟨?_, ?_, ?_⟩ <;> omega) | (intro q; obtain ⟨q1, q2, q3⟩ := q; omega) | fail)])) <;> rfl
                      have e2 : tAsk N l (nI s) (nI r) = [12, 11, 10, 24, 21, 20] := by (unfold tAsk askB; (repeat rw [nOf_nI (by omega)]); (repeat first | rw [if_pos (by first | assumption | omega | (refine inA_iff.mpr ?_; omega) | (intro q; have q2 := inA_iff.mp q; omega) | (intro q; omega) | (refine ⟨?_, ?_⟩ <;> rw [nI_int (by omega)] <;> omega) | (rw [nI_int (by omega)]; omega) | (intro q; rw [nI_int (by omega)] at q; omega) | (refine ⟨?_, ?_, ?_⟩ <;> omega) | (intro q; obtain ⟨q1, q2, q3⟩ := q; omega) | fail)] | rw [if_neg (by first | assumption | omega | (refine inA_iff.mpr ?_; omega) | (intro q; have q2 := inA_iff.mp q; omega) | (intro q; omega) | (refine ⟨?_, ?_⟩ <;> rw [nI_int (by omega)] <;> omega) | (rw [nI_int (by omega)]; omega) | (intro q; rw [nI_int (by omega)] at q; omega) | (refine ⟨?_, ?_, ?_⟩ <;> omega) | (intro q; obtain ⟨q1, q2, q3⟩ := q; omega) | fail)])) <;> rfl
                      rw [e, e2]
                      exact ⟨rfl, (TrM.lv (TrM.lv (TrM.lv (TrM.lv (TrM.lv (TrM.lv TrM.nil (by decide)) (by decide)) (by decide)) (by decide)) (by decide)) (by decide)), (lv1_only (lv1_only (lv1_only (lv1_only (lv1_only (lv1_only (Only.up Only.rfl_ (Or.inl ⟨rfl, rfl⟩))))))))⟩)
      · refine WP.run (pc' := if ¬ (nI r) = 0 then 38 else 30) (L' := [.ref 271, .int (nI s), .int (nI r)]) (st' := []) (I1 := (upN I 271 19 (nI 0))) 2 rfl ?_
        refine WP.br (fun h5 => ?_) (fun h5 => ?_)
        · have h5 : ¬ r = 0 := fun q => h5 (nI_eq_r q)
          refine WP.run (pc' := 40) (L' := [.ref 271, .int (nI s), .int (nI r)]) (st' := [.int (nI s), .ref 271]) (I1 := (upN I 271 19 (nI 0))) 2 rfl ?_
          refine WP.callV (rest := []) rfl rfl (ms_markOf_3 (d := d) (m := 0) (s := s) (T0.out hM (Or.inl (by decide))) hN hs upN_s (by omega) hz) ?_
          exact WP.ret rfl rfl (by
                      have e : aAsk N (nI s) (nI r) = ((nI (s + (N (21 + s)))) - (nI 1000)) := by (unfold aAsk askA; (repeat rw [nOf_nI (by omega)]); (repeat first | rw [if_pos (by first | assumption | omega | (refine inA_iff.mpr ?_; omega) | (intro q; have q2 := inA_iff.mp q; omega) | (intro q; omega) | (refine ⟨?_, ?_⟩ <;> rw [nI_int (by omega)] <;> omega) | (rw [nI_int (by omega)]; omega) | (intro q; rw [nI_int (by omega)] at q; omega) | (refine ⟨?_, ?_, ?_⟩ <;> omega) | (intro q; obtain ⟨q1, q2, q3⟩ := q; omega) | fail)] | rw [if_neg (by first | assumption | omega | (refine inA_iff.mpr ?_; omega) | (intro q; have q2 := inA_iff.mp q; omega) | (intro q; omega) | (refine ⟨?_, ?_⟩ <;> rw [nI_int (by omega)] <;> omega) | (rw [nI_int (by omega)]; omega) | (intro q; rw [nI_int (by omega)] at q; omega) | (refine ⟨?_, ?_, ?_⟩ <;> omega) | (intro q; obtain ⟨q1, q2, q3⟩ := q; omega) | fail)])) <;> rfl
                      have e2 : tAsk N l (nI s) (nI r) = [22, 21, 20] := by (unfold tAsk askB; (repeat rw [nOf_nI (by omega)]); (repeat first | rw [if_pos (by first | assumption | omega | (refine inA_iff.mpr ?_; omega) | (intro q; have q2 := inA_iff.mp q; omega) | (intro q; omega) | (refine ⟨?_, ?_⟩ <;> rw [nI_int (by omega)] <;> omega) | (rw [nI_int (by omega)]; omega) | (intro q; rw [nI_int (by omega)] at q; omega) | (refine ⟨?_, ?_, ?_⟩ <;> omega) | (intro q; obtain ⟨q1, q2, q3⟩ := q; omega) | fail)] | rw [if_neg (by first | assumption | omega | (refine inA_iff.mpr ?_; omega) | (intro q; have q2 := inA_iff.mp q; omega) | (intro q; omega) | (refine ⟨?_, ?_⟩ <;> rw [nI_int (by omega)] <;> omega) | (rw [nI_int (by omega)]; omega) | (intro q; rw [nI_int (by omega)] at q; omega) | (refine ⟨?_, ?_, ?_⟩ <;> omega) | (intro q; obtain ⟨q1, q2, q3⟩ := q; omega) | fail)])) <;> rfl
                      rw [e, e2]
                      exact ⟨rfl, (TrM.lv (TrM.lv (TrM.lv TrM.nil (by decide)) (by decide)) (by decide)), (lv1_only (lv1_only (lv1_only (Only.up Only.rfl_ (Or.inl ⟨rfl, rfl⟩)))))⟩)
        · have h5 : r = 0 := nI_eq_ (by omega) (by omega) (Decidable.byContradiction h5)
          refine WP.run (pc' := 32) (L' := [.ref 271, .int (nI s), .int (nI r)]) (st' := [.int (nI s), .ref 271]) (I1 := (upN I 271 19 (nI 0))) 2 rfl ?_
          refine WP.callV (rest := []) rfl rfl (ms_sizeOf_3 (d := d + 1) (m := 0) (s := s) (T0.out hM (Or.inl (by decide))) hN hs upN_s (by omega) hz) ?_
          refine WP.run (pc' := 43) (L' := [.ref 271, .int (nI s), .int (nI r)]) (st' := [.int ((nI (N (15 + s))) + ((nI (s + (N (21 + s)))) - (nI 1000)))]) (I1 := (lv1 (lv1 (lv1 (lv1 (lv1 (upN I 271 19 (nI 0)) 0 11) (0 + 1) 10) (0 + 1 + 1) 22) (0 + 1 + 1 + 1) 21) (0 + 1 + 1 + 1 + 1) 20)) 1 rfl ?_
          exact WP.ret rfl rfl (by
                      have e : aAsk N (nI s) (nI r) = ((nI (N (15 + s))) + ((nI (s + (N (21 + s)))) - (nI 1000))) := by (unfold aAsk askA; (repeat rw [nOf_nI (by omega)]); (repeat first | rw [if_pos (by first | assumption | omega | (refine inA_iff.mpr ?_; omega) | (intro q; have q2 := inA_iff.mp q; omega) | (intro q; omega) | (refine ⟨?_, ?_⟩ <;> rw [nI_int (by omega)] <;> omega) | (rw [nI_int (by omega)]; omega) | (intro q; rw [nI_int (by omega)] at q; omega) | (refine ⟨?_, ?_, ?_⟩ <;> omega) | (intro q; obtain ⟨q1, q2, q3⟩ := q; omega) | fail)] | rw [if_neg (by first | assumption | omega | (refine inA_iff.mpr ?_; omega) | (intro q; have q2 := inA_iff.mp q; omega) | (intro q; omega) | (refine ⟨?_, ?_⟩ <;> rw [nI_int (by omega)] <;> omega) | (rw [nI_int (by omega)]; omega) | (intro q; rw [nI_int (by omega)] at q; omega) | (refine ⟨?_, ?_, ?_⟩ <;> omega) | (intro q; obtain ⟨q1, q2, q3⟩ := q; omega) | fail)])) <;> rfl
                      have e2 : tAsk N l (nI s) (nI r) = [11, 10, 22, 21, 20] := by (unfold tAsk askB; (repeat rw [nOf_nI (by omega)]); (repeat first | rw [if_pos (by first | assumption | omega | (refine inA_iff.mpr ?_; omega) | (intro q; have q2 := inA_iff.mp q; omega) | (intro q; omega) | (refine ⟨?_, ?_⟩ <;> rw [nI_int (by omega)] <;> omega) | (rw [nI_int (by omega)]; omega) | (intro q; rw [nI_int (by omega)] at q; omega) | (refine ⟨?_, ?_, ?_⟩ <;> omega) | (intro q; obtain ⟨q1, q2, q3⟩ := q; omega) | fail)] | rw [if_neg (by first | assumption | omega | (refine inA_iff.mpr ?_; omega) | (intro q; have q2 := inA_iff.mp q; omega) | (intro q; omega) | (refine ⟨?_, ?_⟩ <;> rw [nI_int (by omega)] <;> omega) | (rw [nI_int (by omega)]; omega) | (intro q; rw [nI_int (by omega)] at q; omega) | (refine ⟨?_, ?_, ?_⟩ <;> omega) | (intro q; obtain ⟨q1, q2, q3⟩ := q; omega) | fail)])) <;> rfl
                      rw [e, e2]
                      exact ⟨rfl, (TrM.lv (TrM.lv (TrM.lv (TrM.lv (TrM.lv TrM.nil (by decide)) (by decide)) (by decide)) (by decide)) (by decide)), (lv1_only (lv1_only (lv1_only (lv1_only (lv1_only (Only.up Only.rfl_ (Or.inl ⟨rfl, rfl⟩)))))))⟩)
      · refine WP.run (pc' := if ¬ (nI r) = 0 then 38 else 30) (L' := [.ref 271, .int (nI s), .int (nI r)]) (st' := []) (I1 := (upN I 271 19 (nI 0))) 2 rfl ?_
        refine WP.br (fun h6 => ?_) (fun h6 => ?_)
        · have h6 : ¬ r = 0 := fun q => h6 (nI_eq_r q)
          refine WP.run (pc' := 40) (L' := [.ref 271, .int (nI s), .int (nI r)]) (st' := [.int (nI s), .ref 271]) (I1 := (upN I 271 19 (nI 0))) 2 rfl ?_
          refine WP.callV (rest := []) rfl rfl (ms_markOf_4 (d := d) (m := 0) (s := s) (T0.out hM (Or.inl (by decide))) hN hs upN_s (by omega) hz) ?_
          exact WP.ret rfl rfl (by
                      have e : aAsk N (nI s) (nI r) = ((nI s) - ((nI (N (15 + s))) - (nI 100))) := by (unfold aAsk askA; (repeat rw [nOf_nI (by omega)]); (repeat first | rw [if_pos (by first | assumption | omega | (refine inA_iff.mpr ?_; omega) | (intro q; have q2 := inA_iff.mp q; omega) | (intro q; omega) | (refine ⟨?_, ?_⟩ <;> rw [nI_int (by omega)] <;> omega) | (rw [nI_int (by omega)]; omega) | (intro q; rw [nI_int (by omega)] at q; omega) | (refine ⟨?_, ?_, ?_⟩ <;> omega) | (intro q; obtain ⟨q1, q2, q3⟩ := q; omega) | fail)] | rw [if_neg (by first | assumption | omega | (refine inA_iff.mpr ?_; omega) | (intro q; have q2 := inA_iff.mp q; omega) | (intro q; omega) | (refine ⟨?_, ?_⟩ <;> rw [nI_int (by omega)] <;> omega) | (rw [nI_int (by omega)]; omega) | (intro q; rw [nI_int (by omega)] at q; omega) | (refine ⟨?_, ?_, ?_⟩ <;> omega) | (intro q; obtain ⟨q1, q2, q3⟩ := q; omega) | fail)])) <;> rfl
                      have e2 : tAsk N l (nI s) (nI r) = [23, 20, 13, 10] := by (unfold tAsk askB; (repeat rw [nOf_nI (by omega)]); (repeat first | rw [if_pos (by first | assumption | omega | (refine inA_iff.mpr ?_; omega) | (intro q; have q2 := inA_iff.mp q; omega) | (intro q; omega) | (refine ⟨?_, ?_⟩ <;> rw [nI_int (by omega)] <;> omega) | (rw [nI_int (by omega)]; omega) | (intro q; rw [nI_int (by omega)] at q; omega) | (refine ⟨?_, ?_, ?_⟩ <;> omega) | (intro q; obtain ⟨q1, q2, q3⟩ := q; omega) | fail)] | rw [if_neg (by first | assumption | omega | (refine inA_iff.mpr ?_; omega) | (intro q; have q2 := inA_iff.mp q; omega) | (intro q; omega) | (refine ⟨?_, ?_⟩ <;> rw [nI_int (by omega)] <;> omega) | (rw [nI_int (by omega)]; omega) | (intro q; rw [nI_int (by omega)] at q; omega) | (refine ⟨?_, ?_, ?_⟩ <;> omega) | (intro q; obtain ⟨q1, q2, q3⟩ := q; omega) | fail)])) <;> rfl
                      rw [e, e2]
                      exact ⟨rfl, (TrM.lv (TrM.lv (TrM.lv (TrM.lv TrM.nil (by decide)) (by decide)) (by decide)) (by decide)), (lv1_only (lv1_only (lv1_only (lv1_only (Only.up Only.rfl_ (Or.inl ⟨rfl, rfl⟩))))))⟩)
        · have h6 : r = 0 := nI_eq_ (by omega) (by omega) (Decidable.byContradiction h6)
          refine WP.run (pc' := 32) (L' := [.ref 271, .int (nI s), .int (nI r)]) (st' := [.int (nI s), .ref 271]) (I1 := (upN I 271 19 (nI 0))) 2 rfl ?_
          refine WP.callV (rest := []) rfl rfl (ms_sizeOf_4 (d := d + 1) (m := 0) (s := s) (T0.out hM (Or.inl (by decide))) hN hs upN_s (by omega) hz) ?_
          refine WP.run (pc' := 43) (L' := [.ref 271, .int (nI s), .int (nI r)]) (st' := [.int ((nI (N (15 + s))) - (nI 100))]) (I1 := (lv1 (lv1 (upN I 271 19 (nI 0)) 0 13) (0 + 1) 10)) 1 rfl ?_
          exact WP.ret rfl rfl (by
                      have e : aAsk N (nI s) (nI r) = ((nI (N (15 + s))) - (nI 100)) := by (unfold aAsk askA; (repeat rw [nOf_nI (by omega)]); (repeat first | rw [if_pos (by first | assumption | omega | (refine inA_iff.mpr ?_; omega) | (intro q; have q2 := inA_iff.mp q; omega) | (intro q; omega) | (refine ⟨?_, ?_⟩ <;> rw [nI_int (by omega)] <;> omega) | (rw [nI_int (by omega)]; omega) | (intro q; rw [nI_int (by omega)] at q; omega) | (refine ⟨?_, ?_, ?_⟩ <;> omega) | (intro q; obtain ⟨q1, q2, q3⟩ := q; omega) | fail)] | rw [if_neg (by first | assumption | omega | (refine inA_iff.mpr ?_; omega) | (intro q; have q2 := inA_iff.mp q; omega) | (intro q; omega) | (refine ⟨?_, ?_⟩ <;> rw [nI_int (by omega)] <;> omega) | (rw [nI_int (by omega)]; omega) | (intro q; rw [nI_int (by omega)] at q; omega) | (refine ⟨?_, ?_, ?_⟩ <;> omega) | (intro q; obtain ⟨q1, q2, q3⟩ := q; omega) | fail)])) <;> rfl
                      have e2 : tAsk N l (nI s) (nI r) = [13, 10] := by (unfold tAsk askB; (repeat rw [nOf_nI (by omega)]); (repeat first | rw [if_pos (by first | assumption | omega | (refine inA_iff.mpr ?_; omega) | (intro q; have q2 := inA_iff.mp q; omega) | (intro q; omega) | (refine ⟨?_, ?_⟩ <;> rw [nI_int (by omega)] <;> omega) | (rw [nI_int (by omega)]; omega) | (intro q; rw [nI_int (by omega)] at q; omega) | (refine ⟨?_, ?_, ?_⟩ <;> omega) | (intro q; obtain ⟨q1, q2, q3⟩ := q; omega) | fail)] | rw [if_neg (by first | assumption | omega | (refine inA_iff.mpr ?_; omega) | (intro q; have q2 := inA_iff.mp q; omega) | (intro q; omega) | (refine ⟨?_, ?_⟩ <;> rw [nI_int (by omega)] <;> omega) | (rw [nI_int (by omega)]; omega) | (intro q; rw [nI_int (by omega)] at q; omega) | (refine ⟨?_, ?_, ?_⟩ <;> omega) | (intro q; obtain ⟨q1, q2, q3⟩ := q; omega) | fail)])) <;> rfl
                      rw [e, e2]
                      exact ⟨rfl, (TrM.lv (TrM.lv TrM.nil (by decide)) (by decide)), (lv1_only (lv1_only (Only.up Only.rfl_ (Or.inl ⟨rfl, rfl⟩))))⟩)
      · refine WP.run (pc' := if ¬ (nI r) = 0 then 38 else 30) (L' := [.ref 271, .int (nI s), .int (nI r)]) (st' := []) (I1 := (upN I 271 19 (nI 0))) 2 rfl ?_
        refine WP.br (fun h7 => ?_) (fun h7 => ?_)
        · have h7 : ¬ r = 0 := fun q => h7 (nI_eq_r q)
          refine WP.run (pc' := 40) (L' := [.ref 271, .int (nI s), .int (nI r)]) (st' := [.int (nI s), .ref 271]) (I1 := (upN I 271 19 (nI 0))) 2 rfl ?_
          refine WP.callV (rest := []) rfl rfl (ms_markOf_5 (d := d) (m := 0) (s := s) (T0.out hM (Or.inl (by decide))) hN hs upN_s (by omega) hz) ?_
          exact WP.ret rfl rfl (by
                      have e : aAsk N (nI s) (nI r) = ((nI s) - ((nI 2) * ((nI (N (15 + s))) - (nI 100)))) := by (unfold aAsk askA; (repeat rw [nOf_nI (by omega)]); (repeat first | rw [if_pos (by first | assumption | omega | (refine inA_iff.mpr ?_; omega) | (intro q; have q2 := inA_iff.mp q; omega) | (intro q; omega) | (refine ⟨?_, ?_⟩ <;> rw [nI_int (by omega)] <;> omega) | (rw [nI_int (by omega)]; omega) | (intro q; rw [nI_int (by omega)] at q; omega) | (refine ⟨?_, ?_, ?_⟩ <;> omega) | (intro q; obtain ⟨q1, q2, q3⟩ := q; omega) | fail)] | rw [if_neg (by first | assumption | omega | (refine inA_iff.mpr ?_; omega) | (intro q; have q2 := inA_iff.mp q; omega) | (intro q; omega) | (refine ⟨?_, ?_⟩ <;> rw [nI_int (by omega)] <;> omega) | (rw [nI_int (by omega)]; omega) | (intro q; rw [nI_int (by omega)] at q; omega) | (refine ⟨?_, ?_, ?_⟩ <;> omega) | (intro q; obtain ⟨q1, q2, q3⟩ := q; omega) | fail)])) <;> rfl
                      have e2 : tAsk N l (nI s) (nI r) = [23, 20, 14, 13, 10] := by (unfold tAsk askB; (repeat rw [nOf_nI (by omega)]); (repeat first | rw [if_pos (by first | assumption | omega | (refine inA_iff.mpr ?_; omega) | (intro q; have q2 := inA_iff.mp q; omega) | (intro q; omega) | (refine ⟨?_, ?_⟩ <;> rw [nI_int (by omega)] <;> omega) | (rw [nI_int (by omega)]; omega) | (intro q; rw [nI_int (by omega)] at q; omega) | (refine ⟨?_, ?_, ?_⟩ <;> omega) | (intro q; obtain ⟨q1, q2, q3⟩ := q; omega) | fail)] | rw [if_neg (by first | assumption | omega | (refine inA_iff.mpr ?_; omega) | (intro q; have q2 := inA_iff.mp q; omega) | (intro q; omega) | (refine ⟨?_, ?_⟩ <;> rw [nI_int (by omega)] <;> omega) | (rw [nI_int (by omega)]; omega) | (intro q; rw [nI_int (by omega)] at q; omega) | (refine ⟨?_, ?_, ?_⟩ <;> omega) | (intro q; obtain ⟨q1, q2, q3⟩ := q; omega) | fail)])) <;> rfl
                      rw [e, e2]
                      exact ⟨rfl, (TrM.lv (TrM.lv (TrM.lv (TrM.lv (TrM.lv TrM.nil (by decide)) (by decide)) (by decide)) (by decide)) (by decide)), (lv1_only (lv1_only (lv1_only (lv1_only (lv1_only (Only.up Only.rfl_ (Or.inl ⟨rfl, rfl⟩)))))))⟩)
        · have h7 : r = 0 := nI_eq_ (by omega) (by omega) (Decidable.byContradiction h7)
          refine WP.run (pc' := 32) (L' := [.ref 271, .int (nI s), .int (nI r)]) (st' := [.int (nI s), .ref 271]) (I1 := (upN I 271 19 (nI 0))) 2 rfl ?_
          refine WP.callV (rest := []) rfl rfl (ms_sizeOf_5 (d := d + 1) (m := 0) (s := s) (T0.out hM (Or.inl (by decide))) hN hs upN_s (by omega) hz) ?_
          refine WP.run (pc' := 43) (L' := [.ref 271, .int (nI s), .int (nI r)]) (st' := [.int ((nI 2) * ((nI (N (15 + s))) - (nI 100)))]) (I1 := (lv1 (lv1 (lv1 (upN I 271 19 (nI 0)) 0 14) (0 + 1) 13) (0 + 1 + 1) 10)) 1 rfl ?_
          exact WP.ret rfl rfl (by
                      have e : aAsk N (nI s) (nI r) = ((nI 2) * ((nI (N (15 + s))) - (nI 100))) := by (unfold aAsk askA; (repeat rw [nOf_nI (by omega)]); (repeat first | rw [if_pos (by first | assumption | omega | (refine inA_iff.mpr ?_; omega) | (intro q; have q2 := inA_iff.mp q; omega) | (intro q; omega) | (refine ⟨?_, ?_⟩ <;> rw [nI_int (by omega)] <;> omega) | (rw [nI_int (by omega)]; omega) | (intro q; rw [nI_int (by omega)] at q; omega) | (refine ⟨?_, ?_, ?_⟩ <;> omega) | (intro q; obtain ⟨q1, q2, q3⟩ := q; omega) | fail)] | rw [if_neg (by first | assumption | omega | (refine inA_iff.mpr ?_; omega) | (intro q; have q2 := inA_iff.mp q; omega) | (intro q; omega) | (refine ⟨?_, ?_⟩ <;> rw [nI_int (by omega)] <;> omega) | (rw [nI_int (by omega)]; omega) | (intro q; rw [nI_int (by omega)] at q; omega) | (refine ⟨?_, ?_, ?_⟩ <;> omega) | (intro q; obtain ⟨q1, q2, q3⟩ := q; omega) | fail)])) <;> rfl
                      have e2 : tAsk N l (nI s) (nI r) = [14, 13, 10] := by (unfold tAsk askB; (repeat rw [nOf_nI (by omega)]); (repeat first | rw [if_pos (by first | assumption | omega | (refine inA_iff.mpr ?_; omega) | (intro q; have q2 := inA_iff.mp q; omega) | (intro q; omega) | (refine ⟨?_, ?_⟩ <;> rw [nI_int (by omega)] <;> omega) | (rw [nI_int (by omega)]; omega) | (intro q; rw [nI_int (by omega)] at q; omega) | (refine ⟨?_, ?_, ?_⟩ <;> omega) | (intro q; obtain ⟨q1, q2, q3⟩ := q; omega) | fail)] | rw [if_neg (by first | assumption | omega | (refine inA_iff.mpr ?_; omega) | (intro q; have q2 := inA_iff.mp q; omega) | (intro q; omega) | (refine ⟨?_, ?_⟩ <;> rw [nI_int (by omega)] <;> omega) | (rw [nI_int (by omega)]; omega) | (intro q; rw [nI_int (by omega)] at q; omega) | (refine ⟨?_, ?_, ?_⟩ <;> omega) | (intro q; obtain ⟨q1, q2, q3⟩ := q; omega) | fail)])) <;> rfl
                      rw [e, e2]
                      exact ⟨rfl, (TrM.lv (TrM.lv (TrM.lv TrM.nil (by decide)) (by decide)) (by decide)), (lv1_only (lv1_only (lv1_only (Only.up Only.rfl_ (Or.inl ⟨rfl, rfl⟩)))))⟩)
    · refine WP.run (pc' := 20) (L' := [.ref 271, .int (nI s), .int w]) (st' := [.int (-1000001)]) (I1 := I) 2 rfl ?_
      exact WP.ret rfl rfl (by
              have e : aAsk N (nI s) w = (-1000001) := by (unfold aAsk; (repeat first | rw [if_pos (by first | assumption | omega | (refine inA_iff.mpr ?_; omega) | (intro q; have q2 := inA_iff.mp q; omega) | (intro q; omega) | (refine ⟨?_, ?_⟩ <;> rw [nI_int (by omega)] <;> omega) | (rw [nI_int (by omega)]; omega) | (intro q; rw [nI_int (by omega)] at q; omega) | (refine ⟨?_, ?_, ?_⟩ <;> omega) | (intro q; obtain ⟨q1, q2, q3⟩ := q; omega) | fail)] | rw [if_neg (by first | assumption | omega | (refine inA_iff.mpr ?_; omega) | (intro q; have q2 := inA_iff.mp q; omega) | (intro q; omega) | (refine ⟨?_, ?_⟩ <;> rw [nI_int (by omega)] <;> omega) | (rw [nI_int (by omega)]; omega) | (intro q; rw [nI_int (by omega)] at q; omega) | (refine ⟨?_, ?_, ?_⟩ <;> omega) | (intro q; obtain ⟨q1, q2, q3⟩ := q; omega) | fail)])) <;> rfl
              have e2 : tAsk N l (nI s) w = l := by (unfold tAsk; (repeat first | rw [if_pos (by first | assumption | omega | (refine inA_iff.mpr ?_; omega) | (intro q; have q2 := inA_iff.mp q; omega) | (intro q; omega) | (refine ⟨?_, ?_⟩ <;> rw [nI_int (by omega)] <;> omega) | (rw [nI_int (by omega)]; omega) | (intro q; rw [nI_int (by omega)] at q; omega) | (refine ⟨?_, ?_, ?_⟩ <;> omega) | (intro q; obtain ⟨q1, q2, q3⟩ := q; omega) | fail)] | rw [if_neg (by first | assumption | omega | (refine inA_iff.mpr ?_; omega) | (intro q; have q2 := inA_iff.mp q; omega) | (intro q; omega) | (refine ⟨?_, ?_⟩ <;> rw [nI_int (by omega)] <;> omega) | (rw [nI_int (by omega)]; omega) | (intro q; rw [nI_int (by omega)] at q; omega) | (refine ⟨?_, ?_, ?_⟩ <;> omega) | (intro q; obtain ⟨q1, q2, q3⟩ := q; omega) | fail)])) <;> rfl
              rw [e, e2]
              exact ⟨rfl, hL, Only.rfl_⟩)
  · refine WP.run (pc' := 20) (L' := [.ref 271, .int x, .int w]) (st' := [.int (-1000001)]) (I1 := I) 2 rfl ?_
    exact WP.ret rfl rfl (by
          have e : aAsk N x w = (-1000001) := by (unfold aAsk; (repeat first | rw [if_pos (by first | assumption | omega | (refine inA_iff.mpr ?_; omega) | (intro q; have q2 := inA_iff.mp q; omega) | (intro q; omega) | (refine ⟨?_, ?_⟩ <;> rw [nI_int (by omega)] <;> omega) | (rw [nI_int (by omega)]; omega) | (intro q; rw [nI_int (by omega)] at q; omega) | (refine ⟨?_, ?_, ?_⟩ <;> omega) | (intro q; obtain ⟨q1, q2, q3⟩ := q; omega) | fail)] | rw [if_neg (by first | assumption | omega | (refine inA_iff.mpr ?_; omega) | (intro q; have q2 := inA_iff.mp q; omega) | (intro q; omega) | (refine ⟨?_, ?_⟩ <;> rw [nI_int (by omega)] <;> omega) | (rw [nI_int (by omega)]; omega) | (intro q; rw [nI_int (by omega)] at q; omega) | (refine ⟨?_, ?_, ?_⟩ <;> omega) | (intro q; obtain ⟨q1, q2, q3⟩ := q; omega) | fail)])) <;> rfl
          have e2 : tAsk N l x w = l := by (unfold tAsk; (repeat first | rw [if_pos (by first | assumption | omega | (refine inA_iff.mpr ?_; omega) | (intro q; have q2 := inA_iff.mp q; omega) | (intro q; omega) | (refine ⟨?_, ?_⟩ <;> rw [nI_int (by omega)] <;> omega) | (rw [nI_int (by omega)]; omega) | (intro q; rw [nI_int (by omega)] at q; omega) | (refine ⟨?_, ?_, ?_⟩ <;> omega) | (intro q; obtain ⟨q1, q2, q3⟩ := q; omega) | fail)] | rw [if_neg (by first | assumption | omega | (refine inA_iff.mpr ?_; omega) | (intro q; have q2 := inA_iff.mp q; omega) | (intro q; omega) | (refine ⟨?_, ?_⟩ <;> rw [nI_int (by omega)] <;> omega) | (rw [nI_int (by omega)]; omega) | (intro q; rw [nI_int (by omega)] at q; omega) | (refine ⟨?_, ?_, ?_⟩ <;> omega) | (intro q; obtain ⟨q1, q2, q3⟩ := q; omega) | fail)])) <;> rfl
          rw [e, e2]
          exact ⟨rfl, hL, Only.rfl_⟩)
