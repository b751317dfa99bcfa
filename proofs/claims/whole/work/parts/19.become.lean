/-! one tower becomes another -/
def becF (I : Pl) (a b : Nat) : Pl := upN (upN (upN (upN (upN (upN (upN (upN (upN I a 0 (I b 0)) a 1 (I b 1)) a 2 (I b 2)) a 3 (I b 3)) a 4 (I b 4)) a 5 (I b 5)) a 6 (I b 6)) a 7 (I b 7)) a 8 (I b 8)
def becN (I : Pl) (a b : Nat) : Pl := cpy (cpy (cpy (cpy (cpy (cpy (cpy (becF I a b) (b + 1) (a + 1) 0 0 6) (b + 2) (a + 2) 0 0 6) (b + 3) (a + 3) 0 0 6) (b + 4) (a + 4) 0 0 5) (b + 5) (a + 5) 0 0 5) (b + 6) (a + 6) 0 0 5) (b + 7) (a + 7) 0 0 5
set_option maxRecDepth 100000 in
theorem sp_become_247_23 {d : Nat} {I : Pl} (hb : I 23 0 = 0 ∨ I 23 0 = 1) : Ev (d + 1) 2 [.ref 247, .ref 23] (mem I) (none) (mem (becN I 247 23)) := by
  refine Ev.only (EvX.enter rfl rfl rfl ?_)
  refine WP.run (pc' := 5) (L' := [.ref 247, .ref 23]) (st' := [.int (I 23 0), .ref 247]) (I1 := I) 3 rfl ?_
  refine WP.putB rfl rfl rfl rfl hb ?_
  refine WP.run (pc' := 84) (L' := [.ref 247, .ref 23]) (st' := [.int (nI 6), .int (nI 0), .ref 248, .int (nI 0), .ref 24]) (I1 := (upN (upN (upN (upN (upN (upN (upN (upN (upN I 247 0 (I 23 0)) 247 1 (I 23 1)) 247 2 (I 23 2)) 247 3 (I 23 3)) 247 4 (I 23 4)) 247 5 (I 23 5)) 247 6 (I 23 6)) 247 7 (I 23 7)) 247 8 (I 23 8))) 39 rfl ?_
  refine WP.copy rfl rfl rfl rfl rfl rfl (by omega) (by omega) (by decide) (by decide) ?_
  refine WP.run (pc' := 99) (L' := [.ref 247, .ref 23]) (st' := [.int (nI 6), .int (nI 0), .ref 249, .int (nI 0), .ref 25]) (I1 := (cpy (upN (upN (upN (upN (upN (upN (upN (upN (upN I 247 0 (I 23 0)) 247 1 (I 23 1)) 247 2 (I 23 2)) 247 3 (I 23 3)) 247 4 (I 23 4)) 247 5 (I 23 5)) 247 6 (I 23 6)) 247 7 (I 23 7)) 247 8 (I 23 8)) 24 248 0 0 6)) 7 rfl ?_
  refine WP.copy rfl rfl rfl rfl rfl rfl (by omega) (by omega) (by decide) (by decide) ?_
  refine WP.run (pc' := 114) (L' := [.ref 247, .ref 23]) (st' := [.int (nI 6), .int (nI 0), .ref 250, .int (nI 0), .ref 26]) (I1 := (cpy (cpy (upN (upN (upN (upN (upN (upN (upN (upN (upN I 247 0 (I 23 0)) 247 1 (I 23 1)) 247 2 (I 23 2)) 247 3 (I 23 3)) 247 4 (I 23 4)) 247 5 (I 23 5)) 247 6 (I 23 6)) 247 7 (I 23 7)) 247 8 (I 23 8)) 24 248 0 0 6) 25 249 0 0 6)) 7 rfl ?_
  refine WP.copy rfl rfl rfl rfl rfl rfl (by omega) (by omega) (by decide) (by decide) ?_
  refine WP.run (pc' := 128) (L' := [.ref 247, .ref 23]) (st' := [.int (nI 5), .int (nI 0), .ref 251, .int (nI 0), .ref 27]) (I1 := (cpy (cpy (cpy (upN (upN (upN (upN (upN (upN (upN (upN (upN I 247 0 (I 23 0)) 247 1 (I 23 1)) 247 2 (I 23 2)) 247 3 (I 23 3)) 247 4 (I 23 4)) 247 5 (I 23 5)) 247 6 (I 23 6)) 247 7 (I 23 7)) 247 8 (I 23 8)) 24 248 0 0 6) 25 249 0 0 6) 26 250 0 0 6)) 7 rfl ?_
  refine WP.copy rfl rfl rfl rfl rfl rfl (by omega) (by omega) (by decide) (by decide) ?_
  refine WP.run (pc' := 142) (L' := [.ref 247, .ref 23]) (st' := [.int (nI 5), .int (nI 0), .ref 252, .int (nI 0), .ref 28]) (I1 := (cpy (cpy (cpy (cpy (upN (upN (upN (upN (upN (upN (upN (upN (upN I 247 0 (I 23 0)) 247 1 (I 23 1)) 247 2 (I 23 2)) 247 3 (I 23 3)) 247 4 (I 23 4)) 247 5 (I 23 5)) 247 6 (I 23 6)) 247 7 (I 23 7)) 247 8 (I 23 8)) 24 248 0 0 6) 25 249 0 0 6) 26 250 0 0 6) 27 251 0 0 5)) 7 rfl ?_
  refine WP.copy rfl rfl rfl rfl rfl rfl (by omega) (by omega) (by decide) (by decide) ?_
  refine WP.run (pc' := 156) (L' := [.ref 247, .ref 23]) (st' := [.int (nI 5), .int (nI 0), .ref 253, .int (nI 0), .ref 29]) (I1 := (cpy (cpy (cpy (cpy (cpy (upN (upN (upN (upN (upN (upN (upN (upN (upN I 247 0 (I 23 0)) 247 1 (I 23 1)) 247 2 (I 23 2)) 247 3 (I 23 3)) 247 4 (I 23 4)) 247 5 (I 23 5)) 247 6 (I 23 6)) 247 7 (I 23 7)) 247 8 (I 23 8)) 24 248 0 0 6) 25 249 0 0 6) 26 250 0 0 6) 27 251 0 0 5) 28 252 0 0 5)) 7 rfl ?_
  refine WP.copy rfl rfl rfl rfl rfl rfl (by omega) (by omega) (by decide) (by decide) ?_
  refine WP.run (pc' := 170) (L' := [.ref 247, .ref 23]) (st' := [.int (nI 5), .int (nI 0), .ref 254, .int (nI 0), .ref 30]) (I1 := (cpy (cpy (cpy (cpy (cpy (cpy (upN (upN (upN (upN (upN (upN (upN (upN (upN I 247 0 (I 23 0)) 247 1 (I 23 1)) 247 2 (I 23 2)) 247 3 (I 23 3)) 247 4 (I 23 4)) 247 5 (I 23 5)) 247 6 (I 23 6)) 247 7 (I 23 7)) 247 8 (I 23 8)) 24 248 0 0 6) 25 249 0 0 6) 26 250 0 0 6) 27 251 0 0 5) 28 252 0 0 5) 29 253 0 0 5)) 7 rfl ?_
  refine WP.copy rfl rfl rfl rfl rfl rfl (by omega) (by omega) (by decide) (by decide) ?_
  exact WP.ret rfl rfl (⟨rfl, rfl⟩)
set_option maxRecDepth 100000 in
theorem sp_become_23_15 {d : Nat} {I : Pl} (hb : I 15 0 = 0 ∨ I 15 0 = 1) : Ev (d + 1) 2 [.ref 23, .ref 15] (mem I) (none) (mem (becN I 23 15)) := by
  refine Ev.only (EvX.enter rfl rfl rfl ?_)
  refine WP.run (pc' := 5) (L' := [.ref 23, .ref 15]) (st' := [.int (I 15 0), .ref 23]) (I1 := I) 3 rfl ?_
  refine WP.putB rfl rfl rfl rfl hb ?_
  refine WP.run (pc' := 84) (L' := [.ref 23, .ref 15]) (st' := [.int (nI 6), .int (nI 0), .ref 24, .int (nI 0), .ref 16]) (I1 := (upN (upN (upN (upN (upN (upN (upN (upN (upN I 23 0 (I 15 0)) 23 1 (I 15 1)) 23 2 (I 15 2)) 23 3 (I 15 3)) 23 4 (I 15 4)) 23 5 (I 15 5)) 23 6 (I 15 6)) 23 7 (I 15 7)) 23 8 (I 15 8))) 39 rfl ?_
  refine WP.copy rfl rfl rfl rfl rfl rfl (by omega) (by omega) (by decide) (by decide) ?_
  refine WP.run (pc' := 99) (L' := [.ref 23, .ref 15]) (st' := [.int (nI 6), .int (nI 0), .ref 25, .int (nI 0), .ref 17]) (I1 := (cpy (upN (upN (upN (upN (upN (upN (upN (upN (upN I 23 0 (I 15 0)) 23 1 (I 15 1)) 23 2 (I 15 2)) 23 3 (I 15 3)) 23 4 (I 15 4)) 23 5 (I 15 5)) 23 6 (I 15 6)) 23 7 (I 15 7)) 23 8 (I 15 8)) 16 24 0 0 6)) 7 rfl ?_
  refine WP.copy rfl rfl rfl rfl rfl rfl (by omega) (by omega) (by decide) (by decide) ?_
  refine WP.run (pc' := 114) (L' := [.ref 23, .ref 15]) (st' := [.int (nI 6), .int (nI 0), .ref 26, .int (nI 0), .ref 18]) (I1 := (cpy (cpy (upN (upN (upN (upN (upN (upN (upN (upN (upN I 23 0 (I 15 0)) 23 1 (I 15 1)) 23 2 (I 15 2)) 23 3 (I 15 3)) 23 4 (I 15 4)) 23 5 (I 15 5)) 23 6 (I 15 6)) 23 7 (I 15 7)) 23 8 (I 15 8)) 16 24 0 0 6) 17 25 0 0 6)) 7 rfl ?_
  refine WP.copy rfl rfl rfl rfl rfl rfl (by omega) (by omega) (by decide) (by decide) ?_
  refine WP.run (pc' := 128) (L' := [.ref 23, .ref 15]) (st' := [.int (nI 5), .int (nI 0), .ref 27, .int (nI 0), .ref 19]) (I1 := (cpy (cpy (cpy (upN (upN (upN (upN (upN (upN (upN (upN (upN I 23 0 (I 15 0)) 23 1 (I 15 1)) 23 2 (I 15 2)) 23 3 (I 15 3)) 23 4 (I 15 4)) 23 5 (I 15 5)) 23 6 (I 15 6)) 23 7 (I 15 7)) 23 8 (I 15 8)) 16 24 0 0 6) 17 25 0 0 6) 18 26 0 0 6)) 7 rfl ?_
  refine WP.copy rfl rfl rfl rfl rfl rfl (by omega) (by omega) (by decide) (by decide) ?_
  refine WP.run (pc' := 142) (L' := [.ref 23, .ref 15]) (st' := [.int (nI 5), .int (nI 0), .ref 28, .int (nI 0), .ref 20]) (I1 := (cpy (cpy (cpy (cpy (upN (upN (upN (upN (upN (upN (upN (upN (upN I 23 0 (I 15 0)) 23 1 (I 15 1)) 23 2 (I 15 2)) 23 3 (I 15 3)) 23 4 (I 15 4)) 23 5 (I 15 5)) 23 6 (I 15 6)) 23 7 (I 15 7)) 23 8 (I 15 8)) 16 24 0 0 6) 17 25 0 0 6) 18 26 0 0 6) 19 27 0 0 5)) 7 rfl ?_
  refine WP.copy rfl rfl rfl rfl rfl rfl (by omega) (by omega) (by decide) (by decide) ?_
  refine WP.run (pc' := 156) (L' := [.ref 23, .ref 15]) (st' := [.int (nI 5), .int (nI 0), .ref 29, .int (nI 0), .ref 21]) (I1 := (cpy (cpy (cpy (cpy (cpy (upN (upN (upN (upN (upN (upN (upN (upN (upN I 23 0 (I 15 0)) 23 1 (I 15 1)) 23 2 (I 15 2)) 23 3 (I 15 3)) 23 4 (I 15 4)) 23 5 (I 15 5)) 23 6 (I 15 6)) 23 7 (I 15 7)) 23 8 (I 15 8)) 16 24 0 0 6) 17 25 0 0 6) 18 26 0 0 6) 19 27 0 0 5) 20 28 0 0 5)) 7 rfl ?_
  refine WP.copy rfl rfl rfl rfl rfl rfl (by omega) (by omega) (by decide) (by decide) ?_
  refine WP.run (pc' := 170) (L' := [.ref 23, .ref 15]) (st' := [.int (nI 5), .int (nI 0), .ref 30, .int (nI 0), .ref 22]) (I1 := (cpy (cpy (cpy (cpy (cpy (cpy (upN (upN (upN (upN (upN (upN (upN (upN (upN I 23 0 (I 15 0)) 23 1 (I 15 1)) 23 2 (I 15 2)) 23 3 (I 15 3)) 23 4 (I 15 4)) 23 5 (I 15 5)) 23 6 (I 15 6)) 23 7 (I 15 7)) 23 8 (I 15 8)) 16 24 0 0 6) 17 25 0 0 6) 18 26 0 0 6) 19 27 0 0 5) 20 28 0 0 5) 21 29 0 0 5)) 7 rfl ?_
  refine WP.copy rfl rfl rfl rfl rfl rfl (by omega) (by omega) (by decide) (by decide) ?_
  exact WP.ret rfl rfl (⟨rfl, rfl⟩)
set_option maxRecDepth 100000 in
theorem sp_become_33_247 {d : Nat} {I : Pl} (hb : I 247 0 = 0 ∨ I 247 0 = 1) : Ev (d + 1) 2 [.ref 33, .ref 247] (mem I) (none) (mem (becN I 33 247)) := by
  refine Ev.only (EvX.enter rfl rfl rfl ?_)
  refine WP.run (pc' := 5) (L' := [.ref 33, .ref 247]) (st' := [.int (I 247 0), .ref 33]) (I1 := I) 3 rfl ?_
  refine WP.putB rfl rfl rfl rfl hb ?_
  refine WP.run (pc' := 84) (L' := [.ref 33, .ref 247]) (st' := [.int (nI 6), .int (nI 0), .ref 34, .int (nI 0), .ref 248]) (I1 := (upN (upN (upN (upN (upN (upN (upN (upN (upN I 33 0 (I 247 0)) 33 1 (I 247 1)) 33 2 (I 247 2)) 33 3 (I 247 3)) 33 4 (I 247 4)) 33 5 (I 247 5)) 33 6 (I 247 6)) 33 7 (I 247 7)) 33 8 (I 247 8))) 39 rfl ?_
  refine WP.copy rfl rfl rfl rfl rfl rfl (by omega) (by omega) (by decide) (by decide) ?_
  refine WP.run (pc' := 99) (L' := [.ref 33, .ref 247]) (st' := [.int (nI 6), .int (nI 0), .ref 35, .int (nI 0), .ref 249]) (I1 := (cpy (upN (upN (upN (upN (upN (upN (upN (upN (upN I 33 0 (I 247 0)) 33 1 (I 247 1)) 33 2 (I 247 2)) 33 3 (I 247 3)) 33 4 (I 247 4)) 33 5 (I 247 5)) 33 6 (I 247 6)) 33 7 (I 247 7)) 33 8 (I 247 8)) 248 34 0 0 6)) 7 rfl ?_
  refine WP.copy rfl rfl rfl rfl rfl rfl (by omega) (by omega) (by decide) (by decide) ?_
  refine WP.run (pc' := 114) (L' := [.ref 33, .ref 247]) (st' := [.int (nI 6), .int (nI 0), .ref 36, .int (nI 0), .ref 250]) (I1 := (cpy (cpy (upN (upN (upN (upN (upN (upN (upN (upN (upN I 33 0 (I 247 0)) 33 1 (I 247 1)) 33 2 (I 247 2)) 33 3 (I 247 3)) 33 4 (I 247 4)) 33 5 (I 247 5)) 33 6 (I 247 6)) 33 7 (I 247 7)) 33 8 (I 247 8)) 248 34 0 0 6) 249 35 0 0 6)) 7 rfl ?_
  refine WP.copy rfl rfl rfl rfl rfl rfl (by omega) (by omega) (by decide) (by decide) ?_
  refine WP.run (pc' := 128) (L' := [.ref 33, .ref 247]) (st' := [.int (nI 5), .int (nI 0), .ref 37, .int (nI 0), .ref 251]) (I1 := (cpy (cpy (cpy (upN (upN (upN (upN (upN (upN (upN (upN (upN I 33 0 (I 247 0)) 33 1 (I 247 1)) 33 2 (I 247 2)) 33 3 (I 247 3)) 33 4 (I 247 4)) 33 5 (I 247 5)) 33 6 (I 247 6)) 33 7 (I 247 7)) 33 8 (I 247 8)) 248 34 0 0 6) 249 35 0 0 6) 250 36 0 0 6)) 7 rfl ?_
  refine WP.copy rfl rfl rfl rfl rfl rfl (by omega) (by omega) (by decide) (by decide) ?_
  refine WP.run (pc' := 142) (L' := [.ref 33, .ref 247]) (st' := [.int (nI 5), .int (nI 0), .ref 38, .int (nI 0), .ref 252]) (I1 := (cpy (cpy (cpy (cpy (upN (upN (upN (upN (upN (upN (upN (upN (upN I 33 0 (I 247 0)) 33 1 (I 247 1)) 33 2 (I 247 2)) 33 3 (I 247 3)) 33 4 (I 247 4)) 33 5 (I 247 5)) 33 6 (I 247 6)) 33 7 (I 247 7)) 33 8 (I 247 8)) 248 34 0 0 6) 249 35 0 0 6) 250 36 0 0 6) 251 37 0 0 5)) 7 rfl ?_
  refine WP.copy rfl rfl rfl rfl rfl rfl (by omega) (by omega) (by decide) (by decide) ?_
  refine WP.run (pc' := 156) (L' := [.ref 33, .ref 247]) (st' := [.int (nI 5), .int (nI 0), .ref 39, .int (nI 0), .ref 253]) (I1 := (cpy (cpy (cpy (cpy (cpy (upN (upN (upN (upN (upN (upN (upN (upN (upN I 33 0 (I 247 0)) 33 1 (I 247 1)) 33 2 (I 247 2)) 33 3 (I 247 3)) 33 4 (I 247 4)) 33 5 (I 247 5)) 33 6 (I 247 6)) 33 7 (I 247 7)) 33 8 (I 247 8)) 248 34 0 0 6) 249 35 0 0 6) 250 36 0 0 6) 251 37 0 0 5) 252 38 0 0 5)) 7 rfl ?_
  refine WP.copy rfl rfl rfl rfl rfl rfl (by omega) (by omega) (by decide) (by decide) ?_
  refine WP.run (pc' := 170) (L' := [.ref 33, .ref 247]) (st' := [.int (nI 5), .int (nI 0), .ref 40, .int (nI 0), .ref 254]) (I1 := (cpy (cpy (cpy (cpy (cpy (cpy (upN (upN (upN (upN (upN (upN (upN (upN (upN I 33 0 (I 247 0)) 33 1 (I 247 1)) 33 2 (I 247 2)) 33 3 (I 247 3)) 33 4 (I 247 4)) 33 5 (I 247 5)) 33 6 (I 247 6)) 33 7 (I 247 7)) 33 8 (I 247 8)) 248 34 0 0 6) 249 35 0 0 6) 250 36 0 0 6) 251 37 0 0 5) 252 38 0 0 5) 253 39 0 0 5)) 7 rfl ?_
  refine WP.copy rfl rfl rfl rfl rfl rfl (by omega) (by omega) (by decide) (by decide) ?_
  exact WP.ret rfl rfl (⟨rfl, rfl⟩)
set_option maxRecDepth 100000 in
theorem sp_become_41_247 {d : Nat} {I : Pl} (hb : I 247 0 = 0 ∨ I 247 0 = 1) : Ev (d + 1) 2 [.ref 41, .ref 247] (mem I) (none) (mem (becN I 41 247)) := by
  refine Ev.only (EvX.enter rfl rfl rfl ?_)
  refine WP.run (pc' := 5) (L' := [.ref 41, .ref 247]) (st' := [.int (I 247 0), .ref 41]) (I1 := I) 3 rfl ?_
  refine WP.putB rfl rfl rfl rfl hb ?_
  refine WP.run (pc' := 84) (L' := [.ref 41, .ref 247]) (st' := [.int (nI 6), .int (nI 0), .ref 42, .int (nI 0), .ref 248]) (I1 := (upN (upN (upN (upN (upN (upN (upN (upN (upN I 41 0 (I 247 0)) 41 1 (I 247 1)) 41 2 (I 247 2)) 41 3 (I 247 3)) 41 4 (I 247 4)) 41 5 (I 247 5)) 41 6 (I 247 6)) 41 7 (I 247 7)) 41 8 (I 247 8))) 39 rfl ?_
  refine WP.copy rfl rfl rfl rfl rfl rfl (by omega) (by omega) (by decide) (by decide) ?_
  refine WP.run (pc' := 99) (L' := [.ref 41, .ref 247]) (st' := [.int (nI 6), .int (nI 0), .ref 43, .int (nI 0), .ref 249]) (I1 := (cpy (upN (upN (upN (upN (upN (upN (upN (upN (upN I 41 0 (I 247 0)) 41 1 (I 247 1)) 41 2 (I 247 2)) 41 3 (I 247 3)) 41 4 (I 247 4)) 41 5 (I 247 5)) 41 6 (I 247 6)) 41 7 (I 247 7)) 41 8 (I 247 8)) 248 42 0 0 6)) 7 rfl ?_
  refine WP.copy rfl rfl rfl rfl rfl rfl (by omega) (by omega) (by decide) (by decide) ?_
  refine WP.run (pc' := 114) (L' := [.ref 41, .ref 247]) (st' := [.int (nI 6), .int (nI 0), .ref 44, .int (nI 0), .ref 250]) (I1 := (cpy (cpy (upN (upN (upN (upN (upN (upN (upN (upN (upN I 41 0 (I 247 0)) 41 1 (I 247 1)) 41 2 (I 247 2)) 41 3 (I 247 3)) 41 4 (I 247 4)) 41 5 (I 247 5)) 41 6 (I 247 6)) 41 7 (I 247 7)) 41 8 (I 247 8)) 248 42 0 0 6) 249 43 0 0 6)) 7 rfl ?_
  refine WP.copy rfl rfl rfl rfl rfl rfl (by omega) (by omega) (by decide) (by decide) ?_
  refine WP.run (pc' := 128) (L' := [.ref 41, .ref 247]) (st' := [.int (nI 5), .int (nI 0), .ref 45, .int (nI 0), .ref 251]) (I1 := (cpy (cpy (cpy (upN (upN (upN (upN (upN (upN (upN (upN (upN I 41 0 (I 247 0)) 41 1 (I 247 1)) 41 2 (I 247 2)) 41 3 (I 247 3)) 41 4 (I 247 4)) 41 5 (I 247 5)) 41 6 (I 247 6)) 41 7 (I 247 7)) 41 8 (I 247 8)) 248 42 0 0 6) 249 43 0 0 6) 250 44 0 0 6)) 7 rfl ?_
  refine WP.copy rfl rfl rfl rfl rfl rfl (by omega) (by omega) (by decide) (by decide) ?_
  refine WP.run (pc' := 142) (L' := [.ref 41, .ref 247]) (st' := [.int (nI 5), .int (nI 0), .ref 46, .int (nI 0), .ref 252]) (I1 := (cpy (cpy (cpy (cpy (upN (upN (upN (upN (upN (upN (upN (upN (upN I 41 0 (I 247 0)) 41 1 (I 247 1)) 41 2 (I 247 2)) 41 3 (I 247 3)) 41 4 (I 247 4)) 41 5 (I 247 5)) 41 6 (I 247 6)) 41 7 (I 247 7)) 41 8 (I 247 8)) 248 42 0 0 6) 249 43 0 0 6) 250 44 0 0 6) 251 45 0 0 5)) 7 rfl ?_
  refine WP.copy rfl rfl rfl rfl rfl rfl (by omega) (by omega) (by decide) (by decide) ?_
  refine WP.run (pc' := 156) (L' := [.ref 41, .ref 247]) (st' := [.int (nI 5), .int (nI 0), .ref 47, .int (nI 0), .ref 253]) (I1 := (cpy (cpy (cpy (cpy (cpy (upN (upN (upN (upN (upN (upN (upN (upN (upN I 41 0 (I 247 0)) 41 1 (I 247 1)) 41 2 (I 247 2)) 41 3 (I 247 3)) 41 4 (I 247 4)) 41 5 (I 247 5)) 41 6 (I 247 6)) 41 7 (I 247 7)) 41 8 (I 247 8)) 248 42 0 0 6) 249 43 0 0 6) 250 44 0 0 6) 251 45 0 0 5) 252 46 0 0 5)) 7 rfl ?_
  refine WP.copy rfl rfl rfl rfl rfl rfl (by omega) (by omega) (by decide) (by decide) ?_
  refine WP.run (pc' := 170) (L' := [.ref 41, .ref 247]) (st' := [.int (nI 5), .int (nI 0), .ref 48, .int (nI 0), .ref 254]) (I1 := (cpy (cpy (cpy (cpy (cpy (cpy (upN (upN (upN (upN (upN (upN (upN (upN (upN I 41 0 (I 247 0)) 41 1 (I 247 1)) 41 2 (I 247 2)) 41 3 (I 247 3)) 41 4 (I 247 4)) 41 5 (I 247 5)) 41 6 (I 247 6)) 41 7 (I 247 7)) 41 8 (I 247 8)) 248 42 0 0 6) 249 43 0 0 6) 250 44 0 0 6) 251 45 0 0 5) 252 46 0 0 5) 253 47 0 0 5)) 7 rfl ?_
  refine WP.copy rfl rfl rfl rfl rfl rfl (by omega) (by omega) (by decide) (by decide) ?_
  exact WP.ret rfl rfl (⟨rfl, rfl⟩)
set_option maxRecDepth 100000 in
theorem sp_become_49_247 {d : Nat} {I : Pl} (hb : I 247 0 = 0 ∨ I 247 0 = 1) : Ev (d + 1) 2 [.ref 49, .ref 247] (mem I) (none) (mem (becN I 49 247)) := by
  refine Ev.only (EvX.enter rfl rfl rfl ?_)
  refine WP.run (pc' := 5) (L' := [.ref 49, .ref 247]) (st' := [.int (I 247 0), .ref 49]) (I1 := I) 3 rfl ?_
  refine WP.putB rfl rfl rfl rfl hb ?_
  refine WP.run (pc' := 84) (L' := [.ref 49, .ref 247]) (st' := [.int (nI 6), .int (nI 0), .ref 50, .int (nI 0), .ref 248]) (I1 := (upN (upN (upN (upN (upN (upN (upN (upN (upN I 49 0 (I 247 0)) 49 1 (I 247 1)) 49 2 (I 247 2)) 49 3 (I 247 3)) 49 4 (I 247 4)) 49 5 (I 247 5)) 49 6 (I 247 6)) 49 7 (I 247 7)) 49 8 (I 247 8))) 39 rfl ?_
  refine WP.copy rfl rfl rfl rfl rfl rfl (by omega) (by omega) (by decide) (by decide) ?_
  refine WP.run (pc' := 99) (L' := [.ref 49, .ref 247]) (st' := [.int (nI 6), .int (nI 0), .ref 51, .int (nI 0), .ref 249]) (I1 := (cpy (upN (upN (upN (upN (upN (upN (upN (upN (upN I 49 0 (I 247 0)) 49 1 (I 247 1)) 49 2 (I 247 2)) 49 3 (I 247 3)) 49 4 (I 247 4)) 49 5 (I 247 5)) 49 6 (I 247 6)) 49 7 (I 247 7)) 49 8 (I 247 8)) 248 50 0 0 6)) 7 rfl ?_
  refine WP.copy rfl rfl rfl rfl rfl rfl (by omega) (by omega) (by decide) (by decide) ?_
  refine WP.run (pc' := 114) (L' := [.ref 49, .ref 247]) (st' := [.int (nI 6), .int (nI 0), .ref 52, .int (nI 0), .ref 250]) (I1 := (cpy (cpy (upN (upN (upN (upN (upN (upN (upN (upN (upN I 49 0 (I 247 0)) 49 1 (I 247 1)) 49 2 (I 247 2)) 49 3 (I 247 3)) 49 4 (I 247 4)) 49 5 (I 247 5)) 49 6 (I 247 6)) 49 7 (I 247 7)) 49 8 (I 247 8)) 248 50 0 0 6) 249 51 0 0 6)) 7 rfl ?_
  refine WP.copy rfl rfl rfl rfl rfl rfl (by omega) (by omega) (by decide) (by decide) ?_
  refine WP.run (pc' := 128) (L' := [.ref 49, .ref 247]) (st' := [.int (nI 5), .int (nI 0), .ref 53, .int (nI 0), .ref 251]) (I1 := (cpy (cpy (cpy (upN (upN (upN (upN (upN (upN (upN (upN (upN I 49 0 (I 247 0)) 49 1 (I 247 1)) 49 2 (I 247 2)) 49 3 (I 247 3)) 49 4 (I 247 4)) 49 5 (I 247 5)) 49 6 (I 247 6)) 49 7 (I 247 7)) 49 8 (I 247 8)) 248 50 0 0 6) 249 51 0 0 6) 250 52 0 0 6)) 7 rfl ?_
  refine WP.copy rfl rfl rfl rfl rfl rfl (by omega) (by omega) (by decide) (by decide) ?_
  refine WP.run (pc' := 142) (L' := [.ref 49, .ref 247]) (st' := [.int (nI 5), .int (nI 0), .ref 54, .int (nI 0), .ref 252]) (I1 := (cpy (cpy (cpy (cpy (upN (upN (upN (upN (upN (upN (upN (upN (upN I 49 0 (I 247 0)) 49 1 (I 247 1)) 49 2 (I 247 2)) 49 3 (I 247 3)) 49 4 (I 247 4)) 49 5 (I 247 5)) 49 6 (I 247 6)) 49 7 (I 247 7)) 49 8 (I 247 8)) 248 50 0 0 6) 249 51 0 0 6) 250 52 0 0 6) 251 53 0 0 5)) 7 rfl ?_
  refine WP.copy rfl rfl rfl rfl rfl rfl (by omega) (by omega) (by decide) (by decide) ?_
  refine WP.run (pc' := 156) (L' := [.ref 49, .ref 247]) (st' := [.int (nI 5), .int (nI 0), .ref 55, .int (nI 0), .ref 253]) (I1 := (cpy (cpy (cpy (cpy (cpy (upN (upN (upN (upN (upN (upN (upN (upN (upN I 49 0 (I 247 0)) 49 1 (I 247 1)) 49 2 (I 247 2)) 49 3 (I 247 3)) 49 4 (I 247 4)) 49 5 (I 247 5)) 49 6 (I 247 6)) 49 7 (I 247 7)) 49 8 (I 247 8)) 248 50 0 0 6) 249 51 0 0 6) 250 52 0 0 6) 251 53 0 0 5) 252 54 0 0 5)) 7 rfl ?_
  refine WP.copy rfl rfl rfl rfl rfl rfl (by omega) (by omega) (by decide) (by decide) ?_
  refine WP.run (pc' := 170) (L' := [.ref 49, .ref 247]) (st' := [.int (nI 5), .int (nI 0), .ref 56, .int (nI 0), .ref 254]) (I1 := (cpy (cpy (cpy (cpy (cpy (cpy (upN (upN (upN (upN (upN (upN (upN (upN (upN I 49 0 (I 247 0)) 49 1 (I 247 1)) 49 2 (I 247 2)) 49 3 (I 247 3)) 49 4 (I 247 4)) 49 5 (I 247 5)) 49 6 (I 247 6)) 49 7 (I 247 7)) 49 8 (I 247 8)) 248 50 0 0 6) 249 51 0 0 6) 250 52 0 0 6) 251 53 0 0 5) 252 54 0 0 5) 253 55 0 0 5)) 7 rfl ?_
  refine WP.copy rfl rfl rfl rfl rfl rfl (by omega) (by omega) (by decide) (by decide) ?_
  exact WP.ret rfl rfl (⟨rfl, rfl⟩)
set_option maxRecDepth 100000 in
theorem sp_become_57_247 {d : Nat} {I : Pl} (hb : I 247 0 = 0 ∨ I 247 0 = 1) : Ev (d + 1) 2 [.ref 57, .ref 247] (mem I) (none) (mem (becN I 57 247)) := by
  refine Ev.only (EvX.enter rfl rfl rfl ?_)
  refine WP.run (pc' := 5) (L' := [.ref 57, .ref 247]) (st' := [.int (I 247 0), .ref 57]) (I1 := I) 3 rfl ?_
  refine WP.putB rfl rfl rfl rfl hb ?_
  refine WP.run (pc' := 84) (L' := [.ref 57, .ref 247]) (st' := [.int (nI 6), .int (nI 0), .ref 58, .int (nI 0), .ref 248]) (I1 := (upN (upN (upN (upN (upN (upN (upN (upN (upN I 57 0 (I 247 0)) 57 1 (I 247 1)) 57 2 (I 247 2)) 57 3 (I 247 3)) 57 4 (I 247 4)) 57 5 (I 247 5)) 57 6 (I 247 6)) 57 7 (I 247 7)) 57 8 (I 247 8))) 39 rfl ?_
  refine WP.copy rfl rfl rfl rfl rfl rfl (by omega) (by omega) (by decide) (by decide) ?_
  refine WP.run (pc' := 99) (L' := [.ref 57, .ref 247]) (st' := [.int (nI 6), .int (nI 0), .ref 59, .int (nI 0), .ref 249]) (I1 := (cpy (upN (upN (upN (upN (upN (upN (upN (upN (upN I 57 0 (I 247 0)) 57 1 (I 247 1)) 57 2 (I 247 2)) 57 3 (I 247 3)) 57 4 (I 247 4)) 57 5 (I 247 5)) 57 6 (I 247 6)) 57 7 (I 247 7)) 57 8 (I 247 8)) 248 58 0 0 6)) 7 rfl ?_
  refine WP.copy rfl rfl rfl rfl rfl rfl (by omega) (by omega) (by decide) (by decide) ?_
  refine WP.run (pc' := 114) (L' := [.ref 57, .ref 247]) (st' := [.int (nI 6), .int (nI 0), .ref 60, .int (nI 0), .ref 250]) (I1 := (cpy (cpy (upN (upN (upN (upN (upN (upN (upN (upN (upN I 57 0 (I 247 0)) 57 1 (I 247 1)) 57 2 (I 247 2)) 57 3 (I 247 3)) 57 4 (I 247 4)) 57 5 (I 247 5)) 57 6 (I 247 6)) 57 7 (I 247 7)) 57 8 (I 247 8)) 248 58 0 0 6) 249 59 0 0 6)) 7 rfl ?_
  refine WP.copy rfl rfl rfl rfl rfl rfl (by omega) (by omega) (by decide) (by decide) ?_
  refine WP.run (pc' := 128) (L' := [.ref 57, .ref 247]) (st' := [.int (nI 5), .int (nI 0), .ref 61, .int (nI 0), .ref 251]) (I1 := (cpy (cpy (cpy (upN (upN (upN (upN (upN (upN (upN (upN (upN I 57 0 (I 247 0)) 57 1 (I 247 1)) 57 2 (I 247 2)) 57 3 (I 247 3)) 57 4 (I 247 4)) 57 5 (I 247 5)) 57 6 (I 247 6)) 57 7 (I 247 7)) 57 8 (I 247 8)) 248 58 0 0 6) 249 59 0 0 6) 250 60 0 0 6)) 7 rfl ?_
  refine WP.copy rfl rfl rfl rfl rfl rfl (by omega) (by omega) (by decide) (by decide) ?_
  refine WP.run (pc' := 142) (L' := [.ref 57, .ref 247]) (st' := [.int (nI 5), .int (nI 0), .ref 62, .int (nI 0), .ref 252]) (I1 := (cpy (cpy (cpy (cpy (upN (upN (upN (upN (upN (upN (upN (upN (upN I 57 0 (I 247 0)) 57 1 (I 247 1)) 57 2 (I 247 2)) 57 3 (I 247 3)) 57 4 (I 247 4)) 57 5 (I 247 5)) 57 6 (I 247 6)) 57 7 (I 247 7)) 57 8 (I 247 8)) 248 58 0 0 6) 249 59 0 0 6) 250 60 0 0 6) 251 61 0 0 5)) 7 rfl ?_
  refine WP.copy rfl rfl rfl rfl rfl rfl (by omega) (by omega) (by decide) (by decide) ?_
  refine WP.run (pc' := 156) (L' := [.ref 57, .ref 247]) (st' := [.int (nI 5), .int (nI 0), .ref 63, .int (nI 0), .ref 253]) (I1 := (cpy (cpy (cpy (cpy (cpy (upN (upN (upN (upN (upN (upN (upN (upN (upN I 57 0 (I 247 0)) 57 1 (I 247 1)) 57 2 (I 247 2)) 57 3 (I 247 3)) 57 4 (I 247 4)) 57 5 (I 247 5)) 57 6 (I 247 6)) 57 7 (I 247 7)) 57 8 (I 247 8)) 248 58 0 0 6) 249 59 0 0 6) 250 60 0 0 6) 251 61 0 0 5) 252 62 0 0 5)) 7 rfl ?_
  refine WP.copy rfl rfl rfl rfl rfl rfl (by omega) (by omega) (by decide) (by decide) ?_
  refine WP.run (pc' := 170) (L' := [.ref 57, .ref 247]) (st' := [.int (nI 5), .int (nI 0), .ref 64, .int (nI 0), .ref 254]) (I1 := (cpy (cpy (cpy (cpy (cpy (cpy (upN (upN (upN (upN (upN (upN (upN (upN (upN I 57 0 (I 247 0)) 57 1 (I 247 1)) 57 2 (I 247 2)) 57 3 (I 247 3)) 57 4 (I 247 4)) 57 5 (I 247 5)) 57 6 (I 247 6)) 57 7 (I 247 7)) 57 8 (I 247 8)) 248 58 0 0 6) 249 59 0 0 6) 250 60 0 0 6) 251 61 0 0 5) 252 62 0 0 5) 253 63 0 0 5)) 7 rfl ?_
  refine WP.copy rfl rfl rfl rfl rfl rfl (by omega) (by omega) (by decide) (by decide) ?_
  exact WP.ret rfl rfl (⟨rfl, rfl⟩)
set_option maxRecDepth 100000 in
theorem sp_become_65_247 {d : Nat} {I : Pl} (hb : I 247 0 = 0 ∨ I 247 0 = 1) : Ev (d + 1) 2 [.ref 65, .ref 247] (mem I) (none) (mem (becN I 65 247)) := by
  refine Ev.only (EvX.enter rfl rfl rfl ?_)
  refine WP.run (pc' := 5) (L' := [.ref 65, .ref 247]) (st' := [.int (I 247 0), .ref 65]) (I1 := I) 3 rfl ?_
  refine WP.putB rfl rfl rfl rfl hb ?_
  refine WP.run (pc' := 84) (L' := [.ref 65, .ref 247]) (st' := [.int (nI 6), .int (nI 0), .ref 66, .int (nI 0), .ref 248]) (I1 := (upN (upN (upN (upN (upN (upN (upN (upN (upN I 65 0 (I 247 0)) 65 1 (I 247 1)) 65 2 (I 247 2)) 65 3 (I 247 3)) 65 4 (I 247 4)) 65 5 (I 247 5)) 65 6 (I 247 6)) 65 7 (I 247 7)) 65 8 (I 247 8))) 39 rfl ?_
  refine WP.copy rfl rfl rfl rfl rfl rfl (by omega) (by omega) (by decide) (by decide) ?_
  refine WP.run (pc' := 99) (L' := [.ref 65, .ref 247]) (st' := [.int (nI 6), .int (nI 0), .ref 67, .int (nI 0), .ref 249]) (I1 := (cpy (upN (upN (upN (upN (upN (upN (upN (upN (upN I 65 0 (I 247 0)) 65 1 (I 247 1)) 65 2 (I 247 2)) 65 3 (I 247 3)) 65 4 (I 247 4)) 65 5 (I 247 5)) 65 6 (I 247 6)) 65 7 (I 247 7)) 65 8 (I 247 8)) 248 66 0 0 6)) 7 rfl ?_
  refine WP.copy rfl rfl rfl rfl rfl rfl (by omega) (by omega) (by decide) (by decide) ?_
  refine WP.run (pc' := 114) (L' := [.ref 65, .ref 247]) (st' := [.int (nI 6), .int (nI 0), .ref 68, .int (nI 0), .ref 250]) (I1 := (cpy (cpy (upN (upN (upN (upN (upN (upN (upN (upN (upN I 65 0 (I 247 0)) 65 1 (I 247 1)) 65 2 (I 247 2)) 65 3 (I 247 3)) 65 4 (I 247 4)) 65 5 (I 247 5)) 65 6 (I 247 6)) 65 7 (I 247 7)) 65 8 (I 247 8)) 248 66 0 0 6) 249 67 0 0 6)) 7 rfl ?_
  refine WP.copy rfl rfl rfl rfl rfl rfl (by omega) (by omega) (by decide) (by decide) ?_
  refine WP.run (pc' := 128) (L' := [.ref 65, .ref 247]) (st' := [.int (nI 5), .int (nI 0), .ref 69, .int (nI 0), .ref 251]) (I1 := (cpy (cpy (cpy (upN (upN (upN (upN (upN (upN (upN (upN (upN I 65 0 (I 247 0)) 65 1 (I 247 1)) 65 2 (I 247 2)) 65 3 (I 247 3)) 65 4 (I 247 4)) 65 5 (I 247 5)) 65 6 (I 247 6)) 65 7 (I 247 7)) 65 8 (I 247 8)) 248 66 0 0 6) 249 67 0 0 6) 250 68 0 0 6)) 7 rfl ?_
  refine WP.copy rfl rfl rfl rfl rfl rfl (by omega) (by omega) (by decide) (by decide) ?_
  refine WP.run (pc' := 142) (L' := [.ref 65, .ref 247]) (st' := [.int (nI 5), .int (nI 0), .ref 70, .int (nI 0), .ref 252]) (I1 := (cpy (cpy (cpy (cpy (upN (upN (upN (upN (upN (upN (upN (upN (upN I 65 0 (I 247 0)) 65 1 (I 247 1)) 65 2 (I 247 2)) 65 3 (I 247 3)) 65 4 (I 247 4)) 65 5 (I 247 5)) 65 6 (I 247 6)) 65 7 (I 247 7)) 65 8 (I 247 8)) 248 66 0 0 6) 249 67 0 0 6) 250 68 0 0 6) 251 69 0 0 5)) 7 rfl ?_
  refine WP.copy rfl rfl rfl rfl rfl rfl (by omega) (by omega) (by decide) (by decide) ?_
  refine WP.run (pc' := 156) (L' := [.ref 65, .ref 247]) (st' := [.int (nI 5), .int (nI 0), .ref 71, .int (nI 0), .ref 253]) (I1 := (cpy (cpy (cpy (cpy (cpy (upN (upN (upN (upN (upN (upN (upN (upN (upN I 65 0 (I 247 0)) 65 1 (I 247 1)) 65 2 (I 247 2)) 65 3 (I 247 3)) 65 4 (I 247 4)) 65 5 (I 247 5)) 65 6 (I 247 6)) 65 7 (I 247 7)) 65 8 (I 247 8)) 248 66 0 0 6) 249 67 0 0 6) 250 68 0 0 6) 251 69 0 0 5) 252 70 0 0 5)) 7 rfl ?_
  refine WP.copy rfl rfl rfl rfl rfl rfl (by omega) (by omega) (by decide) (by decide) ?_
  refine WP.run (pc' := 170) (L' := [.ref 65, .ref 247]) (st' := [.int (nI 5), .int (nI 0), .ref 72, .int (nI 0), .ref 254]) (I1 := (cpy (cpy (cpy (cpy (cpy (cpy (upN (upN (upN (upN (upN (upN (upN (upN (upN I 65 0 (I 247 0)) 65 1 (I 247 1)) 65 2 (I 247 2)) 65 3 (I 247 3)) 65 4 (I 247 4)) 65 5 (I 247 5)) 65 6 (I 247 6)) 65 7 (I 247 7)) 65 8 (I 247 8)) 248 66 0 0 6) 249 67 0 0 6) 250 68 0 0 6) 251 69 0 0 5) 252 70 0 0 5) 253 71 0 0 5)) 7 rfl ?_
  refine WP.copy rfl rfl rfl rfl rfl rfl (by omega) (by omega) (by decide) (by decide) ?_
  exact WP.ret rfl rfl (⟨rfl, rfl⟩)
set_option maxRecDepth 100000 in
theorem sp_become_73_247 {d : Nat} {I : Pl} (hb : I 247 0 = 0 ∨ I 247 0 = 1) : Ev (d + 1) 2 [.ref 73, .ref 247] (mem I) (none) (mem (becN I 73 247)) := by
  refine Ev.only (EvX.enter rfl rfl rfl ?_)
  refine WP.run (pc' := 5) (L' := [.ref 73, .ref 247]) (st' := [.int (I 247 0), .ref 73]) (I1 := I) 3 rfl ?_
  refine WP.putB rfl rfl rfl rfl hb ?_
  refine WP.run (pc' := 84) (L' := [.ref 73, .ref 247]) (st' := [.int (nI 6), .int (nI 0), .ref 74, .int (nI 0), .ref 248]) (I1 := (upN (upN (upN (upN (upN (upN (upN (upN (upN I 73 0 (I 247 0)) 73 1 (I 247 1)) 73 2 (I 247 2)) 73 3 (I 247 3)) 73 4 (I 247 4)) 73 5 (I 247 5)) 73 6 (I 247 6)) 73 7 (I 247 7)) 73 8 (I 247 8))) 39 rfl ?_
  refine WP.copy rfl rfl rfl rfl rfl rfl (by omega) (by omega) (by decide) (by decide) ?_
  refine WP.run (pc' := 99) (L' := [.ref 73, .ref 247]) (st' := [.int (nI 6), .int (nI 0), .ref 75, .int (nI 0), .ref 249]) (I1 := (cpy (upN (upN (upN (upN (upN (upN (upN (upN (upN I 73 0 (I 247 0)) 73 1 (I 247 1)) 73 2 (I 247 2)) 73 3 (I 247 3)) 73 4 (I 247 4)) 73 5 (I 247 5)) 73 6 (I 247 6)) 73 7 (I 247 7)) 73 8 (I 247 8)) 248 74 0 0 6)) 7 rfl ?_
  refine WP.copy rfl rfl rfl rfl rfl rfl (by omega) (by omega) (by decide) (by decide) ?_
  refine WP.run (pc' := 114) (L' := [.ref 73, .ref 247]) (st' := [.int (nI 6), .int (nI 0), .ref 76, .int (nI 0), .ref 250]) (I1 := (cpy (cpy (upN (upN (upN (upN (upN (upN (upN (upN (upN I 73 0 (I 247 0)) 73 1 (I 247 1)) 73 2 (I 247 2)) 73 3 (I 247 3)) 73 4 (I 247 4)) 73 5 (I 247 5)) 73 6 (I 247 6)) 73 7 (I 247 7)) 73 8 (I 247 8)) 248 74 0 0 6) 249 75 0 0 6)) 7 rfl ?_
  refine WP.copy rfl rfl rfl rfl rfl rfl (by omega) (by omega) (by decide) (by decide) ?_
  refine WP.run (pc' := 128) (L' := [.ref 73, .ref 247]) (st' := [.int (nI 5), .int (nI 0), .ref 77, .int (nI 0), .ref 251]) (I1 := (cpy (cpy (cpy (upN (upN (upN (upN (upN (upN (upN (upN (upN I 73 0 (I 247 0)) 73 1 (I 247 1)) 73 2 (I 247 2)) 73 3 (I 247 3)) 73 4 (I 247 4)) 73 5 (I 247 5)) 73 6 (I 247 6)) 73 7 (I 247 7)) 73 8 (I 247 8)) 248 74 0 0 6) 249 75 0 0 6) 250 76 0 0 6)) 7 rfl ?_
  refine WP.copy rfl rfl rfl rfl rfl rfl (by omega) (by omega) (by decide) (by decide) ?_
  refine WP.run (pc' := 142) (L' := [.ref 73, .ref 247]) (st' := [.int (nI 5), .int (nI 0), .ref 78, .int (nI 0), .ref 252]) (I1 := (cpy (cpy (cpy (cpy (upN (upN (upN (upN (upN (upN (upN (upN (upN I 73 0 (I 247 0)) 73 1 (I 247 1)) 73 2 (I 247 2)) 73 3 (I 247 3)) 73 4 (I 247 4)) 73 5 (I 247 5)) 73 6 (I 247 6)) 73 7 (I 247 7)) 73 8 (I 247 8)) 248 74 0 0 6) 249 75 0 0 6) 250 76 0 0 6) 251 77 0 0 5)) 7 rfl ?_
  refine WP.copy rfl rfl rfl rfl rfl rfl (by omega) (by omega) (by decide) (by decide) ?_
  refine WP.run (pc' := 156) (L' := [.ref 73, .ref 247]) (st' := [.int (nI 5), .int (nI 0), .ref 79, .int (nI 0), .ref 253]) (I1 := (cpy (cpy (cpy (cpy (cpy (upN (upN (upN (upN (upN (upN (upN (upN (upN I 73 0 (I 247 0)) 73 1 (I 247 1)) 73 2 (I 247 2)) 73 3 (I 247 3)) 73 4 (I 247 4)) 73 5 (I 247 5)) 73 6 (I 247 6)) 73 7 (I 247 7)) 73 8 (I 247 8)) 248 74 0 0 6) 249 75 0 0 6) 250 76 0 0 6) 251 77 0 0 5) 252 78 0 0 5)) 7 rfl ?_
  refine WP.copy rfl rfl rfl rfl rfl rfl (by omega) (by omega) (by decide) (by decide) ?_
  refine WP.run (pc' := 170) (L' := [.ref 73, .ref 247]) (st' := [.int (nI 5), .int (nI 0), .ref 80, .int (nI 0), .ref 254]) (I1 := (cpy (cpy (cpy (cpy (cpy (cpy (upN (upN (upN (upN (upN (upN (upN (upN (upN I 73 0 (I 247 0)) 73 1 (I 247 1)) 73 2 (I 247 2)) 73 3 (I 247 3)) 73 4 (I 247 4)) 73 5 (I 247 5)) 73 6 (I 247 6)) 73 7 (I 247 7)) 73 8 (I 247 8)) 248 74 0 0 6) 249 75 0 0 6) 250 76 0 0 6) 251 77 0 0 5) 252 78 0 0 5) 253 79 0 0 5)) 7 rfl ?_
  refine WP.copy rfl rfl rfl rfl rfl rfl (by omega) (by omega) (by decide) (by decide) ?_
  exact WP.ret rfl rfl (⟨rfl, rfl⟩)
set_option maxRecDepth 100000 in
theorem sp_become_81_247 {d : Nat} {I : Pl} (hb : I 247 0 = 0 ∨ I 247 0 = 1) : Ev (d + 1) 2 [.ref 81, .ref 247] (mem I) (none) (mem (becN I 81 247)) := by
  refine Ev.only (EvX.enter rfl rfl rfl ?_)
  refine WP.run (pc' := 5) (L' := [.ref 81, .ref 247]) (st' := [.int (I 247 0), .ref 81]) (I1 := I) 3 rfl ?_
  refine WP.putB rfl rfl rfl rfl hb ?_
  refine WP.run (pc' := 84) (L' := [.ref 81, .ref 247]) (st' := [.int (nI 6), .int (nI 0), .ref 82, .int (nI 0), .ref 248]) (I1 := (upN (upN (upN (upN (upN (upN (upN (upN (upN I 81 0 (I 247 0)) 81 1 (I 247 1)) 81 2 (I 247 2)) 81 3 (I 247 3)) 81 4 (I 247 4)) 81 5 (I 247 5)) 81 6 (I 247 6)) 81 7 (I 247 7)) 81 8 (I 247 8))) 39 rfl ?_
  refine WP.copy rfl rfl rfl rfl rfl rfl (by omega) (by omega) (by decide) (by decide) ?_
  refine WP.run (pc' := 99) (L' := [.ref 81, .ref 247]) (st' := [.int (nI 6), .int (nI 0), .ref 83, .int (nI 0), .ref 249]) (I1 := (cpy (upN (upN (upN (upN (upN (upN (upN (upN (upN I 81 0 (I 247 0)) 81 1 (I 247 1)) 81 2 (I 247 2)) 81 3 (I 247 3)) 81 4 (I 247 4)) 81 5 (I 247 5)) 81 6 (I 247 6)) 81 7 (I 247 7)) 81 8 (I 247 8)) 248 82 0 0 6)) 7 rfl ?_
  refine WP.copy rfl rfl rfl rfl rfl rfl (by omega) (by omega) (by decide) (by decide) ?_
  refine WP.run (pc' := 114) (L' := [.ref 81, .ref 247]) (st' := [.int (nI 6), .int (nI 0), .ref 84, .int (nI 0), .ref 250]) (I1 := (cpy (cpy (upN (upN (upN (upN (upN (upN (upN (upN (upN I 81 0 (I 247 0)) 81 1 (I 247 1)) 81 2 (I 247 2)) 81 3 (I 247 3)) 81 4 (I 247 4)) 81 5 (I 247 5)) 81 6 (I 247 6)) 81 7 (I 247 7)) 81 8 (I 247 8)) 248 82 0 0 6) 249 83 0 0 6)) 7 rfl ?_
  refine WP.copy rfl rfl rfl rfl rfl rfl (by omega) (by omega) (by decide) (by decide) ?_
  refine WP.run (pc' := 128) (L' := [.ref 81, .ref 247]) (st' := [.int (nI 5), .int (nI 0), .ref 85, .int (nI 0), .ref 251]) (I1 := (cpy (cpy (cpy (upN (upN (upN (upN (upN (upN (upN (upN (upN I 81 0 (I 247 0)) 81 1 (I 247 1)) 81 2 (I 247 2)) 81 3 (I 247 3)) 81 4 (I 247 4)) 81 5 (I 247 5)) 81 6 (I 247 6)) 81 7 (I 247 7)) 81 8 (I 247 8)) 248 82 0 0 6) 249 83 0 0 6) 250 84 0 0 6)) 7 rfl ?_
  refine WP.copy rfl rfl rfl rfl rfl rfl (by omega) (by omega) (by decide) (by decide) ?_
  refine WP.run (pc' := 142) (L' := [.ref 81, .ref 247]) (st' := [.int (nI 5), .int (nI 0), .ref 86, .int (nI 0), .ref 252]) (I1 := (cpy (cpy (cpy (cpy (upN (upN (upN (upN (upN (upN (upN (upN (upN I 81 0 (I 247 0)) 81 1 (I 247 1)) 81 2 (I 247 2)) 81 3 (I 247 3)) 81 4 (I 247 4)) 81 5 (I 247 5)) 81 6 (I 247 6)) 81 7 (I 247 7)) 81 8 (I 247 8)) 248 82 0 0 6) 249 83 0 0 6) 250 84 0 0 6) 251 85 0 0 5)) 7 rfl ?_
  refine WP.copy rfl rfl rfl rfl rfl rfl (by omega) (by omega) (by decide) (by decide) ?_
  refine WP.run (pc' := 156) (L' := [.ref 81, .ref 247]) (st' := [.int (nI 5), .int (nI 0), .ref 87, .int (nI 0), .ref 253]) (I1 := (cpy (cpy (cpy (cpy (cpy (upN (upN (upN (upN (upN (upN (upN (upN (upN I 81 0 (I 247 0)) 81 1 (I 247 1)) 81 2 (I 247 2)) 81 3 (I 247 3)) 81 4 (I 247 4)) 81 5 (I 247 5)) 81 6 (I 247 6)) 81 7 (I 247 7)) 81 8 (I 247 8)) 248 82 0 0 6) 249 83 0 0 6) 250 84 0 0 6) 251 85 0 0 5) 252 86 0 0 5)) 7 rfl ?_
  refine WP.copy rfl rfl rfl rfl rfl rfl (by omega) (by omega) (by decide) (by decide) ?_
  refine WP.run (pc' := 170) (L' := [.ref 81, .ref 247]) (st' := [.int (nI 5), .int (nI 0), .ref 88, .int (nI 0), .ref 254]) (I1 := (cpy (cpy (cpy (cpy (cpy (cpy (upN (upN (upN (upN (upN (upN (upN (upN (upN I 81 0 (I 247 0)) 81 1 (I 247 1)) 81 2 (I 247 2)) 81 3 (I 247 3)) 81 4 (I 247 4)) 81 5 (I 247 5)) 81 6 (I 247 6)) 81 7 (I 247 7)) 81 8 (I 247 8)) 248 82 0 0 6) 249 83 0 0 6) 250 84 0 0 6) 251 85 0 0 5) 252 86 0 0 5) 253 87 0 0 5)) 7 rfl ?_
  refine WP.copy rfl rfl rfl rfl rfl rfl (by omega) (by omega) (by decide) (by decide) ?_
  exact WP.ret rfl rfl (⟨rfl, rfl⟩)
set_option maxRecDepth 100000 in
theorem sp_become_89_247 {d : Nat} {I : Pl} (hb : I 247 0 = 0 ∨ I 247 0 = 1) : Ev (d + 1) 2 [.ref 89, .ref 247] (mem I) (none) (mem (becN I 89 247)) := by
  refine Ev.only (EvX.enter rfl rfl rfl ?_)
  refine WP.run (pc' := 5) (L' := [.ref 89, .ref 247]) (st' := [.int (I 247 0), .ref 89]) (I1 := I) 3 rfl ?_
  refine WP.putB rfl rfl rfl rfl hb ?_
  refine WP.run (pc' := 84) (L' := [.ref 89, .ref 247]) (st' := [.int (nI 6), .int (nI 0), .ref 90, .int (nI 0), .ref 248]) (I1 := (upN (upN (upN (upN (upN (upN (upN (upN (upN I 89 0 (I 247 0)) 89 1 (I 247 1)) 89 2 (I 247 2)) 89 3 (I 247 3)) 89 4 (I 247 4)) 89 5 (I 247 5)) 89 6 (I 247 6)) 89 7 (I 247 7)) 89 8 (I 247 8))) 39 rfl ?_
  refine WP.copy rfl rfl rfl rfl rfl rfl (by omega) (by omega) (by decide) (by decide) ?_
  refine WP.run (pc' := 99) (L' := [.ref 89, .ref 247]) (st' := [.int (nI 6), .int (nI 0), .ref 91, .int (nI 0), .ref 249]) (I1 := (cpy (upN (upN (upN (upN (upN (upN (upN (upN (upN I 89 0 (I 247 0)) 89 1 (I 247 1)) 89 2 (I 247 2)) 89 3 (I 247 3)) 89 4 (I 247 4)) 89 5 (I 247 5)) 89 6 (I 247 6)) 89 7 (I 247 7)) 89 8 (I 247 8)) 248 90 0 0 6)) 7 rfl ?_
  refine WP.copy rfl rfl rfl rfl rfl rfl (by omega) (by omega) (by decide) (by decide) ?_
  refine WP.run (pc' := 114) (L' := [.ref 89, .ref 247]) (st' := [.int (nI 6), .int (nI 0), .ref 92, .int (nI 0), .ref 250]) (I1 := (cpy (cpy (upN (upN (upN (upN (upN (upN (upN (upN (upN I 89 0 (I 247 0)) 89 1 (I 247 1)) 89 2 (I 247 2)) 89 3 (I 247 3)) 89 4 (I 247 4)) 89 5 (I 247 5)) 89 6 (I 247 6)) 89 7 (I 247 7)) 89 8 (I 247 8)) 248 90 0 0 6) 249 91 0 0 6)) 7 rfl ?_
  refine WP.copy rfl rfl rfl rfl rfl rfl (by omega) (by omega) (by decide) (by decide) ?_
  refine WP.run (pc' := 128) (L' := [.ref 89, .ref 247]) (st' := [.int (nI 5), .int (nI 0), .ref 93, .int (nI 0), .ref 251]) (I1 := (cpy (cpy (cpy (upN (upN (upN (upN (upN (upN (upN (upN (upN I 89 0 (I 247 0)) 89 1 (I 247 1)) 89 2 (I 247 2)) 89 3 (I 247 3)) 89 4 (I 247 4)) 89 5 (I 247 5)) 89 6 (I 247 6)) 89 7 (I 247 7)) 89 8 (I 247 8)) 248 90 0 0 6) 249 91 0 0 6) 250 92 0 0 6)) 7 rfl ?_
  refine WP.copy rfl rfl rfl rfl rfl rfl (by omega) (by omega) (by decide) (by decide) ?_
  refine WP.run (pc' := 142) (L' := [.ref 89, .ref 247]) (st' := [.int (nI 5), .int (nI 0), .ref 94, .int (nI 0), .ref 252]) (I1 := (cpy (cpy (cpy (cpy (upN (upN (upN (upN (upN (upN (upN (upN (upN I 89 0 (I 247 0)) 89 1 (I 247 1)) 89 2 (I 247 2)) 89 3 (I 247 3)) 89 4 (I 247 4)) 89 5 (I 247 5)) 89 6 (I 247 6)) 89 7 (I 247 7)) 89 8 (I 247 8)) 248 90 0 0 6) 249 91 0 0 6) 250 92 0 0 6) 251 93 0 0 5)) 7 rfl ?_
  refine WP.copy rfl rfl rfl rfl rfl rfl (by omega) (by omega) (by decide) (by decide) ?_
  refine WP.run (pc' := 156) (L' := [.ref 89, .ref 247]) (st' := [.int (nI 5), .int (nI 0), .ref 95, .int (nI 0), .ref 253]) (I1 := (cpy (cpy (cpy (cpy (cpy (upN (upN (upN (upN (upN (upN (upN (upN (upN I 89 0 (I 247 0)) 89 1 (I 247 1)) 89 2 (I 247 2)) 89 3 (I 247 3)) 89 4 (I 247 4)) 89 5 (I 247 5)) 89 6 (I 247 6)) 89 7 (I 247 7)) 89 8 (I 247 8)) 248 90 0 0 6) 249 91 0 0 6) 250 92 0 0 6) 251 93 0 0 5) 252 94 0 0 5)) 7 rfl ?_
  refine WP.copy rfl rfl rfl rfl rfl rfl (by omega) (by omega) (by decide) (by decide) ?_
  refine WP.run (pc' := 170) (L' := [.ref 89, .ref 247]) (st' := [.int (nI 5), .int (nI 0), .ref 96, .int (nI 0), .ref 254]) (I1 := (cpy (cpy (cpy (cpy (cpy (cpy (upN (upN (upN (upN (upN (upN (upN (upN (upN I 89 0 (I 247 0)) 89 1 (I 247 1)) 89 2 (I 247 2)) 89 3 (I 247 3)) 89 4 (I 247 4)) 89 5 (I 247 5)) 89 6 (I 247 6)) 89 7 (I 247 7)) 89 8 (I 247 8)) 248 90 0 0 6) 249 91 0 0 6) 250 92 0 0 6) 251 93 0 0 5) 252 94 0 0 5) 253 95 0 0 5)) 7 rfl ?_
  refine WP.copy rfl rfl rfl rfl rfl rfl (by omega) (by omega) (by decide) (by decide) ?_
  exact WP.ret rfl rfl (⟨rfl, rfl⟩)
set_option maxRecDepth 100000 in
theorem sp_become_97_247 {d : Nat} {I : Pl} (hb : I 247 0 = 0 ∨ I 247 0 = 1) : Ev (d + 1) 2 [.ref 97, .ref 247] (mem I) (none) (mem (becN I 97 247)) := by
  refine Ev.only (EvX.enter rfl rfl rfl ?_)
  refine WP.run (pc' := 5) (L' := [.ref 97, .ref 247]) (st' := [.int (I 247 0), .ref 97]) (I1 := I) 3 rfl ?_
  refine WP.putB rfl rfl rfl rfl hb ?_
  refine WP.run (pc' := 84) (L' := [.ref 97, .ref 247]) (st' := [.int (nI 6), .int (nI 0), .ref 98, .int (nI 0), .ref 248]) (I1 := (upN (upN (upN (upN (upN (upN (upN (upN (upN I 97 0 (I 247 0)) 97 1 (I 247 1)) 97 2 (I 247 2)) 97 3 (I 247 3)) 97 4 (I 247 4)) 97 5 (I 247 5)) 97 6 (I 247 6)) 97 7 (I 247 7)) 97 8 (I 247 8))) 39 rfl ?_
  refine WP.copy rfl rfl rfl rfl rfl rfl (by omega) (by omega) (by decide) (by decide) ?_
  refine WP.run (pc' := 99) (L' := [.ref 97, .ref 247]) (st' := [.int (nI 6), .int (nI 0), .ref 99, .int (nI 0), .ref 249]) (I1 := (cpy (upN (upN (upN (upN (upN (upN (upN (upN (upN I 97 0 (I 247 0)) 97 1 (I 247 1)) 97 2 (I 247 2)) 97 3 (I 247 3)) 97 4 (I 247 4)) 97 5 (I 247 5)) 97 6 (I 247 6)) 97 7 (I 247 7)) 97 8 (I 247 8)) 248 98 0 0 6)) 7 rfl ?_
  refine WP.copy rfl rfl rfl rfl rfl rfl (by omega) (by omega) (by decide) (by decide) ?_
  refine WP.run (pc' := 114) (L' := [.ref 97, .ref 247]) (st' := [.int (nI 6), .int (nI 0), .ref 100, .int (nI 0), .ref 250]) (I1 := (cpy (cpy (upN (upN (upN (upN (upN (upN (upN (upN (upN I 97 0 (I 247 0)) 97 1 (I 247 1)) 97 2 (I 247 2)) 97 3 (I 247 3)) 97 4 (I 247 4)) 97 5 (I 247 5)) 97 6 (I 247 6)) 97 7 (I 247 7)) 97 8 (I 247 8)) 248 98 0 0 6) 249 99 0 0 6)) 7 rfl ?_
  refine WP.copy rfl rfl rfl rfl rfl rfl (by omega) (by omega) (by decide) (by decide) ?_
  refine WP.run (pc' := 128) (L' := [.ref 97, .ref 247]) (st' := [.int (nI 5), .int (nI 0), .ref 101, .int (nI 0), .ref 251]) (I1 := (cpy (cpy (cpy (upN (upN (upN (upN (upN (upN (upN (upN (upN I 97 0 (I 247 0)) 97 1 (I 247 1)) 97 2 (I 247 2)) 97 3 (I 247 3)) 97 4 (I 247 4)) 97 5 (I 247 5)) 97 6 (I 247 6)) 97 7 (I 247 7)) 97 8 (I 247 8)) 248 98 0 0 6) 249 99 0 0 6) 250 100 0 0 6)) 7 rfl ?_
  refine WP.copy rfl rfl rfl rfl rfl rfl (by omega) (by omega) (by decide) (by decide) ?_
  refine WP.run (pc' := 142) (L' := [.ref 97, .ref 247]) (st' := [.int (nI 5), .int (nI 0), .ref 102, .int (nI 0), .ref 252]) (I1 := (cpy (cpy (cpy (cpy (upN (upN (upN (upN (upN (upN (upN (upN (upN I 97 0 (I 247 0)) 97 1 (I 247 1)) 97 2 (I 247 2)) 97 3 (I 247 3)) 97 4 (I 247 4)) 97 5 (I 247 5)) 97 6 (I 247 6)) 97 7 (I 247 7)) 97 8 (I 247 8)) 248 98 0 0 6) 249 99 0 0 6) 250 100 0 0 6) 251 101 0 0 5)) 7 rfl ?_
  refine WP.copy rfl rfl rfl rfl rfl rfl (by omega) (by omega) (by decide) (by decide) ?_
  refine WP.run (pc' := 156) (L' := [.ref 97, .ref 247]) (st' := [.int (nI 5), .int (nI 0), .ref 103, .int (nI 0), .ref 253]) (I1 := (cpy (cpy (cpy (cpy (cpy (upN (upN (upN (upN (upN (upN (upN (upN (upN I 97 0 (I 247 0)) 97 1 (I 247 1)) 97 2 (I 247 2)) 97 3 (I 247 3)) 97 4 (I 247 4)) 97 5 (I 247 5)) 97 6 (I 247 6)) 97 7 (I 247 7)) 97 8 (I 247 8)) 248 98 0 0 6) 249 99 0 0 6) 250 100 0 0 6) 251 101 0 0 5) 252 102 0 0 5)) 7 rfl ?_
  refine WP.copy rfl rfl rfl rfl rfl rfl (by omega) (by omega) (by decide) (by decide) ?_
  refine WP.run (pc' := 170) (L' := [.ref 97, .ref 247]) (st' := [.int (nI 5), .int (nI 0), .ref 104, .int (nI 0), .ref 254]) (I1 := (cpy (cpy (cpy (cpy (cpy (cpy (upN (upN (upN (upN (upN (upN (upN (upN (upN I 97 0 (I 247 0)) 97 1 (I 247 1)) 97 2 (I 247 2)) 97 3 (I 247 3)) 97 4 (I 247 4)) 97 5 (I 247 5)) 97 6 (I 247 6)) 97 7 (I 247 7)) 97 8 (I 247 8)) 248 98 0 0 6) 249 99 0 0 6) 250 100 0 0 6) 251 101 0 0 5) 252 102 0 0 5) 253 103 0 0 5)) 7 rfl ?_
  refine WP.copy rfl rfl rfl rfl rfl rfl (by omega) (by omega) (by decide) (by decide) ?_
  exact WP.ret rfl rfl (⟨rfl, rfl⟩)
set_option maxRecDepth 100000 in
theorem sp_become_105_247 {d : Nat} {I : Pl} (hb : I 247 0 = 0 ∨ I 247 0 = 1) : Ev (d + 1) 2 [.ref 105, .ref 247] (mem I) (none) (mem (becN I 105 247)) := by
  refine Ev.only (EvX.enter rfl rfl rfl ?_)
  refine WP.run (pc' := 5) (L' := [.ref 105, .ref 247]) (st' := [.int (I 247 0), .ref 105]) (I1 := I) 3 rfl ?_
  refine WP.putB rfl rfl rfl rfl hb ?_
  refine WP.run (pc' := 84) (L' := [.ref 105, .ref 247]) (st' := [.int (nI 6), .int (nI 0), .ref 106, .int (nI 0), .ref 248]) (I1 := (upN (upN (upN (upN (upN (upN (upN (upN (upN I 105 0 (I 247 0)) 105 1 (I 247 1)) 105 2 (I 247 2)) 105 3 (I 247 3)) 105 4 (I 247 4)) 105 5 (I 247 5)) 105 6 (I 247 6)) 105 7 (I 247 7)) 105 8 (I 247 8))) 39 rfl ?_
  refine WP.copy rfl rfl rfl rfl rfl rfl (by omega) (by omega) (by decide) (by decide) ?_
  refine WP.run (pc' := 99) (L' := [.ref 105, .ref 247]) (st' := [.int (nI 6), .int (nI 0), .ref 107, .int (nI 0), .ref 249]) (I1 := (cpy (upN (upN (upN (upN (upN (upN (upN (upN (upN I 105 0 (I 247 0)) 105 1 (I 247 1)) 105 2 (I 247 2)) 105 3 (I 247 3)) 105 4 (I 247 4)) 105 5 (I 247 5)) 105 6 (I 247 6)) 105 7 (I 247 7)) 105 8 (I 247 8)) 248 106 0 0 6)) 7 rfl ?_
  refine WP.copy rfl rfl rfl rfl rfl rfl (by omega) (by omega) (by decide) (by decide) ?_
  refine WP.run (pc' := 114) (L' := [.ref 105, .ref 247]) (st' := [.int (nI 6), .int (nI 0), .ref 108, .int (nI 0), .ref 250]) (I1 := (cpy (cpy (upN (upN (upN (upN (upN (upN (upN (upN (upN I 105 0 (I 247 0)) 105 1 (I 247 1)) 105 2 (I 247 2)) 105 3 (I 247 3)) 105 4 (I 247 4)) 105 5 (I 247 5)) 105 6 (I 247 6)) 105 7 (I 247 7)) 105 8 (I 247 8)) 248 106 0 0 6) 249 107 0 0 6)) 7 rfl ?_
  refine WP.copy rfl rfl rfl rfl rfl rfl (by omega) (by omega) (by decide) (by decide) ?_
  refine WP.run (pc' := 128) (L' := [.ref 105, .ref 247]) (st' := [.int (nI 5), .int (nI 0), .ref 109, .int (nI 0), .ref 251]) (I1 := (cpy (cpy (cpy (upN (upN (upN (upN (upN (upN (upN (upN (upN I 105 0 (I 247 0)) 105 1 (I 247 1)) 105 2 (I 247 2)) 105 3 (I 247 3)) 105 4 (I 247 4)) 105 5 (I 247 5)) 105 6 (I 247 6)) 105 7 (I 247 7)) 105 8 (I 247 8)) 248 106 0 0 6) 249 107 0 0 6) 250 108 0 0 6)) 7 rfl ?_
  refine WP.copy rfl rfl rfl rfl rfl rfl (by omega) (by omega) (by decide) (by decide) ?_
  refine WP.run (pc' := 142) (L' := [.ref 105, .ref 247]) (st' := [.int (nI 5), .int (nI 0), .ref 110, .int (nI 0), .ref 252]) (I1 := (cpy (cpy (cpy (cpy (upN (upN (upN (upN (upN (upN (upN (upN (upN I 105 0 (I 247 0)) 105 1 (I 247 1)) 105 2 (I 247 2)) 105 3 (I 247 3)) 105 4 (I 247 4)) 105 5 (I 247 5)) 105 6 (I 247 6)) 105 7 (I 247 7)) 105 8 (I 247 8)) 248 106 0 0 6) 249 107 0 0 6) 250 108 0 0 6) 251 109 0 0 5)) 7 rfl ?_
  refine WP.copy rfl rfl rfl rfl rfl rfl (by omega) (by omega) (by decide) (by decide) ?_
  refine WP.run (pc' := 156) (L' := [.ref 105, .ref 247]) (st' := [.int (nI 5), .int (nI 0), .ref 111, .int (nI 0), .ref 253]) (I1 := (cpy (cpy (cpy (cpy (cpy (upN (upN (upN (upN (upN (upN (upN (upN (upN I 105 0 (I 247 0)) 105 1 (I 247 1)) 105 2 (I 247 2)) 105 3 (I 247 3)) 105 4 (I 247 4)) 105 5 (I 247 5)) 105 6 (I 247 6)) 105 7 (I 247 7)) 105 8 (I 247 8)) 248 106 0 0 6) 249 107 0 0 6) 250 108 0 0 6) 251 109 0 0 5) 252 110 0 0 5)) 7 rfl ?_
  refine WP.copy rfl rfl rfl rfl rfl rfl (by omega) (by omega) (by decide) (by decide) ?_
  refine WP.run (pc' := 170) (L' := [.ref 105, .ref 247]) (st' := [.int (nI 5), .int (nI 0), .ref 112, .int (nI 0), .ref 254]) (I1 := (cpy (cpy (cpy (cpy (cpy (cpy (upN (upN (upN (upN (upN (upN (upN (upN (upN I 105 0 (I 247 0)) 105 1 (I 247 1)) 105 2 (I 247 2)) 105 3 (I 247 3)) 105 4 (I 247 4)) 105 5 (I 247 5)) 105 6 (I 247 6)) 105 7 (I 247 7)) 105 8 (I 247 8)) 248 106 0 0 6) 249 107 0 0 6) 250 108 0 0 6) 251 109 0 0 5) 252 110 0 0 5) 253 111 0 0 5)) 7 rfl ?_
  refine WP.copy rfl rfl rfl rfl rfl rfl (by omega) (by omega) (by decide) (by decide) ?_
  exact WP.ret rfl rfl (⟨rfl, rfl⟩)
set_option maxRecDepth 100000 in
theorem sp_become_113_247 {d : Nat} {I : Pl} (hb : I 247 0 = 0 ∨ I 247 0 = 1) : Ev (d + 1) 2 [.ref 113, .ref 247] (mem I) (none) (mem (becN I 113 247)) := by
  refine Ev.only (EvX.enter rfl rfl rfl ?_)
  refine WP.run (pc' := 5) (L' := [.ref 113, .ref 247]) (st' := [.int (I 247 0), .ref 113]) (I1 := I) 3 rfl ?_
  refine WP.putB rfl rfl rfl rfl hb ?_
  refine WP.run (pc' := 84) (L' := [.ref 113, .ref 247]) (st' := [.int (nI 6), .int (nI 0), .ref 114, .int (nI 0), .ref 248]) (I1 := (upN (upN (upN (upN (upN (upN (upN (upN (upN I 113 0 (I 247 0)) 113 1 (I 247 1)) 113 2 (I 247 2)) 113 3 (I 247 3)) 113 4 (I 247 4)) 113 5 (I 247 5)) 113 6 (I 247 6)) 113 7 (I 247 7)) 113 8 (I 247 8))) 39 rfl ?_
  refine WP.copy rfl rfl rfl rfl rfl rfl (by omega) (by omega) (by decide) (by decide) ?_
  refine WP.run (pc' := 99) (L' := [.ref 113, .ref 247]) (st' := [.int (nI 6), .int (nI 0), .ref 115, .int (nI 0), .ref 249]) (I1 := (cpy (upN (upN (upN (upN (upN (upN (upN (upN (upN I 113 0 (I 247 0)) 113 1 (I 247 1)) 113 2 (I 247 2)) 113 3 (I 247 3)) 113 4 (I 247 4)) 113 5 (I 247 5)) 113 6 (I 247 6)) 113 7 (I 247 7)) 113 8 (I 247 8)) 248 114 0 0 6)) 7 rfl ?_
  refine WP.copy rfl rfl rfl rfl rfl rfl (by omega) (by omega) (by decide) (by decide) ?_
  refine WP.run (pc' := 114) (L' := [.ref 113, .ref 247]) (st' := [.int (nI 6), .int (nI 0), .ref 116, .int (nI 0), .ref 250]) (I1 := (cpy (cpy (upN (upN (upN (upN (upN (upN (upN (upN (upN I 113 0 (I 247 0)) 113 1 (I 247 1)) 113 2 (I 247 2)) 113 3 (I 247 3)) 113 4 (I 247 4)) 113 5 (I 247 5)) 113 6 (I 247 6)) 113 7 (I 247 7)) 113 8 (I 247 8)) 248 114 0 0 6) 249 115 0 0 6)) 7 rfl ?_
  refine WP.copy rfl rfl rfl rfl rfl rfl (by omega) (by omega) (by decide) (by decide) ?_
  refine WP.run (pc' := 128) (L' := [.ref 113, .ref 247]) (st' := [.int (nI 5), .int (nI 0), .ref 117, .int (nI 0), .ref 251]) (I1 := (cpy (cpy (cpy (upN (upN (upN (upN (upN (upN (upN (upN (upN I 113 0 (I 247 0)) 113 1 (I 247 1)) 113 2 (I 247 2)) 113 3 (I 247 3)) 113 4 (I 247 4)) 113 5 (I 247 5)) 113 6 (I 247 6)) 113 7 (I 247 7)) 113 8 (I 247 8)) 248 114 0 0 6) 249 115 0 0 6) 250 116 0 0 6)) 7 rfl ?_
  refine WP.copy rfl rfl rfl rfl rfl rfl (by omega) (by omega) (by decide) (by decide) ?_
  refine WP.run (pc' := 142) (L' := [.ref 113, .ref 247]) (st' := [.int (nI 5), .int (nI 0), .ref 118, .int (nI 0), .ref 252]) (I1 := (cpy (cpy (cpy (cpy (upN (upN (upN (upN (upN (upN (upN (upN (upN I 113 0 (I 247 0)) 113 1 (I 247 1)) 113 2 (I 247 2)) 113 3 (I 247 3)) 113 4 (I 247 4)) 113 5 (I 247 5)) 113 6 (I 247 6)) 113 7 (I 247 7)) 113 8 (I 247 8)) 248 114 0 0 6) 249 115 0 0 6) 250 116 0 0 6) 251 117 0 0 5)) 7 rfl ?_
  refine WP.copy rfl rfl rfl rfl rfl rfl (by omega) (by omega) (by decide) (by decide) ?_
  refine WP.run (pc' := 156) (L' := [.ref 113, .ref 247]) (st' := [.int (nI 5), .int (nI 0), .ref 119, .int (nI 0), .ref 253]) (I1 := (cpy (cpy (cpy (cpy (cpy (upN (upN (upN (upN (upN (upN (upN (upN (upN I 113 0 (I 247 0)) 113 1 (I 247 1)) 113 2 (I 247 2)) 113 3 (I 247 3)) 113 4 (I 247 4)) 113 5 (I 247 5)) 113 6 (I 247 6)) 113 7 (I 247 7)) 113 8 (I 247 8)) 248 114 0 0 6) 249 115 0 0 6) 250 116 0 0 6) 251 117 0 0 5) 252 118 0 0 5)) 7 rfl ?_
  refine WP.copy rfl rfl rfl rfl rfl rfl (by omega) (by omega) (by decide) (by decide) ?_
  refine WP.run (pc' := 170) (L' := [.ref 113, .ref 247]) (st' := [.int (nI 5), .int (nI 0), .ref 120, .int (nI 0), .ref 254]) (I1 := (cpy (cpy (cpy (cpy (cpy (cpy (upN (upN (upN (upN (upN (upN (upN (upN (upN I 113 0 (I 247 0)) 113 1 (I 247 1)) 113 2 (I 247 2)) 113 3 (I 247 3)) 113 4 (I 247 4)) 113 5 (I 247 5)) 113 6 (I 247 6)) 113 7 (I 247 7)) 113 8 (I 247 8)) 248 114 0 0 6) 249 115 0 0 6) 250 116 0 0 6) 251 117 0 0 5) 252 118 0 0 5) 253 119 0 0 5)) 7 rfl ?_
  refine WP.copy rfl rfl rfl rfl rfl rfl (by omega) (by omega) (by decide) (by decide) ?_
  exact WP.ret rfl rfl (⟨rfl, rfl⟩)
set_option maxRecDepth 100000 in
theorem sp_become_121_247 {d : Nat} {I : Pl} (hb : I 247 0 = 0 ∨ I 247 0 = 1) : Ev (d + 1) 2 [.ref 121, .ref 247] (mem I) (none) (mem (becN I 121 247)) := by
  refine Ev.only (EvX.enter rfl rfl rfl ?_)
  refine WP.run (pc' := 5) (L' := [.ref 121, .ref 247]) (st' := [.int (I 247 0), .ref 121]) (I1 := I) 3 rfl ?_
  refine WP.putB rfl rfl rfl rfl hb ?_
  refine WP.run (pc' := 84) (L' := [.ref 121, .ref 247]) (st' := [.int (nI 6), .int (nI 0), .ref 122, .int (nI 0), .ref 248]) (I1 := (upN (upN (upN (upN (upN (upN (upN (upN (upN I 121 0 (I 247 0)) 121 1 (I 247 1)) 121 2 (I 247 2)) 121 3 (I 247 3)) 121 4 (I 247 4)) 121 5 (I 247 5)) 121 6 (I 247 6)) 121 7 (I 247 7)) 121 8 (I 247 8))) 39 rfl ?_
  refine WP.copy rfl rfl rfl rfl rfl rfl (by omega) (by omega) (by decide) (by decide) ?_
  refine WP.run (pc' := 99) (L' := [.ref 121, .ref 247]) (st' := [.int (nI 6), .int (nI 0), .ref 123, .int (nI 0), .ref 249]) (I1 := (cpy (upN (upN (upN (upN (upN (upN (upN (upN (upN I 121 0 (I 247 0)) 121 1 (I 247 1)) 121 2 (I 247 2)) 121 3 (I 247 3)) 121 4 (I 247 4)) 121 5 (I 247 5)) 121 6 (I 247 6)) 121 7 (I 247 7)) 121 8 (I 247 8)) 248 122 0 0 6)) 7 rfl ?_
  refine WP.copy rfl rfl rfl rfl rfl rfl (by omega) (by omega) (by decide) (by decide) ?_
  refine WP.run (pc' := 114) (L' := [.ref 121, .ref 247]) (st' := [.int (nI 6), .int (nI 0), .ref 124, .int (nI 0), .ref 250]) (I1 := (cpy (cpy (upN (upN (upN (upN (upN (upN (upN (upN (upN I 121 0 (I 247 0)) 121 1 (I 247 1)) 121 2 (I 247 2)) 121 3 (I 247 3)) 121 4 (I 247 4)) 121 5 (I 247 5)) 121 6 (I 247 6)) 121 7 (I 247 7)) 121 8 (I 247 8)) 248 122 0 0 6) 249 123 0 0 6)) 7 rfl ?_
  refine WP.copy rfl rfl rfl rfl rfl rfl (by omega) (by omega) (by decide) (by decide) ?_
  refine WP.run (pc' := 128) (L' := [.ref 121, .ref 247]) (st' := [.int (nI 5), .int (nI 0), .ref 125, .int (nI 0), .ref 251]) (I1 := (cpy (cpy (cpy (upN (upN (upN (upN (upN (upN (upN (upN (upN I 121 0 (I 247 0)) 121 1 (I 247 1)) 121 2 (I 247 2)) 121 3 (I 247 3)) 121 4 (I 247 4)) 121 5 (I 247 5)) 121 6 (I 247 6)) 121 7 (I 247 7)) 121 8 (I 247 8)) 248 122 0 0 6) 249 123 0 0 6) 250 124 0 0 6)) 7 rfl ?_
  refine WP.copy rfl rfl rfl rfl rfl rfl (by omega) (by omega) (by decide) (by decide) ?_
  refine WP.run (pc' := 142) (L' := [.ref 121, .ref 247]) (st' := [.int (nI 5), .int (nI 0), .ref 126, .int (nI 0), .ref 252]) (I1 := (cpy (cpy (cpy (cpy (upN (upN (upN (upN (upN (upN (upN (upN (upN I 121 0 (I 247 0)) 121 1 (I 247 1)) 121 2 (I 247 2)) 121 3 (I 247 3)) 121 4 (I 247 4)) 121 5 (I 247 5)) 121 6 (I 247 6)) 121 7 (I 247 7)) 121 8 (I 247 8)) 248 122 0 0 6) 249 123 0 0 6) 250 124 0 0 6) 251 125 0 0 5)) 7 rfl ?_
  refine WP.copy rfl rfl rfl rfl rfl rfl (by omega) (by omega) (by decide) (by decide) ?_
  refine WP.run (pc' := 156) (L' := [.ref 121, .ref 247]) (st' := [.int (nI 5), .int (nI 0), .ref 127, .int (nI 0), .ref 253]) (I1 := (cpy (cpy (cpy (cpy (cpy (upN (upN (upN (upN (upN (upN (upN (upN (upN I 121 0 (I 247 0)) 121 1 (I 247 1)) 121 2 (I 247 2)) 121 3 (I 247 3)) 121 4 (I 247 4)) 121 5 (I 247 5)) 121 6 (I 247 6)) 121 7 (I 247 7)) 121 8 (I 247 8)) 248 122 0 0 6) 249 123 0 0 6) 250 124 0 0 6) 251 125 0 0 5) 252 126 0 0 5)) 7 rfl ?_
  refine WP.copy rfl rfl rfl rfl rfl rfl (by omega) (by omega) (by decide) (by decide) ?_
  refine WP.run (pc' := 170) (L' := [.ref 121, .ref 247]) (st' := [.int (nI 5), .int (nI 0), .ref 128, .int (nI 0), .ref 254]) (I1 := (cpy (cpy (cpy (cpy (cpy (cpy (upN (upN (upN (upN (upN (upN (upN (upN (upN I 121 0 (I 247 0)) 121 1 (I 247 1)) 121 2 (I 247 2)) 121 3 (I 247 3)) 121 4 (I 247 4)) 121 5 (I 247 5)) 121 6 (I 247 6)) 121 7 (I 247 7)) 121 8 (I 247 8)) 248 122 0 0 6) 249 123 0 0 6) 250 124 0 0 6) 251 125 0 0 5) 252 126 0 0 5) 253 127 0 0 5)) 7 rfl ?_
  refine WP.copy rfl rfl rfl rfl rfl rfl (by omega) (by omega) (by decide) (by decide) ?_
  exact WP.ret rfl rfl (⟨rfl, rfl⟩)
set_option maxRecDepth 100000 in
theorem sp_become_129_247 {d : Nat} {I : Pl} (hb : I 247 0 = 0 ∨ I 247 0 = 1) : Ev (d + 1) 2 [.ref 129, .ref 247] (mem I) (none) (mem (becN I 129 247)) := by
  refine Ev.only (EvX.enter rfl rfl rfl ?_)
  refine WP.run (pc' := 5) (L' := [.ref 129, .ref 247]) (st' := [.int (I 247 0), .ref 129]) (I1 := I) 3 rfl ?_
  refine WP.putB rfl rfl rfl rfl hb ?_
  refine WP.run (pc' := 84) (L' := [.ref 129, .ref 247]) (st' := [.int (nI 6), .int (nI 0), .ref 130, .int (nI 0), .ref 248]) (I1 := (upN (upN (upN (upN (upN (upN (upN (upN (upN I 129 0 (I 247 0)) 129 1 (I 247 1)) 129 2 (I 247 2)) 129 3 (I 247 3)) 129 4 (I 247 4)) 129 5 (I 247 5)) 129 6 (I 247 6)) 129 7 (I 247 7)) 129 8 (I 247 8))) 39 rfl ?_
  refine WP.copy rfl rfl rfl rfl rfl rfl (by omega) (by omega) (by decide) (by decide) ?_
  refine WP.run (pc' := 99) (L' := [.ref 129, .ref 247]) (st' := [.int (nI 6), .int (nI 0), .ref 131, .int (nI 0), .ref 249]) (I1 := (cpy (upN (upN (upN (upN (upN (upN (upN (upN (upN I 129 0 (I 247 0)) 129 1 (I 247 1)) 129 2 (I 247 2)) 129 3 (I 247 3)) 129 4 (I 247 4)) 129 5 (I 247 5)) 129 6 (I 247 6)) 129 7 (I 247 7)) 129 8 (I 247 8)) 248 130 0 0 6)) 7 rfl ?_
  refine WP.copy rfl rfl rfl rfl rfl rfl (by omega) (by omega) (by decide) (by decide) ?_
  refine WP.run (pc' := 114) (L' := [.ref 129, .ref 247]) (st' := [.int (nI 6), .int (nI 0), .ref 132, .int (nI 0), .ref 250]) (I1 := (cpy (cpy (upN (upN (upN (upN (upN (upN (upN (upN (upN I 129 0 (I 247 0)) 129 1 (I 247 1)) 129 2 (I 247 2)) 129 3 (I 247 3)) 129 4 (I 247 4)) 129 5 (I 247 5)) 129 6 (I 247 6)) 129 7 (I 247 7)) 129 8 (I 247 8)) 248 130 0 0 6) 249 131 0 0 6)) 7 rfl ?_
  refine WP.copy rfl rfl rfl rfl rfl rfl (by omega) (by omega) (by decide) (by decide) ?_
  refine WP.run (pc' := 128) (L' := [.ref 129, .ref 247]) (st' := [.int (nI 5), .int (nI 0), .ref 133, .int (nI 0), .ref 251]) (I1 := (cpy (cpy (cpy (upN (upN (upN (upN (upN (upN (upN (upN (upN I 129 0 (I 247 0)) 129 1 (I 247 1)) 129 2 (I 247 2)) 129 3 (I 247 3)) 129 4 (I 247 4)) 129 5 (I 247 5)) 129 6 (I 247 6)) 129 7 (I 247 7)) 129 8 (I 247 8)) 248 130 0 0 6) 249 131 0 0 6) 250 132 0 0 6)) 7 rfl ?_
  refine WP.copy rfl rfl rfl rfl rfl rfl (by omega) (by omega) (by decide) (by decide) ?_
  refine WP.run (pc' := 142) (L' := [.ref 129, .ref 247]) (st' := [.int (nI 5), .int (nI 0), .ref 134, .int (nI 0), .ref 252]) (I1 := (cpy (cpy (cpy (cpy (upN (upN (upN (upN (upN (upN (upN (upN (upN I 129 0 (I 247 0)) 129 1 (I 247 1)) 129 2 (I 247 2)) 129 3 (I 247 3)) 129 4 (I 247 4)) 129 5 (I 247 5)) 129 6 (I 247 6)) 129 7 (I 247 7)) 129 8 (I 247 8)) 248 130 0 0 6) 249 131 0 0 6) 250 132 0 0 6) 251 133 0 0 5)) 7 rfl ?_
  refine WP.copy rfl rfl rfl rfl rfl rfl (by omega) (by omega) (by decide) (by decide) ?_
  refine WP.run (pc' := 156) (L' := [.ref 129, .ref 247]) (st' := [.int (nI 5), .int (nI 0), .ref 135, .int (nI 0), .ref 253]) (I1 := (cpy (cpy (cpy (cpy (cpy (upN (upN (upN (upN (upN (upN (upN (upN (upN I 129 0 (I 247 0)) 129 1 (I 247 1)) 129 2 (I 247 2)) 129 3 (I 247 3)) 129 4 (I 247 4)) 129 5 (I 247 5)) 129 6 (I 247 6)) 129 7 (I 247 7)) 129 8 (I 247 8)) 248 130 0 0 6) 249 131 0 0 6) 250 132 0 0 6) 251 133 0 0 5) 252 134 0 0 5)) 7 rfl ?_
  refine WP.copy rfl rfl rfl rfl rfl rfl (by omega) (by omega) (by decide) (by decide) ?_
  refine WP.run (pc' := 170) (L' := [.ref 129, .ref 247]) (st' := [.int (nI 5), .int (nI 0), .ref 136, .int (nI 0), .ref 254]) (I1 := (cpy (cpy (cpy (cpy (cpy (cpy (upN (upN (upN (upN (upN (upN (upN (upN (upN I 129 0 (I 247 0)) 129 1 (I 247 1)) 129 2 (I 247 2)) 129 3 (I 247 3)) 129 4 (I 247 4)) 129 5 (I 247 5)) 129 6 (I 247 6)) 129 7 (I 247 7)) 129 8 (I 247 8)) 248 130 0 0 6) 249 131 0 0 6) 250 132 0 0 6) 251 133 0 0 5) 252 134 0 0 5) 253 135 0 0 5)) 7 rfl ?_
  refine WP.copy rfl rfl rfl rfl rfl rfl (by omega) (by omega) (by decide) (by decide) ?_
  exact WP.ret rfl rfl (⟨rfl, rfl⟩)
set_option maxRecDepth 100000 in
theorem sp_become_137_247 {d : Nat} {I : Pl} (hb : I 247 0 = 0 ∨ I 247 0 = 1) : Ev (d + 1) 2 [.ref 137, .ref 247] (mem I) (none) (mem (becN I 137 247)) := by
  refine Ev.only (EvX.enter rfl rfl rfl ?_)
  refine WP.run (pc' := 5) (L' := [.ref 137, .ref 247]) (st' := [.int (I 247 0), .ref 137]) (I1 := I) 3 rfl ?_
  refine WP.putB rfl rfl rfl rfl hb ?_
  refine WP.run (pc' := 84) (L' := [.ref 137, .ref 247]) (st' := [.int (nI 6), .int (nI 0), .ref 138, .int (nI 0), .ref 248]) (I1 := (upN (upN (upN (upN (upN (upN (upN (upN (upN I 137 0 (I 247 0)) 137 1 (I 247 1)) 137 2 (I 247 2)) 137 3 (I 247 3)) 137 4 (I 247 4)) 137 5 (I 247 5)) 137 6 (I 247 6)) 137 7 (I 247 7)) 137 8 (I 247 8))) 39 rfl ?_
  refine WP.copy rfl rfl rfl rfl rfl rfl (by omega) (by omega) (by decide) (by decide) ?_
  refine WP.run (pc' := 99) (L' := [.ref 137, .ref 247]) (st' := [.int (nI 6), .int (nI 0), .ref 139, .int (nI 0), .ref 249]) (I1 := (cpy (upN (upN (upN (upN (upN (upN (upN (upN (upN I 137 0 (I 247 0)) 137 1 (I 247 1)) 137 2 (I 247 2)) 137 3 (I 247 3)) 137 4 (I 247 4)) 137 5 (I 247 5)) 137 6 (I 247 6)) 137 7 (I 247 7)) 137 8 (I 247 8)) 248 138 0 0 6)) 7 rfl ?_
  refine WP.copy rfl rfl rfl rfl rfl rfl (by omega) (by omega) (by decide) (by decide) ?_
  refine WP.run (pc' := 114) (L' := [.ref 137, .ref 247]) (st' := [.int (nI 6), .int (nI 0), .ref 140, .int (nI 0), .ref 250]) (I1 := (cpy (cpy (upN (upN (upN (upN (upN (upN (upN (upN (upN I 137 0 (I 247 0)) 137 1 (I 247 1)) 137 2 (I 247 2)) 137 3 (I 247 3)) 137 4 (I 247 4)) 137 5 (I 247 5)) 137 6 (I 247 6)) 137 7 (I 247 7)) 137 8 (I 247 8)) 248 138 0 0 6) 249 139 0 0 6)) 7 rfl ?_
  refine WP.copy rfl rfl rfl rfl rfl rfl (by omega) (by omega) (by decide) (by decide) ?_
  refine WP.run (pc' := 128) (L' := [.ref 137, .ref 247]) (st' := [.int (nI 5), .int (nI 0), .ref 141, .int (nI 0), .ref 251]) (I1 := (cpy (cpy (cpy (upN (upN (upN (upN (upN (upN (upN (upN (upN I 137 0 (I 247 0)) 137 1 (I 247 1)) 137 2 (I 247 2)) 137 3 (I 247 3)) 137 4 (I 247 4)) 137 5 (I 247 5)) 137 6 (I 247 6)) 137 7 (I 247 7)) 137 8 (I 247 8)) 248 138 0 0 6) 249 139 0 0 6) 250 140 0 0 6)) 7 rfl ?_
  refine WP.copy rfl rfl rfl rfl rfl rfl (by omega) (by omega) (by decide) (by decide) ?_
  refine WP.run (pc' := 142) (L' := [.ref 137, .ref 247]) (st' := [.int (nI 5), .int (nI 0), .ref 142, .int (nI 0), .ref 252]) (I1 := (cpy (cpy (cpy (cpy (upN (upN (upN (upN (upN (upN (upN (upN (upN I 137 0 (I 247 0)) 137 1 (I 247 1)) 137 2 (I 247 2)) 137 3 (I 247 3)) 137 4 (I 247 4)) 137 5 (I 247 5)) 137 6 (I 247 6)) 137 7 (I 247 7)) 137 8 (I 247 8)) 248 138 0 0 6) 249 139 0 0 6) 250 140 0 0 6) 251 141 0 0 5)) 7 rfl ?_
  refine WP.copy rfl rfl rfl rfl rfl rfl (by omega) (by omega) (by decide) (by decide) ?_
  refine WP.run (pc' := 156) (L' := [.ref 137, .ref 247]) (st' := [.int (nI 5), .int (nI 0), .ref 143, .int (nI 0), .ref 253]) (I1 := (cpy (cpy (cpy (cpy (cpy (upN (upN (upN (upN (upN (upN (upN (upN (upN I 137 0 (I 247 0)) 137 1 (I 247 1)) 137 2 (I 247 2)) 137 3 (I 247 3)) 137 4 (I 247 4)) 137 5 (I 247 5)) 137 6 (I 247 6)) 137 7 (I 247 7)) 137 8 (I 247 8)) 248 138 0 0 6) 249 139 0 0 6) 250 140 0 0 6) 251 141 0 0 5) 252 142 0 0 5)) 7 rfl ?_
  refine WP.copy rfl rfl rfl rfl rfl rfl (by omega) (by omega) (by decide) (by decide) ?_
  refine WP.run (pc' := 170) (L' := [.ref 137, .ref 247]) (st' := [.int (nI 5), .int (nI 0), .ref 144, .int (nI 0), .ref 254]) (I1 := (cpy (cpy (cpy (cpy (cpy (cpy (upN (upN (upN (upN (upN (upN (upN (upN (upN I 137 0 (I 247 0)) 137 1 (I 247 1)) 137 2 (I 247 2)) 137 3 (I 247 3)) 137 4 (I 247 4)) 137 5 (I 247 5)) 137 6 (I 247 6)) 137 7 (I 247 7)) 137 8 (I 247 8)) 248 138 0 0 6) 249 139 0 0 6) 250 140 0 0 6) 251 141 0 0 5) 252 142 0 0 5) 253 143 0 0 5)) 7 rfl ?_
  refine WP.copy rfl rfl rfl rfl rfl rfl (by omega) (by omega) (by decide) (by decide) ?_
  exact WP.ret rfl rfl (⟨rfl, rfl⟩)
set_option maxRecDepth 100000 in
theorem sp_become_145_247 {d : Nat} {I : Pl} (hb : I 247 0 = 0 ∨ I 247 0 = 1) : Ev (d + 1) 2 [.ref 145, .ref 247] (mem I) (none) (mem (becN I 145 247)) := by
  refine Ev.only (EvX.enter rfl rfl rfl ?_)
  refine WP.run (pc' := 5) (L' := [.ref 145, .ref 247]) (st' := [.int (I 247 0), .ref 145]) (I1 := I) 3 rfl ?_
  refine WP.putB rfl rfl rfl rfl hb ?_
  refine WP.run (pc' := 84) (L' := [.ref 145, .ref 247]) (st' := [.int (nI 6), .int (nI 0), .ref 146, .int (nI 0), .ref 248]) (I1 := (upN (upN (upN (upN (upN (upN (upN (upN (upN I 145 0 (I 247 0)) 145 1 (I 247 1)) 145 2 (I 247 2)) 145 3 (I 247 3)) 145 4 (I 247 4)) 145 5 (I 247 5)) 145 6 (I 247 6)) 145 7 (I 247 7)) 145 8 (I 247 8))) 39 rfl ?_
  refine WP.copy rfl rfl rfl rfl rfl rfl (by omega) (by omega) (by decide) (by decide) ?_
  refine WP.run (pc' := 99) (L' := [.ref 145, .ref 247]) (st' := [.int (nI 6), .int (nI 0), .ref 147, .int (nI 0), .ref 249]) (I1 := (cpy (upN (upN (upN (upN (upN (upN (upN (upN (upN I 145 0 (I 247 0)) 145 1 (I 247 1)) 145 2 (I 247 2)) 145 3 (I 247 3)) 145 4 (I 247 4)) 145 5 (I 247 5)) 145 6 (I 247 6)) 145 7 (I 247 7)) 145 8 (I 247 8)) 248 146 0 0 6)) 7 rfl ?_
  refine WP.copy rfl rfl rfl rfl rfl rfl (by omega) (by omega) (by decide) (by decide) ?_
  refine WP.run (pc' := 114) (L' := [.ref 145, .ref 247]) (st' := [.int (nI 6), .int (nI 0), .ref 148, .int (nI 0), .ref 250]) (I1 := (cpy (cpy (upN (upN (upN (upN (upN (upN (upN (upN (upN I 145 0 (I 247 0)) 145 1 (I 247 1)) 145 2 (I 247 2)) 145 3 (I 247 3)) 145 4 (I 247 4)) 145 5 (I 247 5)) 145 6 (I 247 6)) 145 7 (I 247 7)) 145 8 (I 247 8)) 248 146 0 0 6) 249 147 0 0 6)) 7 rfl ?_
  refine WP.copy rfl rfl rfl rfl rfl rfl (by omega) (by omega) (by decide) (by decide) ?_
  refine WP.run (pc' := 128) (L' := [.ref 145, .ref 247]) (st' := [.int (nI 5), .int (nI 0), .ref 149, .int (nI 0), .ref 251]) (I1 := (cpy (cpy (cpy (upN (upN (upN (upN (upN (upN (upN (upN (upN I 145 0 (I 247 0)) 145 1 (I 247 1)) 145 2 (I 247 2)) 145 3 (I 247 3)) 145 4 (I 247 4)) 145 5 (I 247 5)) 145 6 (I 247 6)) 145 7 (I 247 7)) 145 8 (I 247 8)) 248 146 0 0 6) 249 147 0 0 6) 250 148 0 0 6)) 7 rfl ?_
  refine WP.copy rfl rfl rfl rfl rfl rfl (by omega) (by omega) (by decide) (by decide) ?_
  refine WP.run (pc' := 142) (L' := [.ref 145, .ref 247]) (st' := [.int (nI 5), .int (nI 0), .ref 150, .int (nI 0), .ref 252]) (I1 := (cpy (cpy (cpy (cpy (upN (upN (upN (upN (upN (upN (upN (upN (upN I 145 0 (I 247 0)) 145 1 (I 247 1)) 145 2 (I 247 2)) 145 3 (I 247 3)) 145 4 (I 247 4)) 145 5 (I 247 5)) 145 6 (I 247 6)) 145 7 (I 247 7)) 145 8 (I 247 8)) 248 146 0 0 6) 249 147 0 0 6) 250 148 0 0 6) 251 149 0 0 5)) 7 rfl ?_
  refine WP.copy rfl rfl rfl rfl rfl rfl (by omega) (by omega) (by decide) (by decide) ?_
  refine WP.run (pc' := 156) (L' := [.ref 145, .ref 247]) (st' := [.int (nI 5), .int (nI 0), .ref 151, .int (nI 0), .ref 253]) (I1 := (cpy (cpy (cpy (cpy (cpy (upN (upN (upN (upN (upN (upN (upN (upN (upN I 145 0 (I 247 0)) 145 1 (I 247 1)) 145 2 (I 247 2)) 145 3 (I 247 3)) 145 4 (I 247 4)) 145 5 (I 247 5)) 145 6 (I 247 6)) 145 7 (I 247 7)) 145 8 (I 247 8)) 248 146 0 0 6) 249 147 0 0 6) 250 148 0 0 6) 251 149 0 0 5) 252 150 0 0 5)) 7 rfl ?_
  refine WP.copy rfl rfl rfl rfl rfl rfl (by omega) (by omega) (by decide) (by decide) ?_
  refine WP.run (pc' := 170) (L' := [.ref 145, .ref 247]) (st' := [.int (nI 5), .int (nI 0), .ref 152, .int (nI 0), .ref 254]) (I1 := (cpy (cpy (cpy (cpy (cpy (cpy (upN (upN (upN (upN (upN (upN (upN (upN (upN I 145 0 (I 247 0)) 145 1 (I 247 1)) 145 2 (I 247 2)) 145 3 (I 247 3)) 145 4 (I 247 4)) 145 5 (I 247 5)) 145 6 (I 247 6)) 145 7 (I 247 7)) 145 8 (I 247 8)) 248 146 0 0 6) 249 147 0 0 6) 250 148 0 0 6) 251 149 0 0 5) 252 150 0 0 5) 253 151 0 0 5)) 7 rfl ?_
  refine WP.copy rfl rfl rfl rfl rfl rfl (by omega) (by omega) (by decide) (by decide) ?_
  exact WP.ret rfl rfl (⟨rfl, rfl⟩)
set_option maxRecDepth 100000 in
theorem sp_become_153_247 {d : Nat} {I : Pl} (hb : I 247 0 = 0 ∨ I 247 0 = 1) : Ev (d + 1) 2 [.ref 153, .ref 247] (mem I) (none) (mem (becN I 153 247)) := by
  refine Ev.only (EvX.enter rfl rfl rfl ?_)
  refine WP.run (pc' := 5) (L' := [.ref 153, .ref 247]) (st' := [.int (I 247 0), .ref 153]) (I1 := I) 3 rfl ?_
  refine WP.putB rfl rfl rfl rfl hb ?_
  refine WP.run (pc' := 84) (L' := [.ref 153, .ref 247]) (st' := [.int (nI 6), .int (nI 0), .ref 154, .int (nI 0), .ref 248]) (I1 := (upN (upN (upN (upN (upN (upN (upN (upN (upN I 153 0 (I 247 0)) 153 1 (I 247 1)) 153 2 (I 247 2)) 153 3 (I 247 3)) 153 4 (I 247 4)) 153 5 (I 247 5)) 153 6 (I 247 6)) 153 7 (I 247 7)) 153 8 (I 247 8))) 39 rfl ?_
  refine WP.copy rfl rfl rfl rfl rfl rfl (by omega) (by omega) (by decide) (by decide) ?_
  refine WP.run (pc' := 99) (L' := [.ref 153, .ref 247]) (st' := [.int (nI 6), .int (nI 0), .ref 155, .int (nI 0), .ref 249]) (I1 := (cpy (upN (upN (upN (upN (upN (upN (upN (upN (upN I 153 0 (I 247 0)) 153 1 (I 247 1)) 153 2 (I 247 2)) 153 3 (I 247 3)) 153 4 (I 247 4)) 153 5 (I 247 5)) 153 6 (I 247 6)) 153 7 (I 247 7)) 153 8 (I 247 8)) 248 154 0 0 6)) 7 rfl ?_
  refine WP.copy rfl rfl rfl rfl rfl rfl (by omega) (by omega) (by decide) (by decide) ?_
  refine WP.run (pc' := 114) (L' := [.ref 153, .ref 247]) (st' := [.int (nI 6), .int (nI 0), .ref 156, .int (nI 0), .ref 250]) (I1 := (cpy (cpy (upN (upN (upN (upN (upN (upN (upN (upN (upN I 153 0 (I 247 0)) 153 1 (I 247 1)) 153 2 (I 247 2)) 153 3 (I 247 3)) 153 4 (I 247 4)) 153 5 (I 247 5)) 153 6 (I 247 6)) 153 7 (I 247 7)) 153 8 (I 247 8)) 248 154 0 0 6) 249 155 0 0 6)) 7 rfl ?_
  refine WP.copy rfl rfl rfl rfl rfl rfl (by omega) (by omega) (by decide) (by decide) ?_
  refine WP.run (pc' := 128) (L' := [.ref 153, .ref 247]) (st' := [.int (nI 5), .int (nI 0), .ref 157, .int (nI 0), .ref 251]) (I1 := (cpy (cpy (cpy (upN (upN (upN (upN (upN (upN (upN (upN (upN I 153 0 (I 247 0)) 153 1 (I 247 1)) 153 2 (I 247 2)) 153 3 (I 247 3)) 153 4 (I 247 4)) 153 5 (I 247 5)) 153 6 (I 247 6)) 153 7 (I 247 7)) 153 8 (I 247 8)) 248 154 0 0 6) 249 155 0 0 6) 250 156 0 0 6)) 7 rfl ?_
  refine WP.copy rfl rfl rfl rfl rfl rfl (by omega) (by omega) (by decide) (by decide) ?_
  refine WP.run (pc' := 142) (L' := [.ref 153, .ref 247]) (st' := [.int (nI 5), .int (nI 0), .ref 158, .int (nI 0), .ref 252]) (I1 := (cpy (cpy (cpy (cpy (upN (upN (upN (upN (upN (upN (upN (upN (upN I 153 0 (I 247 0)) 153 1 (I 247 1)) 153 2 (I 247 2)) 153 3 (I 247 3)) 153 4 (I 247 4)) 153 5 (I 247 5)) 153 6 (I 247 6)) 153 7 (I 247 7)) 153 8 (I 247 8)) 248 154 0 0 6) 249 155 0 0 6) 250 156 0 0 6) 251 157 0 0 5)) 7 rfl ?_
  refine WP.copy rfl rfl rfl rfl rfl rfl (by omega) (by omega) (by decide) (by decide) ?_
  refine WP.run (pc' := 156) (L' := [.ref 153, .ref 247]) (st' := [.int (nI 5), .int (nI 0), .ref 159, .int (nI 0), .ref 253]) (I1 := (cpy (cpy (cpy (cpy (cpy (upN (upN (upN (upN (upN (upN (upN (upN (upN I 153 0 (I 247 0)) 153 1 (I 247 1)) 153 2 (I 247 2)) 153 3 (I 247 3)) 153 4 (I 247 4)) 153 5 (I 247 5)) 153 6 (I 247 6)) 153 7 (I 247 7)) 153 8 (I 247 8)) 248 154 0 0 6) 249 155 0 0 6) 250 156 0 0 6) 251 157 0 0 5) 252 158 0 0 5)) 7 rfl ?_
  refine WP.copy rfl rfl rfl rfl rfl rfl (by omega) (by omega) (by decide) (by decide) ?_
  refine WP.run (pc' := 170) (L' := [.ref 153, .ref 247]) (st' := [.int (nI 5), .int (nI 0), .ref 160, .int (nI 0), .ref 254]) (I1 := (cpy (cpy (cpy (cpy (cpy (cpy (upN (upN (upN (upN (upN (upN (upN (upN (upN I 153 0 (I 247 0)) 153 1 (I 247 1)) 153 2 (I 247 2)) 153 3 (I 247 3)) 153 4 (I 247 4)) 153 5 (I 247 5)) 153 6 (I 247 6)) 153 7 (I 247 7)) 153 8 (I 247 8)) 248 154 0 0 6) 249 155 0 0 6) 250 156 0 0 6) 251 157 0 0 5) 252 158 0 0 5) 253 159 0 0 5)) 7 rfl ?_
  refine WP.copy rfl rfl rfl rfl rfl rfl (by omega) (by omega) (by decide) (by decide) ?_
  exact WP.ret rfl rfl (⟨rfl, rfl⟩)
set_option maxRecDepth 100000 in
theorem sp_become_161_247 {d : Nat} {I : Pl} (hb : I 247 0 = 0 ∨ I 247 0 = 1) : Ev (d + 1) 2 [.ref 161, .ref 247] (mem I) (none) (mem (becN I 161 247)) := by
  refine Ev.only (EvX.enter rfl rfl rfl ?_)
  refine WP.run (pc' := 5) (L' := [.ref 161, .ref 247]) (st' := [.int (I 247 0), .ref 161]) (I1 := I) 3 rfl ?_
  refine WP.putB rfl rfl rfl rfl hb ?_
  refine WP.run (pc' := 84) (L' := [.ref 161, .ref 247]) (st' := [.int (nI 6), .int (nI 0), .ref 162, .int (nI 0), .ref 248]) (I1 := (upN (upN (upN (upN (upN (upN (upN (upN (upN I 161 0 (I 247 0)) 161 1 (I 247 1)) 161 2 (I 247 2)) 161 3 (I 247 3)) 161 4 (I 247 4)) 161 5 (I 247 5)) 161 6 (I 247 6)) 161 7 (I 247 7)) 161 8 (I 247 8))) 39 rfl ?_
  refine WP.copy rfl rfl rfl rfl rfl rfl (by omega) (by omega) (by decide) (by decide) ?_
  refine WP.run (pc' := 99) (L' := [.ref 161, .ref 247]) (st' := [.int (nI 6), .int (nI 0), .ref 163, .int (nI 0), .ref 249]) (I1 := (cpy (upN (upN (upN (upN (upN (upN (upN (upN (upN I 161 0 (I 247 0)) 161 1 (I 247 1)) 161 2 (I 247 2)) 161 3 (I 247 3)) 161 4 (I 247 4)) 161 5 (I 247 5)) 161 6 (I 247 6)) 161 7 (I 247 7)) 161 8 (I 247 8)) 248 162 0 0 6)) 7 rfl ?_
  refine WP.copy rfl rfl rfl rfl rfl rfl (by omega) (by omega) (by decide) (by decide) ?_
  refine WP.run (pc' := 114) (L' := [.ref 161, .ref 247]) (st' := [.int (nI 6), .int (nI 0), .ref 164, .int (nI 0), .ref 250]) (I1 := (cpy (cpy (upN (upN (upN (upN (upN (upN (upN (upN (upN I 161 0 (I 247 0)) 161 1 (I 247 1)) 161 2 (I 247 2)) 161 3 (I 247 3)) 161 4 (I 247 4)) 161 5 (I 247 5)) 161 6 (I 247 6)) 161 7 (I 247 7)) 161 8 (I 247 8)) 248 162 0 0 6) 249 163 0 0 6)) 7 rfl ?_
  refine WP.copy rfl rfl rfl rfl rfl rfl (by omega) (by omega) (by decide) (by decide) ?_
  refine WP.run (pc' := 128) (L' := [.ref 161, .ref 247]) (st' := [.int (nI 5), .int (nI 0), .ref 165, .int (nI 0), .ref 251]) (I1 := (cpy (cpy (cpy (upN (upN (upN (upN (upN (upN (upN (upN (upN I 161 0 (I 247 0)) 161 1 (I 247 1)) 161 2 (I 247 2)) 161 3 (I 247 3)) 161 4 (I 247 4)) 161 5 (I 247 5)) 161 6 (I 247 6)) 161 7 (I 247 7)) 161 8 (I 247 8)) 248 162 0 0 6) 249 163 0 0 6) 250 164 0 0 6)) 7 rfl ?_
  refine WP.copy rfl rfl rfl rfl rfl rfl (by omega) (by omega) (by decide) (by decide) ?_
  refine WP.run (pc' := 142) (L' := [.ref 161, .ref 247]) (st' := [.int (nI 5), .int (nI 0), .ref 166, .int (nI 0), .ref 252]) (I1 := (cpy (cpy (cpy (cpy (upN (upN (upN (upN (upN (upN (upN (upN (upN I 161 0 (I 247 0)) 161 1 (I 247 1)) 161 2 (I 247 2)) 161 3 (I 247 3)) 161 4 (I 247 4)) 161 5 (I 247 5)) 161 6 (I 247 6)) 161 7 (I 247 7)) 161 8 (I 247 8)) 248 162 0 0 6) 249 163 0 0 6) 250 164 0 0 6) 251 165 0 0 5)) 7 rfl ?_
  refine WP.copy rfl rfl rfl rfl rfl rfl (by omega) (by omega) (by decide) (by decide) ?_
  refine WP.run (pc' := 156) (L' := [.ref 161, .ref 247]) (st' := [.int (nI 5), .int (nI 0), .ref 167, .int (nI 0), .ref 253]) (I1 := (cpy (cpy (cpy (cpy (cpy (upN (upN (upN (upN (upN (upN (upN (upN (upN I 161 0 (I 247 0)) 161 1 (I 247 1)) 161 2 (I 247 2)) 161 3 (I 247 3)) 161 4 (I 247 4)) 161 5 (I 247 5)) 161 6 (I 247 6)) 161 7 (I 247 7)) 161 8 (I 247 8)) 248 162 0 0 6) 249 163 0 0 6) 250 164 0 0 6) 251 165 0 0 5) 252 166 0 0 5)) 7 rfl ?_
  refine WP.copy rfl rfl rfl rfl rfl rfl (by omega) (by omega) (by decide) (by decide) ?_
  refine WP.run (pc' := 170) (L' := [.ref 161, .ref 247]) (st' := [.int (nI 5), .int (nI 0), .ref 168, .int (nI 0), .ref 254]) (I1 := (cpy (cpy (cpy (cpy (cpy (cpy (upN (upN (upN (upN (upN (upN (upN (upN (upN I 161 0 (I 247 0)) 161 1 (I 247 1)) 161 2 (I 247 2)) 161 3 (I 247 3)) 161 4 (I 247 4)) 161 5 (I 247 5)) 161 6 (I 247 6)) 161 7 (I 247 7)) 161 8 (I 247 8)) 248 162 0 0 6) 249 163 0 0 6) 250 164 0 0 6) 251 165 0 0 5) 252 166 0 0 5) 253 167 0 0 5)) 7 rfl ?_
  refine WP.copy rfl rfl rfl rfl rfl rfl (by omega) (by omega) (by decide) (by decide) ?_
  exact WP.ret rfl rfl (⟨rfl, rfl⟩)
set_option maxRecDepth 100000 in
theorem sp_become_169_247 {d : Nat} {I : Pl} (hb : I 247 0 = 0 ∨ I 247 0 = 1) : Ev (d + 1) 2 [.ref 169, .ref 247] (mem I) (none) (mem (becN I 169 247)) := by
  refine Ev.only (EvX.enter rfl rfl rfl ?_)
  refine WP.run (pc' := 5) (L' := [.ref 169, .ref 247]) (st' := [.int (I 247 0), .ref 169]) (I1 := I) 3 rfl ?_
  refine WP.putB rfl rfl rfl rfl hb ?_
  refine WP.run (pc' := 84) (L' := [.ref 169, .ref 247]) (st' := [.int (nI 6), .int (nI 0), .ref 170, .int (nI 0), .ref 248]) (I1 := (upN (upN (upN (upN (upN (upN (upN (upN (upN I 169 0 (I 247 0)) 169 1 (I 247 1)) 169 2 (I 247 2)) 169 3 (I 247 3)) 169 4 (I 247 4)) 169 5 (I 247 5)) 169 6 (I 247 6)) 169 7 (I 247 7)) 169 8 (I 247 8))) 39 rfl ?_
  refine WP.copy rfl rfl rfl rfl rfl rfl (by omega) (by omega) (by decide) (by decide) ?_
  refine WP.run (pc' := 99) (L' := [.ref 169, .ref 247]) (st' := [.int (nI 6), .int (nI 0), .ref 171, .int (nI 0), .ref 249]) (I1 := (cpy (upN (upN (upN (upN (upN (upN (upN (upN (upN I 169 0 (I 247 0)) 169 1 (I 247 1)) 169 2 (I 247 2)) 169 3 (I 247 3)) 169 4 (I 247 4)) 169 5 (I 247 5)) 169 6 (I 247 6)) 169 7 (I 247 7)) 169 8 (I 247 8)) 248 170 0 0 6)) 7 rfl ?_
  refine WP.copy rfl rfl rfl rfl rfl rfl (by omega) (by omega) (by decide) (by decide) ?_
  refine WP.run (pc' := 114) (L' := [.ref 169, .ref 247]) (st' := [.int (nI 6), .int (nI 0), .ref 172, .int (nI 0), .ref 250]) (I1 := (cpy (cpy (upN (upN (upN (upN (upN (upN (upN (upN (upN I 169 0 (I 247 0)) 169 1 (I 247 1)) 169 2 (I 247 2)) 169 3 (I 247 3)) 169 4 (I 247 4)) 169 5 (I 247 5)) 169 6 (I 247 6)) 169 7 (I 247 7)) 169 8 (I 247 8)) 248 170 0 0 6) 249 171 0 0 6)) 7 rfl ?_
  refine WP.copy rfl rfl rfl rfl rfl rfl (by omega) (by omega) (by decide) (by decide) ?_
  refine WP.run (pc' := 128) (L' := [.ref 169, .ref 247]) (st' := [.int (nI 5), .int (nI 0), .ref 173, .int (nI 0), .ref 251]) (I1 := (cpy (cpy (cpy (upN (upN (upN (upN (upN (upN (upN (upN (upN I 169 0 (I 247 0)) 169 1 (I 247 1)) 169 2 (I 247 2)) 169 3 (I 247 3)) 169 4 (I 247 4)) 169 5 (I 247 5)) 169 6 (I 247 6)) 169 7 (I 247 7)) 169 8 (I 247 8)) 248 170 0 0 6) 249 171 0 0 6) 250 172 0 0 6)) 7 rfl ?_
  refine WP.copy rfl rfl rfl rfl rfl rfl (by omega) (by omega) (by decide) (by decide) ?_
  refine WP.run (pc' := 142) (L' := [.ref 169, .ref 247]) (st' := [.int (nI 5), .int (nI 0), .ref 174, .int (nI 0), .ref 252]) (I1 := (cpy (cpy (cpy (cpy (upN (upN (upN (upN (upN (upN (upN (upN (upN I 169 0 (I 247 0)) 169 1 (I 247 1)) 169 2 (I 247 2)) 169 3 (I 247 3)) 169 4 (I 247 4)) 169 5 (I 247 5)) 169 6 (I 247 6)) 169 7 (I 247 7)) 169 8 (I 247 8)) 248 170 0 0 6) 249 171 0 0 6) 250 172 0 0 6) 251 173 0 0 5)) 7 rfl ?_
  refine WP.copy rfl rfl rfl rfl rfl rfl (by omega) (by omega) (by decide) (by decide) ?_
  refine WP.run (pc' := 156) (L' := [.ref 169, .ref 247]) (st' := [.int (nI 5), .int (nI 0), .ref 175, .int (nI 0), .ref 253]) (I1 := (cpy (cpy (cpy (cpy (cpy (upN (upN (upN (upN (upN (upN (upN (upN (upN I 169 0 (I 247 0)) 169 1 (I 247 1)) 169 2 (I 247 2)) 169 3 (I 247 3)) 169 4 (I 247 4)) 169 5 (I 247 5)) 169 6 (I 247 6)) 169 7 (I 247 7)) 169 8 (I 247 8)) 248 170 0 0 6) 249 171 0 0 6) 250 172 0 0 6) 251 173 0 0 5) 252 174 0 0 5)) 7 rfl ?_
  refine WP.copy rfl rfl rfl rfl rfl rfl (by omega) (by omega) (by decide) (by decide) ?_
  refine WP.run (pc' := 170) (L' := [.ref 169, .ref 247]) (st' := [.int (nI 5), .int (nI 0), .ref 176, .int (nI 0), .ref 254]) (I1 := (cpy (cpy (cpy (cpy (cpy (cpy (upN (upN (upN (upN (upN (upN (upN (upN (upN I 169 0 (I 247 0)) 169 1 (I 247 1)) 169 2 (I 247 2)) 169 3 (I 247 3)) 169 4 (I 247 4)) 169 5 (I 247 5)) 169 6 (I 247 6)) 169 7 (I 247 7)) 169 8 (I 247 8)) 248 170 0 0 6) 249 171 0 0 6) 250 172 0 0 6) 251 173 0 0 5) 252 174 0 0 5) 253 175 0 0 5)) 7 rfl ?_
  refine WP.copy rfl rfl rfl rfl rfl rfl (by omega) (by omega) (by decide) (by decide) ?_
  exact WP.ret rfl rfl (⟨rfl, rfl⟩)
set_option maxRecDepth 100000 in
theorem sp_become_177_247 {d : Nat} {I : Pl} (hb : I 247 0 = 0 ∨ I 247 0 = 1) : Ev (d + 1) 2 [.ref 177, .ref 247] (mem I) (none) (mem (becN I 177 247)) := by
  refine Ev.only (EvX.enter rfl rfl rfl ?_)
  refine WP.run (pc' := 5) (L' := [.ref 177, .ref 247]) (st' := [.int (I 247 0), .ref 177]) (I1 := I) 3 rfl ?_
  refine WP.putB rfl rfl rfl rfl hb ?_
  refine WP.run (pc' := 84) (L' := [.ref 177, .ref 247]) (st' := [.int (nI 6), .int (nI 0), .ref 178, .int (nI 0), .ref 248]) (I1 := (upN (upN (upN (upN (upN (upN (upN (upN (upN I 177 0 (I 247 0)) 177 1 (I 247 1)) 177 2 (I 247 2)) 177 3 (I 247 3)) 177 4 (I 247 4)) 177 5 (I 247 5)) 177 6 (I 247 6)) 177 7 (I 247 7)) 177 8 (I 247 8))) 39 rfl ?_
  refine WP.copy rfl rfl rfl rfl rfl rfl (by omega) (by omega) (by decide) (by decide) ?_
  refine WP.run (pc' := 99) (L' := [.ref 177, .ref 247]) (st' := [.int (nI 6), .int (nI 0), .ref 179, .int (nI 0), .ref 249]) (I1 := (cpy (upN (upN (upN (upN (upN (upN (upN (upN (upN I 177 0 (I 247 0)) 177 1 (I 247 1)) 177 2 (I 247 2)) 177 3 (I 247 3)) 177 4 (I 247 4)) 177 5 (I 247 5)) 177 6 (I 247 6)) 177 7 (I 247 7)) 177 8 (I 247 8)) 248 178 0 0 6)) 7 rfl ?_
  refine WP.copy rfl rfl rfl rfl rfl rfl (by omega) (by omega) (by decide) (by decide) ?_
  refine WP.run (pc' := 114) (L' := [.ref 177, .ref 247]) (st' := [.int (nI 6), .int (nI 0), .ref 180, .int (nI 0), .ref 250]) (I1 := (cpy (cpy (upN (upN (upN (upN (upN (upN (upN (upN (upN I 177 0 (I 247 0)) 177 1 (I 247 1)) 177 2 (I 247 2)) 177 3 (I 247 3)) 177 4 (I 247 4)) 177 5 (I 247 5)) 177 6 (I 247 6)) 177 7 (I 247 7)) 177 8 (I 247 8)) 248 178 0 0 6) 249 179 0 0 6)) 7 rfl ?_
  refine WP.copy rfl rfl rfl rfl rfl rfl (by omega) (by omega) (by decide) (by decide) ?_
  refine WP.run (pc' := 128) (L' := [.ref 177, .ref 247]) (st' := [.int (nI 5), .int (nI 0), .ref 181, .int (nI 0), .ref 251]) (I1 := (cpy (cpy (cpy (upN (upN (upN (upN (upN (upN (upN (upN (upN I 177 0 (I 247 0)) 177 1 (I 247 1)) 177 2 (I 247 2)) 177 3 (I 247 3)) 177 4 (I 247 4)) 177 5 (I 247 5)) 177 6 (I 247 6)) 177 7 (I 247 7)) 177 8 (I 247 8)) 248 178 0 0 6) 249 179 0 0 6) 250 180 0 0 6)) 7 rfl ?_
  refine WP.copy rfl rfl rfl rfl rfl rfl (by omega) (by omega) (by decide) (by decide) ?_
  refine WP.run (pc' := 142) (L' := [.ref 177, .ref 247]) (st' := [.int (nI 5), .int (nI 0), .ref 182, .int (nI 0), .ref 252]) (I1 := (cpy (cpy (cpy (cpy (upN (upN (upN (upN (upN (upN (upN (upN (upN I 177 0 (I 247 0)) 177 1 (I 247 1)) 177 2 (I 247 2)) 177 3 (I 247 3)) 177 4 (I 247 4)) 177 5 (I 247 5)) 177 6 (I 247 6)) 177 7 (I 247 7)) 177 8 (I 247 8)) 248 178 0 0 6) 249 179 0 0 6) 250 180 0 0 6) 251 181 0 0 5)) 7 rfl ?_
  refine WP.copy rfl rfl rfl rfl rfl rfl (by omega) (by omega) (by decide) (by decide) ?_
  refine WP.run (pc' := 156) (L' := [.ref 177, .ref 247]) (st' := [.int (nI 5), .int (nI 0), .ref 183, .int (nI 0), .ref 253]) (I1 := (cpy (cpy (cpy (cpy (cpy (upN (upN (upN (upN (upN (upN (upN (upN (upN I 177 0 (I 247 0)) 177 1 (I 247 1)) 177 2 (I 247 2)) 177 3 (I 247 3)) 177 4 (I 247 4)) 177 5 (I 247 5)) 177 6 (I 247 6)) 177 7 (I 247 7)) 177 8 (I 247 8)) 248 178 0 0 6) 249 179 0 0 6) 250 180 0 0 6) 251 181 0 0 5) 252 182 0 0 5)) 7 rfl ?_
  refine WP.copy rfl rfl rfl rfl rfl rfl (by omega) (by omega) (by decide) (by decide) ?_
  refine WP.run (pc' := 170) (L' := [.ref 177, .ref 247]) (st' := [.int (nI 5), .int (nI 0), .ref 184, .int (nI 0), .ref 254]) (I1 := (cpy (cpy (cpy (cpy (cpy (cpy (upN (upN (upN (upN (upN (upN (upN (upN (upN I 177 0 (I 247 0)) 177 1 (I 247 1)) 177 2 (I 247 2)) 177 3 (I 247 3)) 177 4 (I 247 4)) 177 5 (I 247 5)) 177 6 (I 247 6)) 177 7 (I 247 7)) 177 8 (I 247 8)) 248 178 0 0 6) 249 179 0 0 6) 250 180 0 0 6) 251 181 0 0 5) 252 182 0 0 5) 253 183 0 0 5)) 7 rfl ?_
  refine WP.copy rfl rfl rfl rfl rfl rfl (by omega) (by omega) (by decide) (by decide) ?_
  exact WP.ret rfl rfl (⟨rfl, rfl⟩)
set_option maxRecDepth 100000 in
theorem sp_become_185_247 {d : Nat} {I : Pl} (hb : I 247 0 = 0 ∨ I 247 0 = 1) : Ev (d + 1) 2 [.ref 185, .ref 247] (mem I) (none) (mem (becN I 185 247)) := by
  refine Ev.only (EvX.enter rfl rfl rfl ?_)
  refine WP.run (pc' := 5) (L' := [.ref 185, .ref 247]) (st' := [.int (I 247 0), .ref 185]) (I1 := I) 3 rfl ?_
  refine WP.putB rfl rfl rfl rfl hb ?_
  refine WP.run (pc' := 84) (L' := [.ref 185, .ref 247]) (st' := [.int (nI 6), .int (nI 0), .ref 186, .int (nI 0), .ref 248]) (I1 := (upN (upN (upN (upN (upN (upN (upN (upN (upN I 185 0 (I 247 0)) 185 1 (I 247 1)) 185 2 (I 247 2)) 185 3 (I 247 3)) 185 4 (I 247 4)) 185 5 (I 247 5)) 185 6 (I 247 6)) 185 7 (I 247 7)) 185 8 (I 247 8))) 39 rfl ?_
  refine WP.copy rfl rfl rfl rfl rfl rfl (by omega) (by omega) (by decide) (by decide) ?_
  refine WP.run (pc' := 99) (L' := [.ref 185, .ref 247]) (st' := [.int (nI 6), .int (nI 0), .ref 187, .int (nI 0), .ref 249]) (I1 := (cpy (upN (upN (upN (upN (upN (upN (upN (upN (upN I 185 0 (I 247 0)) 185 1 (I 247 1)) 185 2 (I 247 2)) 185 3 (I 247 3)) 185 4 (I 247 4)) 185 5 (I 247 5)) 185 6 (I 247 6)) 185 7 (I 247 7)) 185 8 (I 247 8)) 248 186 0 0 6)) 7 rfl ?_
  refine WP.copy rfl rfl rfl rfl rfl rfl (by omega) (by omega) (by decide) (by decide) ?_
  refine WP.run (pc' := 114) (L' := [.ref 185, .ref 247]) (st' := [.int (nI 6), .int (nI 0), .ref 188, .int (nI 0), .ref 250]) (I1 := (cpy (cpy (upN (upN (upN (upN (upN (upN (upN (upN (upN I 185 0 (I 247 0)) 185 1 (I 247 1)) 185 2 (I 247 2)) 185 3 (I 247 3)) 185 4 (I 247 4)) 185 5 (I 247 5)) 185 6 (I 247 6)) 185 7 (I 247 7)) 185 8 (I 247 8)) 248 186 0 0 6) 249 187 0 0 6)) 7 rfl ?_
  refine WP.copy rfl rfl rfl rfl rfl rfl (by omega) (by omega) (by decide) (by decide) ?_
  refine WP.run (pc' := 128) (L' := [.ref 185, .ref 247]) (st' := [.int (nI 5), .int (nI 0), .ref 189, .int (nI 0), .ref 251]) (I1 := (cpy (cpy (cpy (upN (upN (upN (upN (upN (upN (upN (upN (upN I 185 0 (I 247 0)) 185 1 (I 247 1)) 185 2 (I 247 2)) 185 3 (I 247 3)) 185 4 (I 247 4)) 185 5 (I 247 5)) 185 6 (I 247 6)) 185 7 (I 247 7)) 185 8 (I 247 8)) 248 186 0 0 6) 249 187 0 0 6) 250 188 0 0 6)) 7 rfl ?_
  refine WP.copy rfl rfl rfl rfl rfl rfl (by omega) (by omega) (by decide) (by decide) ?_
  refine WP.run (pc' := 142) (L' := [.ref 185, .ref 247]) (st' := [.int (nI 5), .int (nI 0), .ref 190, .int (nI 0), .ref 252]) (I1 := (cpy (cpy (cpy (cpy (upN (upN (upN (upN (upN (upN (upN (upN (upN I 185 0 (I 247 0)) 185 1 (I 247 1)) 185 2 (I 247 2)) 185 3 (I 247 3)) 185 4 (I 247 4)) 185 5 (I 247 5)) 185 6 (I 247 6)) 185 7 (I 247 7)) 185 8 (I 247 8)) 248 186 0 0 6) 249 187 0 0 6) 250 188 0 0 6) 251 189 0 0 5)) 7 rfl ?_
  refine WP.copy rfl rfl rfl rfl rfl rfl (by omega) (by omega) (by decide) (by decide) ?_
  refine WP.run (pc' := 156) (L' := [.ref 185, .ref 247]) (st' := [.int (nI 5), .int (nI 0), .ref 191, .int (nI 0), .ref 253]) (I1 := (cpy (cpy (cpy (cpy (cpy (upN (upN (upN (upN (upN (upN (upN (upN (upN I 185 0 (I 247 0)) 185 1 (I 247 1)) 185 2 (I 247 2)) 185 3 (I 247 3)) 185 4 (I 247 4)) 185 5 (I 247 5)) 185 6 (I 247 6)) 185 7 (I 247 7)) 185 8 (I 247 8)) 248 186 0 0 6) 249 187 0 0 6) 250 188 0 0 6) 251 189 0 0 5) 252 190 0 0 5)) 7 rfl ?_
  refine WP.copy rfl rfl rfl rfl rfl rfl (by omega) (by omega) (by decide) (by decide) ?_
  refine WP.run (pc' := 170) (L' := [.ref 185, .ref 247]) (st' := [.int (nI 5), .int (nI 0), .ref 192, .int (nI 0), .ref 254]) (I1 := (cpy (cpy (cpy (cpy (cpy (cpy (upN (upN (upN (upN (upN (upN (upN (upN (upN I 185 0 (I 247 0)) 185 1 (I 247 1)) 185 2 (I 247 2)) 185 3 (I 247 3)) 185 4 (I 247 4)) 185 5 (I 247 5)) 185 6 (I 247 6)) 185 7 (I 247 7)) 185 8 (I 247 8)) 248 186 0 0 6) 249 187 0 0 6) 250 188 0 0 6) 251 189 0 0 5) 252 190 0 0 5) 253 191 0 0 5)) 7 rfl ?_
  refine WP.copy rfl rfl rfl rfl rfl rfl (by omega) (by omega) (by decide) (by decide) ?_
  exact WP.ret rfl rfl (⟨rfl, rfl⟩)
set_option maxRecDepth 100000 in
theorem sp_become_193_247 {d : Nat} {I : Pl} (hb : I 247 0 = 0 ∨ I 247 0 = 1) : Ev (d + 1) 2 [.ref 193, .ref 247] (mem I) (none) (mem (becN I 193 247)) := by
  refine Ev.only (EvX.enter rfl rfl rfl ?_)
  refine WP.run (pc' := 5) (L' := [.ref 193, .ref 247]) (st' := [.int (I 247 0), .ref 193]) (I1 := I) 3 rfl ?_
  refine WP.putB rfl rfl rfl rfl hb ?_
  refine WP.run (pc' := 84) (L' := [.ref 193, .ref 247]) (st' := [.int (nI 6), .int (nI 0), .ref 194, .int (nI 0), .ref 248]) (I1 := (upN (upN (upN (upN (upN (upN (upN (upN (upN I 193 0 (I 247 0)) 193 1 (I 247 1)) 193 2 (I 247 2)) 193 3 (I 247 3)) 193 4 (I 247 4)) 193 5 (I 247 5)) 193 6 (I 247 6)) 193 7 (I 247 7)) 193 8 (I 247 8))) 39 rfl ?_
  refine WP.copy rfl rfl rfl rfl rfl rfl (by omega) (by omega) (by decide) (by decide) ?_
  refine WP.run (pc' := 99) (L' := [.ref 193, .ref 247]) (st' := [.int (nI 6), .int (nI 0), .ref 195, .int (nI 0), .ref 249]) (I1 := (cpy (upN (upN (upN (upN (upN (upN (upN (upN (upN I 193 0 (I 247 0)) 193 1 (I 247 1)) 193 2 (I 247 2)) 193 3 (I 247 3)) 193 4 (I 247 4)) 193 5 (I 247 5)) 193 6 (I 247 6)) 193 7 (I 247 7)) 193 8 (I 247 8)) 248 194 0 0 6)) 7 rfl ?_
  refine WP.copy rfl rfl rfl rfl rfl rfl (by omega) (by omega) (by decide) (by decide) ?_
  refine WP.run (pc' := 114) (L' := [.ref 193, .ref 247]) (st' := [.int (nI 6), .int (nI 0), .ref 196, .int (nI 0), .ref 250]) (I1 := (cpy (cpy (upN (upN (upN (upN (upN (upN (upN (upN (upN I 193 0 (I 247 0)) 193 1 (I 247 1)) 193 2 (I 247 2)) 193 3 (I 247 3)) 193 4 (I 247 4)) 193 5 (I 247 5)) 193 6 (I 247 6)) 193 7 (I 247 7)) 193 8 (I 247 8)) 248 194 0 0 6) 249 195 0 0 6)) 7 rfl ?_
  refine WP.copy rfl rfl rfl rfl rfl rfl (by omega) (by omega) (by decide) (by decide) ?_
  refine WP.run (pc' := 128) (L' := [.ref 193, .ref 247]) (st' := [.int (nI 5), .int (nI 0), .ref 197, .int (nI 0), .ref 251]) (I1 := (cpy (cpy (cpy (upN (upN (upN (upN (upN (upN (upN (upN (upN I 193 0 (I 247 0)) 193 1 (I 247 1)) 193 2 (I 247 2)) 193 3 (I 247 3)) 193 4 (I 247 4)) 193 5 (I 247 5)) 193 6 (I 247 6)) 193 7 (I 247 7)) 193 8 (I 247 8)) 248 194 0 0 6) 249 195 0 0 6) 250 196 0 0 6)) 7 rfl ?_
  refine WP.copy rfl rfl rfl rfl rfl rfl (by omega) (by omega) (by decide) (by decide) ?_
  refine WP.run (pc' := 142) (L' := [.ref 193, .ref 247]) (st' := [.int (nI 5), .int (nI 0), .ref 198, .int (nI 0), .ref 252]) (I1 := (cpy (cpy (cpy (cpy (upN (upN (upN (upN (upN (upN (upN (upN (upN I 193 0 (I 247 0)) 193 1 (I 247 1)) 193 2 (I 247 2)) 193 3 (I 247 3)) 193 4 (I 247 4)) 193 5 (I 247 5)) 193 6 (I 247 6)) 193 7 (I 247 7)) 193 8 (I 247 8)) 248 194 0 0 6) 249 195 0 0 6) 250 196 0 0 6) 251 197 0 0 5)) 7 rfl ?_
  refine WP.copy rfl rfl rfl rfl rfl rfl (by omega) (by omega) (by decide) (by decide) ?_
  refine WP.run (pc' := 156) (L' := [.ref 193, .ref 247]) (st' := [.int (nI 5), .int (nI 0), .ref 199, .int (nI 0), .ref 253]) (I1 := (cpy (cpy (cpy (cpy (cpy (upN (upN (upN (upN (upN (upN (upN (upN (upN I 193 0 (I 247 0)) 193 1 (I 247 1)) 193 2 (I 247 2)) 193 3 (I 247 3)) 193 4 (I 247 4)) 193 5 (I 247 5)) 193 6 (I 247 6)) 193 7 (I 247 7)) 193 8 (I 247 8)) 248 194 0 0 6) 249 195 0 0 6) 250 196 0 0 6) 251 197 0 0 5) 252 198 0 0 5)) 7 rfl ?_
  refine WP.copy rfl rfl rfl rfl rfl rfl (by omega) (by omega) (by decide) (by decide) ?_
  refine WP.run (pc' := 170) (L' := [.ref 193, .ref 247]) (st' := [.int (nI 5), .int (nI 0), .ref 200, .int (nI 0), .ref 254]) (I1 := (cpy (cpy (cpy (cpy (cpy (cpy (upN (upN (upN (upN (upN (upN (upN (upN (upN I 193 0 (I 247 0)) 193 1 (I 247 1)) 193 2 (I 247 2)) 193 3 (I 247 3)) 193 4 (I 247 4)) 193 5 (I 247 5)) 193 6 (I 247 6)) 193 7 (I 247 7)) 193 8 (I 247 8)) 248 194 0 0 6) 249 195 0 0 6) 250 196 0 0 6) 251 197 0 0 5) 252 198 0 0 5) 253 199 0 0 5)) 7 rfl ?_
  refine WP.copy rfl rfl rfl rfl rfl rfl (by omega) (by omega) (by decide) (by decide) ?_
  exact WP.ret rfl rfl (⟨rfl, rfl⟩)
set_option maxRecDepth 100000 in
theorem sp_become_201_247 {d : Nat} {I : Pl} (hb : I 247 0 = 0 ∨ I 247 0 = 1) : Ev (d + 1) 2 [.ref 201, .ref 247] (mem I) (none) (mem (becN I 201 247)) := by
  refine Ev.only (EvX.enter rfl rfl rfl ?_)
  refine WP.run (pc' := 5) (L' := [.ref 201, .ref 247]) (st' := [.int (I 247 0), .ref 201]) (I1 := I) 3 rfl ?_
  refine WP.putB rfl rfl rfl rfl hb ?_
  refine WP.run (pc' := 84) (L' := [.ref 201, .ref 247]) (st' := [.int (nI 6), .int (nI 0), .ref 202, .int (nI 0), .ref 248]) (I1 := (upN (upN (upN (upN (upN (upN (upN (upN (upN I 201 0 (I 247 0)) 201 1 (I 247 1)) 201 2 (I 247 2)) 201 3 (I 247 3)) 201 4 (I 247 4)) 201 5 (I 247 5)) 201 6 (I 247 6)) 201 7 (I 247 7)) 201 8 (I 247 8))) 39 rfl ?_
  refine WP.copy rfl rfl rfl rfl rfl rfl (by omega) (by omega) (by decide) (by decide) ?_
  refine WP.run (pc' := 99) (L' := [.ref 201, .ref 247]) (st' := [.int (nI 6), .int (nI 0), .ref 203, .int (nI 0), .ref 249]) (I1 := (cpy (upN (upN (upN (upN (upN (upN (upN (upN (upN I 201 0 (I 247 0)) 201 1 (I 247 1)) 201 2 (I 247 2)) 201 3 (I 247 3)) 201 4 (I 247 4)) 201 5 (I 247 5)) 201 6 (I 247 6)) 201 7 (I 247 7)) 201 8 (I 247 8)) 248 202 0 0 6)) 7 rfl ?_
  refine WP.copy rfl rfl rfl rfl rfl rfl (by omega) (by omega) (by decide) (by decide) ?_
  refine WP.run (pc' := 114) (L' := [.ref 201, .ref 247]) (st' := [.int (nI 6), .int (nI 0), .ref 204, .int (nI 0), .ref 250]) (I1 := (cpy (cpy (upN (upN (upN (upN (upN (upN (upN (upN (upN I 201 0 (I 247 0)) 201 1 (I 247 1)) 201 2 (I 247 2)) 201 3 (I 247 3)) 201 4 (I 247 4)) 201 5 (I 247 5)) 201 6 (I 247 6)) 201 7 (I 247 7)) 201 8 (I 247 8)) 248 202 0 0 6) 249 203 0 0 6)) 7 rfl ?_
  refine WP.copy rfl rfl rfl rfl rfl rfl (by omega) (by omega) (by decide) (by decide) ?_
  refine WP.run (pc' := 128) (L' := [.ref 201, .ref 247]) (st' := [.int (nI 5), .int (nI 0), .ref 205, .int (nI 0), .ref 251]) (I1 := (cpy (cpy (cpy (upN (upN (upN (upN (upN (upN (upN (upN (upN I 201 0 (I 247 0)) 201 1 (I 247 1)) 201 2 (I 247 2)) 201 3 (I 247 3)) 201 4 (I 247 4)) 201 5 (I 247 5)) 201 6 (I 247 6)) 201 7 (I 247 7)) 201 8 (I 247 8)) 248 202 0 0 6) 249 203 0 0 6) 250 204 0 0 6)) 7 rfl ?_
  refine WP.copy rfl rfl rfl rfl rfl rfl (by omega) (by omega) (by decide) (by decide) ?_
  refine WP.run (pc' := 142) (L' := [.ref 201, .ref 247]) (st' := [.int (nI 5), .int (nI 0), .ref 206, .int (nI 0), .ref 252]) (I1 := (cpy (cpy (cpy (cpy (upN (upN (upN (upN (upN (upN (upN (upN (upN I 201 0 (I 247 0)) 201 1 (I 247 1)) 201 2 (I 247 2)) 201 3 (I 247 3)) 201 4 (I 247 4)) 201 5 (I 247 5)) 201 6 (I 247 6)) 201 7 (I 247 7)) 201 8 (I 247 8)) 248 202 0 0 6) 249 203 0 0 6) 250 204 0 0 6) 251 205 0 0 5)) 7 rfl ?_
  refine WP.copy rfl rfl rfl rfl rfl rfl (by omega) (by omega) (by decide) (by decide) ?_
  refine WP.run (pc' := 156) (L' := [.ref 201, .ref 247]) (st' := [.int (nI 5), .int (nI 0), .ref 207, .int (nI 0), .ref 253]) (I1 := (cpy (cpy (cpy (cpy (cpy (upN (upN (upN (upN (upN (upN (upN (upN (upN I 201 0 (I 247 0)) 201 1 (I 247 1)) 201 2 (I 247 2)) 201 3 (I 247 3)) 201 4 (I 247 4)) 201 5 (I 247 5)) 201 6 (I 247 6)) 201 7 (I 247 7)) 201 8 (I 247 8)) 248 202 0 0 6) 249 203 0 0 6) 250 204 0 0 6) 251 205 0 0 5) 252 206 0 0 5)) 7 rfl ?_
  refine WP.copy rfl rfl rfl rfl rfl rfl (by omega) (by omega) (by decide) (by decide) ?_
  refine WP.run (pc' := 170) (L' := [.ref 201, .ref 247]) (st' := [.int (nI 5), .int (nI 0), .ref 208, .int (nI 0), .ref 254]) (I1 := (cpy (cpy (cpy (cpy (cpy (cpy (upN (upN (upN (upN (upN (upN (upN (upN (upN I 201 0 (I 247 0)) 201 1 (I 247 1)) 201 2 (I 247 2)) 201 3 (I 247 3)) 201 4 (I 247 4)) 201 5 (I 247 5)) 201 6 (I 247 6)) 201 7 (I 247 7)) 201 8 (I 247 8)) 248 202 0 0 6) 249 203 0 0 6) 250 204 0 0 6) 251 205 0 0 5) 252 206 0 0 5) 253 207 0 0 5)) 7 rfl ?_
  refine WP.copy rfl rfl rfl rfl rfl rfl (by omega) (by omega) (by decide) (by decide) ?_
  exact WP.ret rfl rfl (⟨rfl, rfl⟩)
set_option maxRecDepth 100000 in
theorem sp_become_209_247 {d : Nat} {I : Pl} (hb : I 247 0 = 0 ∨ I 247 0 = 1) : Ev (d + 1) 2 [.ref 209, .ref 247] (mem I) (none) (mem (becN I 209 247)) := by
  refine Ev.only (EvX.enter rfl rfl rfl ?_)
  refine WP.run (pc' := 5) (L' := [.ref 209, .ref 247]) (st' := [.int (I 247 0), .ref 209]) (I1 := I) 3 rfl ?_
  refine WP.putB rfl rfl rfl rfl hb ?_
  refine WP.run (pc' := 84) (L' := [.ref 209, .ref 247]) (st' := [.int (nI 6), .int (nI 0), .ref 210, .int (nI 0), .ref 248]) (I1 := (upN (upN (upN (upN (upN (upN (upN (upN (upN I 209 0 (I 247 0)) 209 1 (I 247 1)) 209 2 (I 247 2)) 209 3 (I 247 3)) 209 4 (I 247 4)) 209 5 (I 247 5)) 209 6 (I 247 6)) 209 7 (I 247 7)) 209 8 (I 247 8))) 39 rfl ?_
  refine WP.copy rfl rfl rfl rfl rfl rfl (by omega) (by omega) (by decide) (by decide) ?_
  refine WP.run (pc' := 99) (L' := [.ref 209, .ref 247]) (st' := [.int (nI 6), .int (nI 0), .ref 211, .int (nI 0), .ref 249]) (I1 := (cpy (upN (upN (upN (upN (upN (upN (upN (upN (upN I 209 0 (I 247 0)) 209 1 (I 247 1)) 209 2 (I 247 2)) 209 3 (I 247 3)) 209 4 (I 247 4)) 209 5 (I 247 5)) 209 6 (I 247 6)) 209 7 (I 247 7)) 209 8 (I 247 8)) 248 210 0 0 6)) 7 rfl ?_
  refine WP.copy rfl rfl rfl rfl rfl rfl (by omega) (by omega) (by decide) (by decide) ?_
  refine WP.run (pc' := 114) (L' := [.ref 209, .ref 247]) (st' := [.int (nI 6), .int (nI 0), .ref 212, .int (nI 0), .ref 250]) (I1 := (cpy (cpy (upN (upN (upN (upN (upN (upN (upN (upN (upN I 209 0 (I 247 0)) 209 1 (I 247 1)) 209 2 (I 247 2)) 209 3 (I 247 3)) 209 4 (I 247 4)) 209 5 (I 247 5)) 209 6 (I 247 6)) 209 7 (I 247 7)) 209 8 (I 247 8)) 248 210 0 0 6) 249 211 0 0 6)) 7 rfl ?_
  refine WP.copy rfl rfl rfl rfl rfl rfl (by omega) (by omega) (by decide) (by decide) ?_
  refine WP.run (pc' := 128) (L' := [.ref 209, .ref 247]) (st' := [.int (nI 5), .int (nI 0), .ref 213, .int (nI 0), .ref 251]) (I1 := (cpy (cpy (cpy (upN (upN (upN (upN (upN (upN (upN (upN (upN I 209 0 (I 247 0)) 209 1 (I 247 1)) 209 2 (I 247 2)) 209 3 (I 247 3)) 209 4 (I 247 4)) 209 5 (I 247 5)) 209 6 (I 247 6)) 209 7 (I 247 7)) 209 8 (I 247 8)) 248 210 0 0 6) 249 211 0 0 6) 250 212 0 0 6)) 7 rfl ?_
  refine WP.copy rfl rfl rfl rfl rfl rfl (by omega) (by omega) (by decide) (by decide) ?_
  refine WP.run (pc' := 142) (L' := [.ref 209, .ref 247]) (st' := [.int (nI 5), .int (nI 0), .ref 214, .int (nI 0), .ref 252]) (I1 := (cpy (cpy (cpy (cpy (upN (upN (upN (upN (upN (upN (upN (upN (upN I 209 0 (I 247 0)) 209 1 (I 247 1)) 209 2 (I 247 2)) 209 3 (I 247 3)) 209 4 (I 247 4)) 209 5 (I 247 5)) 209 6 (I 247 6)) 209 7 (I 247 7)) 209 8 (I 247 8)) 248 210 0 0 6) 249 211 0 0 6) 250 212 0 0 6) 251 213 0 0 5)) 7 rfl ?_
  refine WP.copy rfl rfl rfl rfl rfl rfl (by omega) (by omega) (by decide) (by decide) ?_
  refine WP.run (pc' := 156) (L' := [.ref 209, .ref 247]) (st' := [.int (nI 5), .int (nI 0), .ref 215, .int (nI 0), .ref 253]) (I1 := (cpy (cpy (cpy (cpy (cpy (upN (upN (upN (upN (upN (upN (upN (upN (upN I 209 0 (I 247 0)) 209 1 (I 247 1)) 209 2 (I 247 2)) 209 3 (I 247 3)) 209 4 (I 247 4)) 209 5 (I 247 5)) 209 6 (I 247 6)) 209 7 (I 247 7)) 209 8 (I 247 8)) 248 210 0 0 6) 249 211 0 0 6) 250 212 0 0 6) 251 213 0 0 5) 252 214 0 0 5)) 7 rfl ?_
  refine WP.copy rfl rfl rfl rfl rfl rfl (by omega) (by omega) (by decide) (by decide) ?_
  refine WP.run (pc' := 170) (L' := [.ref 209, .ref 247]) (st' := [.int (nI 5), .int (nI 0), .ref 216, .int (nI 0), .ref 254]) (I1 := (cpy (cpy (cpy (cpy (cpy (cpy (upN (upN (upN (upN (upN (upN (upN (upN (upN I 209 0 (I 247 0)) 209 1 (I 247 1)) 209 2 (I 247 2)) 209 3 (I 247 3)) 209 4 (I 247 4)) 209 5 (I 247 5)) 209 6 (I 247 6)) 209 7 (I 247 7)) 209 8 (I 247 8)) 248 210 0 0 6) 249 211 0 0 6) 250 212 0 0 6) 251 213 0 0 5) 252 214 0 0 5) 253 215 0 0 5)) 7 rfl ?_
  refine WP.copy rfl rfl rfl rfl rfl rfl (by omega) (by omega) (by decide) (by decide) ?_
  exact WP.ret rfl rfl (⟨rfl, rfl⟩)
set_option maxRecDepth 100000 in
theorem sp_become_217_247 {d : Nat} {I : Pl} (hb : I 247 0 = 0 ∨ I 247 0 = 1) : Ev (d + 1) 2 [.ref 217, .ref 247] (mem I) (none) (mem (becN I 217 247)) := by
  refine Ev.only (EvX.enter rfl rfl rfl ?_)
  refine WP.run (pc' := 5) (L' := [.ref 217, .ref 247]) (st' := [.int (I 247 0), .ref 217]) (I1 := I) 3 rfl ?_
  refine WP.putB rfl rfl rfl rfl hb ?_
  refine WP.run (pc' := 84) (L' := [.ref 217, .ref 247]) (st' := [.int (nI 6), .int (nI 0), .ref 218, .int (nI 0), .ref 248]) (I1 := (upN (upN (upN (upN (upN (upN (upN (upN (upN I 217 0 (I 247 0)) 217 1 (I 247 1)) 217 2 (I 247 2)) 217 3 (I 247 3)) 217 4 (I 247 4)) 217 5 (I 247 5)) 217 6 (I 247 6)) 217 7 (I 247 7)) 217 8 (I 247 8))) 39 rfl ?_
  refine WP.copy rfl rfl rfl rfl rfl rfl (by omega) (by omega) (by decide) (by decide) ?_
  refine WP.run (pc' := 99) (L' := [.ref 217, .ref 247]) (st' := [.int (nI 6), .int (nI 0), .ref 219, .int (nI 0), .ref 249]) (I1 := (cpy (upN (upN (upN (upN (upN (upN (upN (upN (upN I 217 0 (I 247 0)) 217 1 (I 247 1)) 217 2 (I 247 2)) 217 3 (I 247 3)) 217 4 (I 247 4)) 217 5 (I 247 5)) 217 6 (I 247 6)) 217 7 (I 247 7)) 217 8 (I 247 8)) 248 218 0 0 6)) 7 rfl ?_
  refine WP.copy rfl rfl rfl rfl rfl rfl (by omega) (by omega) (by decide) (by decide) ?_
  refine WP.run (pc' := 114) (L' := [.ref 217, .ref 247]) (st' := [.int (nI 6), .int (nI 0), .ref 220, .int (nI 0), .ref 250]) (I1 := (cpy (cpy (upN (upN (upN (upN (upN (upN (upN (upN (upN I 217 0 (I 247 0)) 217 1 (I 247 1)) 217 2 (I 247 2)) 217 3 (I 247 3)) 217 4 (I 247 4)) 217 5 (I 247 5)) 217 6 (I 247 6)) 217 7 (I 247 7)) 217 8 (I 247 8)) 248 218 0 0 6) 249 219 0 0 6)) 7 rfl ?_
  refine WP.copy rfl rfl rfl rfl rfl rfl (by omega) (by omega) (by decide) (by decide) ?_
  refine WP.run (pc' := 128) (L' := [.ref 217, .ref 247]) (st' := [.int (nI 5), .int (nI 0), .ref 221, .int (nI 0), .ref 251]) (I1 := (cpy (cpy (cpy (upN (upN (upN (upN (upN (upN (upN (upN (upN I 217 0 (I 247 0)) 217 1 (I 247 1)) 217 2 (I 247 2)) 217 3 (I 247 3)) 217 4 (I 247 4)) 217 5 (I 247 5)) 217 6 (I 247 6)) 217 7 (I 247 7)) 217 8 (I 247 8)) 248 218 0 0 6) 249 219 0 0 6) 250 220 0 0 6)) 7 rfl ?_
  refine WP.copy rfl rfl rfl rfl rfl rfl (by omega) (by omega) (by decide) (by decide) ?_
  refine WP.run (pc' := 142) (L' := [.ref 217, .ref 247]) (st' := [.int (nI 5), .int (nI 0), .ref 222, .int (nI 0), .ref 252]) (I1 := (cpy (cpy (cpy (cpy (upN (upN (upN (upN (upN (upN (upN (upN (upN I 217 0 (I 247 0)) 217 1 (I 247 1)) 217 2 (I 247 2)) 217 3 (I 247 3)) 217 4 (I 247 4)) 217 5 (I 247 5)) 217 6 (I 247 6)) 217 7 (I 247 7)) 217 8 (I 247 8)) 248 218 0 0 6) 249 219 0 0 6) 250 220 0 0 6) 251 221 0 0 5)) 7 rfl ?_
  refine WP.copy rfl rfl rfl rfl rfl rfl (by omega) (by omega) (by decide) (by decide) ?_
  refine WP.run (pc' := 156) (L' := [.ref 217, .ref 247]) (st' := [.int (nI 5), .int (nI 0), .ref 223, .int (nI 0), .ref 253]) (I1 := (cpy (cpy (cpy (cpy (cpy (upN (upN (upN (upN (upN (upN (upN (upN (upN I 217 0 (I 247 0)) 217 1 (I 247 1)) 217 2 (I 247 2)) 217 3 (I 247 3)) 217 4 (I 247 4)) 217 5 (I 247 5)) 217 6 (I 247 6)) 217 7 (I 247 7)) 217 8 (I 247 8)) 248 218 0 0 6) 249 219 0 0 6) 250 220 0 0 6) 251 221 0 0 5) 252 222 0 0 5)) 7 rfl ?_
  refine WP.copy rfl rfl rfl rfl rfl rfl (by omega) (by omega) (by decide) (by decide) ?_
  refine WP.run (pc' := 170) (L' := [.ref 217, .ref 247]) (st' := [.int (nI 5), .int (nI 0), .ref 224, .int (nI 0), .ref 254]) (I1 := (cpy (cpy (cpy (cpy (cpy (cpy (upN (upN (upN (upN (upN (upN (upN (upN (upN I 217 0 (I 247 0)) 217 1 (I 247 1)) 217 2 (I 247 2)) 217 3 (I 247 3)) 217 4 (I 247 4)) 217 5 (I 247 5)) 217 6 (I 247 6)) 217 7 (I 247 7)) 217 8 (I 247 8)) 248 218 0 0 6) 249 219 0 0 6) 250 220 0 0 6) 251 221 0 0 5) 252 222 0 0 5) 253 223 0 0 5)) 7 rfl ?_
  refine WP.copy rfl rfl rfl rfl rfl rfl (by omega) (by omega) (by decide) (by decide) ?_
  exact WP.ret rfl rfl (⟨rfl, rfl⟩)
set_option maxRecDepth 100000 in
theorem sp_become_247_33 {d : Nat} {I : Pl} (hb : I 33 0 = 0 ∨ I 33 0 = 1) : Ev (d + 1) 2 [.ref 247, .ref 33] (mem I) (none) (mem (becN I 247 33)) := by
  refine Ev.only (EvX.enter rfl rfl rfl ?_)
  refine WP.run (pc' := 5) (L' := [.ref 247, .ref 33]) (st' := [.int (I 33 0), .ref 247]) (I1 := I) 3 rfl ?_
  refine WP.putB rfl rfl rfl rfl hb ?_
  refine WP.run (pc' := 84) (L' := [.ref 247, .ref 33]) (st' := [.int (nI 6), .int (nI 0), .ref 248, .int (nI 0), .ref 34]) (I1 := (upN (upN (upN (upN (upN (upN (upN (upN (upN I 247 0 (I 33 0)) 247 1 (I 33 1)) 247 2 (I 33 2)) 247 3 (I 33 3)) 247 4 (I 33 4)) 247 5 (I 33 5)) 247 6 (I 33 6)) 247 7 (I 33 7)) 247 8 (I 33 8))) 39 rfl ?_
  refine WP.copy rfl rfl rfl rfl rfl rfl (by omega) (by omega) (by decide) (by decide) ?_
  refine WP.run (pc' := 99) (L' := [.ref 247, .ref 33]) (st' := [.int (nI 6), .int (nI 0), .ref 249, .int (nI 0), .ref 35]) (I1 := (cpy (upN (upN (upN (upN (upN (upN (upN (upN (upN I 247 0 (I 33 0)) 247 1 (I 33 1)) 247 2 (I 33 2)) 247 3 (I 33 3)) 247 4 (I 33 4)) 247 5 (I 33 5)) 247 6 (I 33 6)) 247 7 (I 33 7)) 247 8 (I 33 8)) 34 248 0 0 6)) 7 rfl ?_
  refine WP.copy rfl rfl rfl rfl rfl rfl (by omega) (by omega) (by decide) (by decide) ?_
  refine WP.run (pc' := 114) (L' := [.ref 247, .ref 33]) (st' := [.int (nI 6), .int (nI 0), .ref 250, .int (nI 0), .ref 36]) (I1 := (cpy (cpy (upN (upN (upN (upN (upN (upN (upN (upN (upN I 247 0 (I 33 0)) 247 1 (I 33 1)) 247 2 (I 33 2)) 247 3 (I 33 3)) 247 4 (I 33 4)) 247 5 (I 33 5)) 247 6 (I 33 6)) 247 7 (I 33 7)) 247 8 (I 33 8)) 34 248 0 0 6) 35 249 0 0 6)) 7 rfl ?_
  refine WP.copy rfl rfl rfl rfl rfl rfl (by omega) (by omega) (by decide) (by decide) ?_
  refine WP.run (pc' := 128) (L' := [.ref 247, .ref 33]) (st' := [.int (nI 5), .int (nI 0), .ref 251, .int (nI 0), .ref 37]) (I1 := (cpy (cpy (cpy (upN (upN (upN (upN (upN (upN (upN (upN (upN I 247 0 (I 33 0)) 247 1 (I 33 1)) 247 2 (I 33 2)) 247 3 (I 33 3)) 247 4 (I 33 4)) 247 5 (I 33 5)) 247 6 (I 33 6)) 247 7 (I 33 7)) 247 8 (I 33 8)) 34 248 0 0 6) 35 249 0 0 6) 36 250 0 0 6)) 7 rfl ?_
  refine WP.copy rfl rfl rfl rfl rfl rfl (by omega) (by omega) (by decide) (by decide) ?_
  refine WP.run (pc' := 142) (L' := [.ref 247, .ref 33]) (st' := [.int (nI 5), .int (nI 0), .ref 252, .int (nI 0), .ref 38]) (I1 := (cpy (cpy (cpy (cpy (upN (upN (upN (upN (upN (upN (upN (upN (upN I 247 0 (I 33 0)) 247 1 (I 33 1)) 247 2 (I 33 2)) 247 3 (I 33 3)) 247 4 (I 33 4)) 247 5 (I 33 5)) 247 6 (I 33 6)) 247 7 (I 33 7)) 247 8 (I 33 8)) 34 248 0 0 6) 35 249 0 0 6) 36 250 0 0 6) 37 251 0 0 5)) 7 rfl ?_
  refine WP.copy rfl rfl rfl rfl rfl rfl (by omega) (by omega) (by decide) (by decide) ?_
  refine WP.run (pc' := 156) (L' := [.ref 247, .ref 33]) (st' := [.int (nI 5), .int (nI 0), .ref 253, .int (nI 0), .ref 39]) (I1 := (cpy (cpy (cpy (cpy (cpy (upN (upN (upN (upN (upN (upN (upN (upN (upN I 247 0 (I 33 0)) 247 1 (I 33 1)) 247 2 (I 33 2)) 247 3 (I 33 3)) 247 4 (I 33 4)) 247 5 (I 33 5)) 247 6 (I 33 6)) 247 7 (I 33 7)) 247 8 (I 33 8)) 34 248 0 0 6) 35 249 0 0 6) 36 250 0 0 6) 37 251 0 0 5) 38 252 0 0 5)) 7 rfl ?_
  refine WP.copy rfl rfl rfl rfl rfl rfl (by omega) (by omega) (by decide) (by decide) ?_
  refine WP.run (pc' := 170) (L' := [.ref 247, .ref 33]) (st' := [.int (nI 5), .int (nI 0), .ref 254, .int (nI 0), .ref 40]) (I1 := (cpy (cpy (cpy (cpy (cpy (cpy (upN (upN (upN (upN (upN (upN (upN (upN (upN I 247 0 (I 33 0)) 247 1 (I 33 1)) 247 2 (I 33 2)) 247 3 (I 33 3)) 247 4 (I 33 4)) 247 5 (I 33 5)) 247 6 (I 33 6)) 247 7 (I 33 7)) 247 8 (I 33 8)) 34 248 0 0 6) 35 249 0 0 6) 36 250 0 0 6) 37 251 0 0 5) 38 252 0 0 5) 39 253 0 0 5)) 7 rfl ?_
  refine WP.copy rfl rfl rfl rfl rfl rfl (by omega) (by omega) (by decide) (by decide) ?_
  exact WP.ret rfl rfl (⟨rfl, rfl⟩)
set_option maxRecDepth 100000 in
theorem sp_become_247_41 {d : Nat} {I : Pl} (hb : I 41 0 = 0 ∨ I 41 0 = 1) : Ev (d + 1) 2 [.ref 247, .ref 41] (mem I) (none) (mem (becN I 247 41)) := by
  refine Ev.only (EvX.enter rfl rfl rfl ?_)
  refine WP.run (pc' := 5) (L' := [.ref 247, .ref 41]) (st' := [.int (I 41 0), .ref 247]) (I1 := I) 3 rfl ?_
  refine WP.putB rfl rfl rfl rfl hb ?_
  refine WP.run (pc' := 84) (L' := [.ref 247, .ref 41]) (st' := [.int (nI 6), .int (nI 0), .ref 248, .int (nI 0), .ref 42]) (I1 := (upN (upN (upN (upN (upN (upN (upN (upN (upN I 247 0 (I 41 0)) 247 1 (I 41 1)) 247 2 (I 41 2)) 247 3 (I 41 3)) 247 4 (I 41 4)) 247 5 (I 41 5)) 247 6 (I 41 6)) 247 7 (I 41 7)) 247 8 (I 41 8))) 39 rfl ?_
  refine WP.copy rfl rfl rfl rfl rfl rfl (by omega) (by omega) (by decide) (by decide) ?_
  refine WP.run (pc' := 99) (L' := [.ref 247, .ref 41]) (st' := [.int (nI 6), .int (nI 0), .ref 249, .int (nI 0), .ref 43]) (I1 := (cpy (upN (upN (upN (upN (upN (upN (upN (upN (upN I 247 0 (I 41 0)) 247 1 (I 41 1)) 247 2 (I 41 2)) 247 3 (I 41 3)) 247 4 (I 41 4)) 247 5 (I 41 5)) 247 6 (I 41 6)) 247 7 (I 41 7)) 247 8 (I 41 8)) 42 248 0 0 6)) 7 rfl ?_
  refine WP.copy rfl rfl rfl rfl rfl rfl (by omega) (by omega) (by decide) (by decide) ?_
  refine WP.run (pc' := 114) (L' := [.ref 247, .ref 41]) (st' := [.int (nI 6), .int (nI 0), .ref 250, .int (nI 0), .ref 44]) (I1 := (cpy (cpy (upN (upN (upN (upN (upN (upN (upN (upN (upN I 247 0 (I 41 0)) 247 1 (I 41 1)) 247 2 (I 41 2)) 247 3 (I 41 3)) 247 4 (I 41 4)) 247 5 (I 41 5)) 247 6 (I 41 6)) 247 7 (I 41 7)) 247 8 (I 41 8)) 42 248 0 0 6) 43 249 0 0 6)) 7 rfl ?_
  refine WP.copy rfl rfl rfl rfl rfl rfl (by omega) (by omega) (by decide) (by decide) ?_
  refine WP.run (pc' := 128) (L' := [.ref 247, .ref 41]) (st' := [.int (nI 5), .int (nI 0), .ref 251, .int (nI 0), .ref 45]) (I1 := (cpy (cpy (cpy (upN (upN (upN (upN (upN (upN (upN (upN (upN I 247 0 (I 41 0)) 247 1 (I 41 1)) 247 2 (I 41 2)) 247 3 (I 41 3)) 247 4 (I 41 4)) 247 5 (I 41 5)) 247 6 (I 41 6)) 247 7 (I 41 7)) 247 8 (I 41 8)) 42 248 0 0 6) 43 249 0 0 6) 44 250 0 0 6)) 7 rfl ?_
  refine WP.copy rfl rfl rfl rfl rfl rfl (by omega) (by omega) (by decide) (by decide) ?_
  refine WP.run (pc' := 142) (L' := [.ref 247, .ref 41]) (st' := [.int (nI 5), .int (nI 0), .ref 252, .int (nI 0), .ref 46]) (I1 := (cpy (cpy (cpy (cpy (upN (upN (upN (upN (upN (upN (upN (upN (upN I 247 0 (I 41 0)) 247 1 (I 41 1)) 247 2 (I 41 2)) 247 3 (I 41 3)) 247 4 (I 41 4)) 247 5 (I 41 5)) 247 6 (I 41 6)) 247 7 (I 41 7)) 247 8 (I 41 8)) 42 248 0 0 6) 43 249 0 0 6) 44 250 0 0 6) 45 251 0 0 5)) 7 rfl ?_
  refine WP.copy rfl rfl rfl rfl rfl rfl (by omega) (by omega) (by decide) (by decide) ?_
  refine WP.run (pc' := 156) (L' := [.ref 247, .ref 41]) (st' := [.int (nI 5), .int (nI 0), .ref 253, .int (nI 0), .ref 47]) (I1 := (cpy (cpy (cpy (cpy (cpy (upN (upN (upN (upN (upN (upN (upN (upN (upN I 247 0 (I 41 0)) 247 1 (I 41 1)) 247 2 (I 41 2)) 247 3 (I 41 3)) 247 4 (I 41 4)) 247 5 (I 41 5)) 247 6 (I 41 6)) 247 7 (I 41 7)) 247 8 (I 41 8)) 42 248 0 0 6) 43 249 0 0 6) 44 250 0 0 6) 45 251 0 0 5) 46 252 0 0 5)) 7 rfl ?_
  refine WP.copy rfl rfl rfl rfl rfl rfl (by omega) (by omega) (by decide) (by decide) ?_
  refine WP.run (pc' := 170) (L' := [.ref 247, .ref 41]) (st' := [.int (nI 5), .int (nI 0), .ref 254, .int (nI 0), .ref 48]) (I1 := (cpy (cpy (cpy (cpy (cpy (cpy (upN (upN (upN (upN (upN (upN (upN (upN (upN I 247 0 (I 41 0)) 247 1 (I 41 1)) 247 2 (I 41 2)) 247 3 (I 41 3)) 247 4 (I 41 4)) 247 5 (I 41 5)) 247 6 (I 41 6)) 247 7 (I 41 7)) 247 8 (I 41 8)) 42 248 0 0 6) 43 249 0 0 6) 44 250 0 0 6) 45 251 0 0 5) 46 252 0 0 5) 47 253 0 0 5)) 7 rfl ?_
  refine WP.copy rfl rfl rfl rfl rfl rfl (by omega) (by omega) (by decide) (by decide) ?_
  exact WP.ret rfl rfl (⟨rfl, rfl⟩)
set_option maxRecDepth 100000 in
theorem sp_become_247_49 {d : Nat} {I : Pl} (hb : I 49 0 = 0 ∨ I 49 0 = 1) : Ev (d + 1) 2 [.ref 247, .ref 49] (mem I) (none) (mem (becN I 247 49)) := by
  refine Ev.only (EvX.enter rfl rfl rfl ?_)
  refine WP.run (pc' := 5) (L' := [.ref 247, .ref 49]) (st' := [.int (I 49 0), .ref 247]) (I1 := I) 3 rfl ?_
  refine WP.putB rfl rfl rfl rfl hb ?_
  refine WP.run (pc' := 84) (L' := [.ref 247, .ref 49]) (st' := [.int (nI 6), .int (nI 0), .ref 248, .int (nI 0), .ref 50]) (I1 := (upN (upN (upN (upN (upN (upN (upN (upN (upN I 247 0 (I 49 0)) 247 1 (I 49 1)) 247 2 (I 49 2)) 247 3 (I 49 3)) 247 4 (I 49 4)) 247 5 (I 49 5)) 247 6 (I 49 6)) 247 7 (I 49 7)) 247 8 (I 49 8))) 39 rfl ?_
  refine WP.copy rfl rfl rfl rfl rfl rfl (by omega) (by omega) (by decide) (by decide) ?_
  refine WP.run (pc' := 99) (L' := [.ref 247, .ref 49]) (st' := [.int (nI 6), .int (nI 0), .ref 249, .int (nI 0), .ref 51]) (I1 := (cpy (upN (upN (upN (upN (upN (upN (upN (upN (upN I 247 0 (I 49 0)) 247 1 (I 49 1)) 247 2 (I 49 2)) 247 3 (I 49 3)) 247 4 (I 49 4)) 247 5 (I 49 5)) 247 6 (I 49 6)) 247 7 (I 49 7)) 247 8 (I 49 8)) 50 248 0 0 6)) 7 rfl ?_
  refine WP.copy rfl rfl rfl rfl rfl rfl (by omega) (by omega) (by decide) (by decide) ?_
  refine WP.run (pc' := 114) (L' := [.ref 247, .ref 49]) (st' := [.int (nI 6), .int (nI 0), .ref 250, .int (nI 0), .ref 52]) (I1 := (cpy (cpy (upN (upN (upN (upN (upN (upN (upN (upN (upN I 247 0 (I 49 0)) 247 1 (I 49 1)) 247 2 (I 49 2)) 247 3 (I 49 3)) 247 4 (I 49 4)) 247 5 (I 49 5)) 247 6 (I 49 6)) 247 7 (I 49 7)) 247 8 (I 49 8)) 50 248 0 0 6) 51 249 0 0 6)) 7 rfl ?_
  refine WP.copy rfl rfl rfl rfl rfl rfl (by omega) (by omega) (by decide) (by decide) ?_
  refine WP.run (pc' := 128) (L' := [.ref 247, .ref 49]) (st' := [.int (nI 5), .int (nI 0), .ref 251, .int (nI 0), .ref 53]) (I1 := (cpy (cpy (cpy (upN (upN (upN (upN (upN (upN (upN (upN (upN I 247 0 (I 49 0)) 247 1 (I 49 1)) 247 2 (I 49 2)) 247 3 (I 49 3)) 247 4 (I 49 4)) 247 5 (I 49 5)) 247 6 (I 49 6)) 247 7 (I 49 7)) 247 8 (I 49 8)) 50 248 0 0 6) 51 249 0 0 6) 52 250 0 0 6)) 7 rfl ?_
  refine WP.copy rfl rfl rfl rfl rfl rfl (by omega) (by omega) (by decide) (by decide) ?_
  refine WP.run (pc' := 142) (L' := [.ref 247, .ref 49]) (st' := [.int (nI 5), .int (nI 0), .ref 252, .int (nI 0), .ref 54]) (I1 := (cpy (cpy (cpy (cpy (upN (upN (upN (upN (upN (upN (upN (upN (upN I 247 0 (I 49 0)) 247 1 (I 49 1)) 247 2 (I 49 2)) 247 3 (I 49 3)) 247 4 (I 49 4)) 247 5 (I 49 5)) 247 6 (I 49 6)) 247 7 (I 49 7)) 247 8 (I 49 8)) 50 248 0 0 6) 51 249 0 0 6) 52 250 0 0 6) 53 251 0 0 5)) 7 rfl ?_
  refine WP.copy rfl rfl rfl rfl rfl rfl (by omega) (by omega) (by decide) (by decide) ?_
  refine WP.run (pc' := 156) (L' := [.ref 247, .ref 49]) (st' := [.int (nI 5), .int (nI 0), .ref 253, .int (nI 0), .ref 55]) (I1 := (cpy (cpy (cpy (cpy (cpy (upN (upN (upN (upN (upN (upN (upN (upN (upN I 247 0 (I 49 0)) 247 1 (I 49 1)) 247 2 (I 49 2)) 247 3 (I 49 3)) 247 4 (I 49 4)) 247 5 (I 49 5)) 247 6 (I 49 6)) 247 7 (I 49 7)) 247 8 (I 49 8)) 50 248 0 0 6) 51 249 0 0 6) 52 250 0 0 6) 53 251 0 0 5) 54 252 0 0 5)) 7 rfl ?_
  refine WP.copy rfl rfl rfl rfl rfl rfl (by omega) (by omega) (by decide) (by decide) ?_
  refine WP.run (pc' := 170) (L' := [.ref 247, .ref 49]) (st' := [.int (nI 5), .int (nI 0), .ref 254, .int (nI 0), .ref 56]) (I1 := (cpy (cpy (cpy (cpy (cpy (cpy (upN (upN (upN (upN (upN (upN (upN (upN (upN I 247 0 (I 49 0)) 247 1 (I 49 1)) 247 2 (I 49 2)) 247 3 (I 49 3)) 247 4 (I 49 4)) 247 5 (I 49 5)) 247 6 (I 49 6)) 247 7 (I 49 7)) 247 8 (I 49 8)) 50 248 0 0 6) 51 249 0 0 6) 52 250 0 0 6) 53 251 0 0 5) 54 252 0 0 5) 55 253 0 0 5)) 7 rfl ?_
  refine WP.copy rfl rfl rfl rfl rfl rfl (by omega) (by omega) (by decide) (by decide) ?_
  exact WP.ret rfl rfl (⟨rfl, rfl⟩)
set_option maxRecDepth 100000 in
theorem sp_become_247_57 {d : Nat} {I : Pl} (hb : I 57 0 = 0 ∨ I 57 0 = 1) : Ev (d + 1) 2 [.ref 247, .ref 57] (mem I) (none) (mem (becN I 247 57)) := by
  refine Ev.only (EvX.enter rfl rfl rfl ?_)
  refine WP.run (pc' := 5) (L' := [.ref 247, .ref 57]) (st' := [.int (I 57 0), .ref 247]) (I1 := I) 3 rfl ?_
  refine WP.putB rfl rfl rfl rfl hb ?_
  refine WP.run (pc' := 84) (L' := [.ref 247, .ref 57]) (st' := [.int (nI 6), .int (nI 0), .ref 248, .int (nI 0), .ref 58]) (I1 := (upN (upN (upN (upN (upN (upN (upN (upN (upN I 247 0 (I 57 0)) 247 1 (I 57 1)) 247 2 (I 57 2)) 247 3 (I 57 3)) 247 4 (I 57 4)) 247 5 (I 57 5)) 247 6 (I 57 6)) 247 7 (I 57 7)) 247 8 (I 57 8))) 39 rfl ?_
  refine WP.copy rfl rfl rfl rfl rfl rfl (by omega) (by omega) (by decide) (by decide) ?_
  refine WP.run (pc' := 99) (L' := [.ref 247, .ref 57]) (st' := [.int (nI 6), .int (nI 0), .ref 249, .int (nI 0), .ref 59]) (I1 := (cpy (upN (upN (upN (upN (upN (upN (upN (upN (upN I 247 0 (I 57 0)) 247 1 (I 57 1)) 247 2 (I 57 2)) 247 3 (I 57 3)) 247 4 (I 57 4)) 247 5 (I 57 5)) 247 6 (I 57 6)) 247 7 (I 57 7)) 247 8 (I 57 8)) 58 248 0 0 6)) 7 rfl ?_
  refine WP.copy rfl rfl rfl rfl rfl rfl (by omega) (by omega) (by decide) (by decide) ?_
  refine WP.run (pc' := 114) (L' := [.ref 247, .ref 57]) (st' := [.int (nI 6), .int (nI 0), .ref 250, .int (nI 0), .ref 60]) (I1 := (cpy (cpy (upN (upN (upN (upN (upN (upN (upN (upN (upN I 247 0 (I 57 0)) 247 1 (I 57 1)) 247 2 (I 57 2)) 247 3 (I 57 3)) 247 4 (I 57 4)) 247 5 (I 57 5)) 247 6 (I 57 6)) 247 7 (I 57 7)) 247 8 (I 57 8)) 58 248 0 0 6) 59 249 0 0 6)) 7 rfl ?_
  refine WP.copy rfl rfl rfl rfl rfl rfl (by omega) (by omega) (by decide) (by decide) ?_
  refine WP.run (pc' := 128) (L' := [.ref 247, .ref 57]) (st' := [.int (nI 5), .int (nI 0), .ref 251, .int (nI 0), .ref 61]) (I1 := (cpy (cpy (cpy (upN (upN (upN (upN (upN (upN (upN (upN (upN I 247 0 (I 57 0)) 247 1 (I 57 1)) 247 2 (I 57 2)) 247 3 (I 57 3)) 247 4 (I 57 4)) 247 5 (I 57 5)) 247 6 (I 57 6)) 247 7 (I 57 7)) 247 8 (I 57 8)) 58 248 0 0 6) 59 249 0 0 6) 60 250 0 0 6)) 7 rfl ?_
  refine WP.copy rfl rfl rfl rfl rfl rfl (by omega) (by omega) (by decide) (by decide) ?_
  refine WP.run (pc' := 142) (L' := [.ref 247, .ref 57]) (st' := [.int (nI 5), .int (nI 0), .ref 252, .int (nI 0), .ref 62]) (I1 := (cpy (cpy (cpy (cpy (upN (upN (upN (upN (upN (upN (upN (upN (upN I 247 0 (I 57 0)) 247 1 (I 57 1)) 247 2 (I 57 2)) 247 3 (I 57 3)) 247 4 (I 57 4)) 247 5 (I 57 5)) 247 6 (I 57 6)) 247 7 (I 57 7)) 247 8 (I 57 8)) 58 248 0 0 6) 59 249 0 0 6) 60 250 0 0 6) 61 251 0 0 5)) 7 rfl ?_
  refine WP.copy rfl rfl rfl rfl rfl rfl (by omega) (by omega) (by decide) (by decide) ?_
  refine WP.run (pc' := 156) (L' := [.ref 247, .ref 57]) (st' := [.int (nI 5), .int (nI 0), .ref 253, .int (nI 0), .ref 63]) (I1 := (cpy (cpy (cpy (cpy (cpy (upN (upN (upN (upN (upN (upN (upN (upN (upN I 247 0 (I 57 0)) 247 1 (I 57 1)) 247 2 (I 57 2)) 247 3 (I 57 3)) 247 4 (I 57 4)) 247 5 (I 57 5)) 247 6 (I 57 6)) 247 7 (I 57 7)) 247 8 (I 57 8)) 58 248 0 0 6) 59 249 0 0 6) 60 250 0 0 6) 61 251 0 0 5) 62 252 0 0 5)) 7 rfl ?_
  refine WP.copy rfl rfl rfl rfl rfl rfl (by omega) (by omega) (by decide) (by decide) ?_
  refine WP.run (pc' := 170) (L' := [.ref 247, .ref 57]) (st' := [.int (nI 5), .int (nI 0), .ref 254, .int (nI 0), .ref 64]) (I1 := (cpy (cpy (cpy (cpy (cpy (cpy (upN (upN (upN (upN (upN (upN (upN (upN (upN I 247 0 (I 57 0)) 247 1 (I 57 1)) 247 2 (I 57 2)) 247 3 (I 57 3)) 247 4 (I 57 4)) 247 5 (I 57 5)) 247 6 (I 57 6)) 247 7 (I 57 7)) 247 8 (I 57 8)) 58 248 0 0 6) 59 249 0 0 6) 60 250 0 0 6) 61 251 0 0 5) 62 252 0 0 5) 63 253 0 0 5)) 7 rfl ?_
  refine WP.copy rfl rfl rfl rfl rfl rfl (by omega) (by omega) (by decide) (by decide) ?_
  exact WP.ret rfl rfl (⟨rfl, rfl⟩)
set_option maxRecDepth 100000 in
theorem sp_become_247_65 {d : Nat} {I : Pl} (hb : I 65 0 = 0 ∨ I 65 0 = 1) : Ev (d + 1) 2 [.ref 247, .ref 65] (mem I) (none) (mem (becN I 247 65)) := by
  refine Ev.only (EvX.enter rfl rfl rfl ?_)
  refine WP.run (pc' := 5) (L' := [.ref 247, .ref 65]) (st' := [.int (I 65 0), .ref 247]) (I1 := I) 3 rfl ?_
  refine WP.putB rfl rfl rfl rfl hb ?_
  refine WP.run (pc' := 84) (L' := [.ref 247, .ref 65]) (st' := [.int (nI 6), .int (nI 0), .ref 248, .int (nI 0), .ref 66]) (I1 := (upN (upN (upN (upN (upN (upN (upN (upN (upN I 247 0 (I 65 0)) 247 1 (I 65 1)) 247 2 (I 65 2)) 247 3 (I 65 3)) 247 4 (I 65 4)) 247 5 (I 65 5)) 247 6 (I 65 6)) 247 7 (I 65 7)) 247 8 (I 65 8))) 39 rfl ?_
  refine WP.copy rfl rfl rfl rfl rfl rfl (by omega) (by omega) (by decide) (by decide) ?_
  refine WP.run (pc' := 99) (L' := [.ref 247, .ref 65]) (st' := [.int (nI 6), .int (nI 0), .ref 249, .int (nI 0), .ref 67]) (I1 := (cpy (upN (upN (upN (upN (upN (upN (upN (upN (upN I 247 0 (I 65 0)) 247 1 (I 65 1)) 247 2 (I 65 2)) 247 3 (I 65 3)) 247 4 (I 65 4)) 247 5 (I 65 5)) 247 6 (I 65 6)) 247 7 (I 65 7)) 247 8 (I 65 8)) 66 248 0 0 6)) 7 rfl ?_
  refine WP.copy rfl rfl rfl rfl rfl rfl (by omega) (by omega) (by decide) (by decide) ?_
  refine WP.run (pc' := 114) (L' := [.ref 247, .ref 65]) (st' := [.int (nI 6), .int (nI 0), .ref 250, .int (nI 0), .ref 68]) (I1 := (cpy (cpy (upN (upN (upN (upN (upN (upN (upN (upN (upN I 247 0 (I 65 0)) 247 1 (I 65 1)) 247 2 (I 65 2)) 247 3 (I 65 3)) 247 4 (I 65 4)) 247 5 (I 65 5)) 247 6 (I 65 6)) 247 7 (I 65 7)) 247 8 (I 65 8)) 66 248 0 0 6) 67 249 0 0 6)) 7 rfl ?_
  refine WP.copy rfl rfl rfl rfl rfl rfl (by omega) (by omega) (by decide) (by decide) ?_
  refine WP.run (pc' := 128) (L' := [.ref 247, .ref 65]) (st' := [.int (nI 5), .int (nI 0), .ref 251, .int (nI 0), .ref 69]) (I1 := (cpy (cpy (cpy (upN (upN (upN (upN (upN (upN (upN (upN (upN I 247 0 (I 65 0)) 247 1 (I 65 1)) 247 2 (I 65 2)) 247 3 (I 65 3)) 247 4 (I 65 4)) 247 5 (I 65 5)) 247 6 (I 65 6)) 247 7 (I 65 7)) 247 8 (I 65 8)) 66 248 0 0 6) 67 249 0 0 6) 68 250 0 0 6)) 7 rfl ?_
  refine WP.copy rfl rfl rfl rfl rfl rfl (by omega) (by omega) (by decide) (by decide) ?_
  refine WP.run (pc' := 142) (L' := [.ref 247, .ref 65]) (st' := [.int (nI 5), .int (nI 0), .ref 252, .int (nI 0), .ref 70]) (I1 := (cpy (cpy (cpy (cpy (upN (upN (upN (upN (upN (upN (upN (upN (upN I 247 0 (I 65 0)) 247 1 (I 65 1)) 247 2 (I 65 2)) 247 3 (I 65 3)) 247 4 (I 65 4)) 247 5 (I 65 5)) 247 6 (I 65 6)) 247 7 (I 65 7)) 247 8 (I 65 8)) 66 248 0 0 6) 67 249 0 0 6) 68 250 0 0 6) 69 251 0 0 5)) 7 rfl ?_
  refine WP.copy rfl rfl rfl rfl rfl rfl (by omega) (by omega) (by decide) (by decide) ?_
  refine WP.run (pc' := 156) (L' := [.ref 247, .ref 65]) (st' := [.int (nI 5), .int (nI 0), .ref 253, .int (nI 0), .ref 71]) (I1 := (cpy (cpy (cpy (cpy (cpy (upN (upN (upN (upN (upN (upN (upN (upN (upN I 247 0 (I 65 0)) 247 1 (I 65 1)) 247 2 (I 65 2)) 247 3 (I 65 3)) 247 4 (I 65 4)) 247 5 (I 65 5)) 247 6 (I 65 6)) 247 7 (I 65 7)) 247 8 (I 65 8)) 66 248 0 0 6) 67 249 0 0 6) 68 250 0 0 6) 69 251 0 0 5) 70 252 0 0 5)) 7 rfl ?_
  refine WP.copy rfl rfl rfl rfl rfl rfl (by omega) (by omega) (by decide) (by decide) ?_
  refine WP.run (pc' := 170) (L' := [.ref 247, .ref 65]) (st' := [.int (nI 5), .int (nI 0), .ref 254, .int (nI 0), .ref 72]) (I1 := (cpy (cpy (cpy (cpy (cpy (cpy (upN (upN (upN (upN (upN (upN (upN (upN (upN I 247 0 (I 65 0)) 247 1 (I 65 1)) 247 2 (I 65 2)) 247 3 (I 65 3)) 247 4 (I 65 4)) 247 5 (I 65 5)) 247 6 (I 65 6)) 247 7 (I 65 7)) 247 8 (I 65 8)) 66 248 0 0 6) 67 249 0 0 6) 68 250 0 0 6) 69 251 0 0 5) 70 252 0 0 5) 71 253 0 0 5)) 7 rfl ?_
  refine WP.copy rfl rfl rfl rfl rfl rfl (by omega) (by omega) (by decide) (by decide) ?_
  exact WP.ret rfl rfl (⟨rfl, rfl⟩)
set_option maxRecDepth 100000 in
theorem sp_become_247_73 {d : Nat} {I : Pl} (hb : I 73 0 = 0 ∨ I 73 0 = 1) : Ev (d + 1) 2 [.ref 247, .ref 73] (mem I) (none) (mem (becN I 247 73)) := by
  refine Ev.only (EvX.enter rfl rfl rfl ?_)
  refine WP.run (pc' := 5) (L' := [.ref 247, .ref 73]) (st' := [.int (I 73 0), .ref 247]) (I1 := I) 3 rfl ?_
  refine WP.putB rfl rfl rfl rfl hb ?_
  refine WP.run (pc' := 84) (L' := [.ref 247, .ref 73]) (st' := [.int (nI 6), .int (nI 0), .ref 248, .int (nI 0), .ref 74]) (I1 := (upN (upN (upN (upN (upN (upN (upN (upN (upN I 247 0 (I 73 0)) 247 1 (I 73 1)) 247 2 (I 73 2)) 247 3 (I 73 3)) 247 4 (I 73 4)) 247 5 (I 73 5)) 247 6 (I 73 6)) 247 7 (I 73 7)) 247 8 (I 73 8))) 39 rfl ?_
  refine WP.copy rfl rfl rfl rfl rfl rfl (by omega) (by omega) (by decide) (by decide) ?_
  refine WP.run (pc' := 99) (L' := [.ref 247, .ref 73]) (st' := [.int (nI 6), .int (nI 0), .ref 249, .int (nI 0), .ref 75]) (I1 := (cpy (upN (upN (upN (upN (upN (upN (upN (upN (upN I 247 0 (I 73 0)) 247 1 (I 73 1)) 247 2 (I 73 2)) 247 3 (I 73 3)) 247 4 (I 73 4)) 247 5 (I 73 5)) 247 6 (I 73 6)) 247 7 (I 73 7)) 247 8 (I 73 8)) 74 248 0 0 6)) 7 rfl ?_
  refine WP.copy rfl rfl rfl rfl rfl rfl (by omega) (by omega) (by decide) (by decide) ?_
  refine WP.run (pc' := 114) (L' := [.ref 247, .ref 73]) (st' := [.int (nI 6), .int (nI 0), .ref 250, .int (nI 0), .ref 76]) (I1 := (cpy (cpy (upN (upN (upN (upN (upN (upN (upN (upN (upN I 247 0 (I 73 0)) 247 1 (I 73 1)) 247 2 (I 73 2)) 247 3 (I 73 3)) 247 4 (I 73 4)) 247 5 (I 73 5)) 247 6 (I 73 6)) 247 7 (I 73 7)) 247 8 (I 73 8)) 74 248 0 0 6) 75 249 0 0 6)) 7 rfl ?_
  refine WP.copy rfl rfl rfl rfl rfl rfl (by omega) (by omega) (by decide) (by decide) ?_
  refine WP.run (pc' := 128) (L' := [.ref 247, .ref 73]) (st' := [.int (nI 5), .int (nI 0), .ref 251, .int (nI 0), .ref 77]) (I1 := (cpy (cpy (cpy (upN (upN (upN (upN (upN (upN (upN (upN (upN I 247 0 (I 73 0)) 247 1 (I 73 1)) 247 2 (I 73 2)) 247 3 (I 73 3)) 247 4 (I 73 4)) 247 5 (I 73 5)) 247 6 (I 73 6)) 247 7 (I 73 7)) 247 8 (I 73 8)) 74 248 0 0 6) 75 249 0 0 6) 76 250 0 0 6)) 7 rfl ?_
  refine WP.copy rfl rfl rfl rfl rfl rfl (by omega) (by omega) (by decide) (by decide) ?_
  refine WP.run (pc' := 142) (L' := [.ref 247, .ref 73]) (st' := [.int (nI 5), .int (nI 0), .ref 252, .int (nI 0), .ref 78]) (I1 := (cpy (cpy (cpy (cpy (upN (upN (upN (upN (upN (upN (upN (upN (upN I 247 0 (I 73 0)) 247 1 (I 73 1)) 247 2 (I 73 2)) 247 3 (I 73 3)) 247 4 (I 73 4)) 247 5 (I 73 5)) 247 6 (I 73 6)) 247 7 (I 73 7)) 247 8 (I 73 8)) 74 248 0 0 6) 75 249 0 0 6) 76 250 0 0 6) 77 251 0 0 5)) 7 rfl ?_
  refine WP.copy rfl rfl rfl rfl rfl rfl (by omega) (by omega) (by decide) (by decide) ?_
  refine WP.run (pc' := 156) (L' := [.ref 247, .ref 73]) (st' := [.int (nI 5), .int (nI 0), .ref 253, .int (nI 0), .ref 79]) (I1 := (cpy (cpy (cpy (cpy (cpy (upN (upN (upN (upN (upN (upN (upN (upN (upN I 247 0 (I 73 0)) 247 1 (I 73 1)) 247 2 (I 73 2)) 247 3 (I 73 3)) 247 4 (I 73 4)) 247 5 (I 73 5)) 247 6 (I 73 6)) 247 7 (I 73 7)) 247 8 (I 73 8)) 74 248 0 0 6) 75 249 0 0 6) 76 250 0 0 6) 77 251 0 0 5) 78 252 0 0 5)) 7 rfl ?_
  refine WP.copy rfl rfl rfl rfl rfl rfl (by omega) (by omega) (by decide) (by decide) ?_
  refine WP.run (pc' := 170) (L' := [.ref 247, .ref 73]) (st' := [.int (nI 5), .int (nI 0), .ref 254, .int (nI 0), .ref 80]) (I1 := (cpy (cpy (cpy (cpy (cpy (cpy (upN (upN (upN (upN (upN (upN (upN (upN (upN I 247 0 (I 73 0)) 247 1 (I 73 1)) 247 2 (I 73 2)) 247 3 (I 73 3)) 247 4 (I 73 4)) 247 5 (I 73 5)) 247 6 (I 73 6)) 247 7 (I 73 7)) 247 8 (I 73 8)) 74 248 0 0 6) 75 249 0 0 6) 76 250 0 0 6) 77 251 0 0 5) 78 252 0 0 5) 79 253 0 0 5)) 7 rfl ?_
  refine WP.copy rfl rfl rfl rfl rfl rfl (by omega) (by omega) (by decide) (by decide) ?_
  exact WP.ret rfl rfl (⟨rfl, rfl⟩)
set_option maxRecDepth 100000 in
theorem sp_become_247_81 {d : Nat} {I : Pl} (hb : I 81 0 = 0 ∨ I 81 0 = 1) : Ev (d + 1) 2 [.ref 247, .ref 81] (mem I) (none) (mem (becN I 247 81)) := by
  refine Ev.only (EvX.enter rfl rfl rfl ?_)
  refine WP.run (pc' := 5) (L' := [.ref 247, .ref 81]) (st' := [.int (I 81 0), .ref 247]) (I1 := I) 3 rfl ?_
  refine WP.putB rfl rfl rfl rfl hb ?_
  refine WP.run (pc' := 84) (L' := [.ref 247, .ref 81]) (st' := [.int (nI 6), .int (nI 0), .ref 248, .int (nI 0), .ref 82]) (I1 := (upN (upN (upN (upN (upN (upN (upN (upN (upN I 247 0 (I 81 0)) 247 1 (I 81 1)) 247 2 (I 81 2)) 247 3 (I 81 3)) 247 4 (I 81 4)) 247 5 (I 81 5)) 247 6 (I 81 6)) 247 7 (I 81 7)) 247 8 (I 81 8))) 39 rfl ?_
  refine WP.copy rfl rfl rfl rfl rfl rfl (by omega) (by omega) (by decide) (by decide) ?_
  refine WP.run (pc' := 99) (L' := [.ref 247, .ref 81]) (st' := [.int (nI 6), .int (nI 0), .ref 249, .int (nI 0), .ref 83]) (I1 := (cpy (upN (upN (upN (upN (upN (upN (upN (upN (upN I 247 0 (I 81 0)) 247 1 (I 81 1)) 247 2 (I 81 2)) 247 3 (I 81 3)) 247 4 (I 81 4)) 247 5 (I 81 5)) 247 6 (I 81 6)) 247 7 (I 81 7)) 247 8 (I 81 8)) 82 248 0 0 6)) 7 rfl ?_
  refine WP.copy rfl rfl rfl rfl rfl rfl (by omega) (by omega) (by decide) (by decide) ?_
  refine WP.run (pc' := 114) (L' := [.ref 247, .ref 81]) (st' := [.int (nI 6), .int (nI 0), .ref 250, .int (nI 0), .ref 84]) (I1 := (cpy (cpy (upN (upN (upN (upN (upN (upN (upN (upN (upN I 247 0 (I 81 0)) 247 1 (I 81 1)) 247 2 (I 81 2)) 247 3 (I 81 3)) 247 4 (I 81 4)) 247 5 (I 81 5)) 247 6 (I 81 6)) 247 7 (I 81 7)) 247 8 (I 81 8)) 82 248 0 0 6) 83 249 0 0 6)) 7 rfl ?_
  refine WP.copy rfl rfl rfl rfl rfl rfl (by omega) (by omega) (by decide) (by decide) ?_
  refine WP.run (pc' := 128) (L' := [.ref 247, .ref 81]) (st' := [.int (nI 5), .int (nI 0), .ref 251, .int (nI 0), .ref 85]) (I1 := (cpy (cpy (cpy (upN (upN (upN (upN (upN (upN (upN (upN (upN I 247 0 (I 81 0)) 247 1 (I 81 1)) 247 2 (I 81 2)) 247 3 (I 81 3)) 247 4 (I 81 4)) 247 5 (I 81 5)) 247 6 (I 81 6)) 247 7 (I 81 7)) 247 8 (I 81 8)) 82 248 0 0 6) 83 249 0 0 6) 84 250 0 0 6)) 7 rfl ?_
  refine WP.copy rfl rfl rfl rfl rfl rfl (by omega) (by omega) (by decide) (by decide) ?_
  refine WP.run (pc' := 142) (L' := [.ref 247, .ref 81]) (st' := [.int (nI 5), .int (nI 0), .ref 252, .int (nI 0), .ref 86]) (I1 := (cpy (cpy (cpy (cpy (upN (upN (upN (upN (upN (upN (upN (upN (upN I 247 0 (I 81 0)) 247 1 (I 81 1)) 247 2 (I 81 2)) 247 3 (I 81 3)) 247 4 (I 81 4)) 247 5 (I 81 5)) 247 6 (I 81 6)) 247 7 (I 81 7)) 247 8 (I 81 8)) 82 248 0 0 6) 83 249 0 0 6) 84 250 0 0 6) 85 251 0 0 5)) 7 rfl ?_
  refine WP.copy rfl rfl rfl rfl rfl rfl (by omega) (by omega) (by decide) (by decide) ?_
  refine WP.run (pc' := 156) (L' := [.ref 247, .ref 81]) (st' := [.int (nI 5), .int (nI 0), .ref 253, .int (nI 0), .ref 87]) (I1 := (cpy (cpy (cpy (cpy (cpy (upN (upN (upN (upN (upN (upN (upN (upN (upN I 247 0 (I 81 0)) 247 1 (I 81 1)) 247 2 (I 81 2)) 247 3 (I 81 3)) 247 4 (I 81 4)) 247 5 (I 81 5)) 247 6 (I 81 6)) 247 7 (I 81 7)) 247 8 (I 81 8)) 82 248 0 0 6) 83 249 0 0 6) 84 250 0 0 6) 85 251 0 0 5) 86 252 0 0 5)) 7 rfl ?_
  refine WP.copy rfl rfl rfl rfl rfl rfl (by omega) (by omega) (by decide) (by decide) ?_
  refine WP.run (pc' := 170) (L' := [.ref 247, .ref 81]) (st' := [.int (nI 5), .int (nI 0), .ref 254, .int (nI 0), .ref 88]) (I1 := (cpy (cpy (cpy (cpy (cpy (cpy (upN (upN (upN (upN (upN (upN (upN (upN (upN I 247 0 (I 81 0)) 247 1 (I 81 1)) 247 2 (I 81 2)) 247 3 (I 81 3)) 247 4 (I 81 4)) 247 5 (I 81 5)) 247 6 (I 81 6)) 247 7 (I 81 7)) 247 8 (I 81 8)) 82 248 0 0 6) 83 249 0 0 6) 84 250 0 0 6) 85 251 0 0 5) 86 252 0 0 5) 87 253 0 0 5)) 7 rfl ?_
  refine WP.copy rfl rfl rfl rfl rfl rfl (by omega) (by omega) (by decide) (by decide) ?_
  exact WP.ret rfl rfl (⟨rfl, rfl⟩)
set_option maxRecDepth 100000 in
theorem sp_become_247_89 {d : Nat} {I : Pl} (hb : I 89 0 = 0 ∨ I 89 0 = 1) : Ev (d + 1) 2 [.ref 247, .ref 89] (mem I) (none) (mem (becN I 247 89)) := by
  refine Ev.only (EvX.enter rfl rfl rfl ?_)
  refine WP.run (pc' := 5) (L' := [.ref 247, .ref 89]) (st' := [.int (I 89 0), .ref 247]) (I1 := I) 3 rfl ?_
  refine WP.putB rfl rfl rfl rfl hb ?_
  refine WP.run (pc' := 84) (L' := [.ref 247, .ref 89]) (st' := [.int (nI 6), .int (nI 0), .ref 248, .int (nI 0), .ref 90]) (I1 := (upN (upN (upN (upN (upN (upN (upN (upN (upN I 247 0 (I 89 0)) 247 1 (I 89 1)) 247 2 (I 89 2)) 247 3 (I 89 3)) 247 4 (I 89 4)) 247 5 (I 89 5)) 247 6 (I 89 6)) 247 7 (I 89 7)) 247 8 (I 89 8))) 39 rfl ?_
  refine WP.copy rfl rfl rfl rfl rfl rfl (by omega) (by omega) (by decide) (by decide) ?_
  refine WP.run (pc' := 99) (L' := [.ref 247, .ref 89]) (st' := [.int (nI 6), .int (nI 0), .ref 249, .int (nI 0), .ref 91]) (I1 := (cpy (upN (upN (upN (upN (upN (upN (upN (upN (upN I 247 0 (I 89 0)) 247 1 (I 89 1)) 247 2 (I 89 2)) 247 3 (I 89 3)) 247 4 (I 89 4)) 247 5 (I 89 5)) 247 6 (I 89 6)) 247 7 (I 89 7)) 247 8 (I 89 8)) 90 248 0 0 6)) 7 rfl ?_
  refine WP.copy rfl rfl rfl rfl rfl rfl (by omega) (by omega) (by decide) (by decide) ?_
  refine WP.run (pc' := 114) (L' := [.ref 247, .ref 89]) (st' := [.int (nI 6), .int (nI 0), .ref 250, .int (nI 0), .ref 92]) (I1 := (cpy (cpy (upN (upN (upN (upN (upN (upN (upN (upN (upN I 247 0 (I 89 0)) 247 1 (I 89 1)) 247 2 (I 89 2)) 247 3 (I 89 3)) 247 4 (I 89 4)) 247 5 (I 89 5)) 247 6 (I 89 6)) 247 7 (I 89 7)) 247 8 (I 89 8)) 90 248 0 0 6) 91 249 0 0 6)) 7 rfl ?_
  refine WP.copy rfl rfl rfl rfl rfl rfl (by omega) (by omega) (by decide) (by decide) ?_
  refine WP.run (pc' := 128) (L' := [.ref 247, .ref 89]) (st' := [.int (nI 5), .int (nI 0), .ref 251, .int (nI 0), .ref 93]) (I1 := (cpy (cpy (cpy (upN (upN (upN (upN (upN (upN (upN (upN (upN I 247 0 (I 89 0)) 247 1 (I 89 1)) 247 2 (I 89 2)) 247 3 (I 89 3)) 247 4 (I 89 4)) 247 5 (I 89 5)) 247 6 (I 89 6)) 247 7 (I 89 7)) 247 8 (I 89 8)) 90 248 0 0 6) 91 249 0 0 6) 92 250 0 0 6)) 7 rfl ?_
  refine WP.copy rfl rfl rfl rfl rfl rfl (by omega) (by omega) (by decide) (by decide) ?_
  refine WP.run (pc' := 142) (L' := [.ref 247, .ref 89]) (st' := [.int (nI 5), .int (nI 0), .ref 252, .int (nI 0), .ref 94]) (I1 := (cpy (cpy (cpy (cpy (upN (upN (upN (upN (upN (upN (upN (upN (upN I 247 0 (I 89 0)) 247 1 (I 89 1)) 247 2 (I 89 2)) 247 3 (I 89 3)) 247 4 (I 89 4)) 247 5 (I 89 5)) 247 6 (I 89 6)) 247 7 (I 89 7)) 247 8 (I 89 8)) 90 248 0 0 6) 91 249 0 0 6) 92 250 0 0 6) 93 251 0 0 5)) 7 rfl ?_
  refine WP.copy rfl rfl rfl rfl rfl rfl (by omega) (by omega) (by decide) (by decide) ?_
  refine WP.run (pc' := 156) (L' := [.ref 247, .ref 89]) (st' := [.int (nI 5), .int (nI 0), .ref 253, .int (nI 0), .ref 95]) (I1 := (cpy (cpy (cpy (cpy (cpy (upN (upN (upN (upN (upN (upN (upN (upN (upN I 247 0 (I 89 0)) 247 1 (I 89 1)) 247 2 (I 89 2)) 247 3 (I 89 3)) 247 4 (I 89 4)) 247 5 (I 89 5)) 247 6 (I 89 6)) 247 7 (I 89 7)) 247 8 (I 89 8)) 90 248 0 0 6) 91 249 0 0 6) 92 250 0 0 6) 93 251 0 0 5) 94 252 0 0 5)) 7 rfl ?_
  refine WP.copy rfl rfl rfl rfl rfl rfl (by omega) (by omega) (by decide) (by decide) ?_
  refine WP.run (pc' := 170) (L' := [.ref 247, .ref 89]) (st' := [.int (nI 5), .int (nI 0), .ref 254, .int (nI 0), .ref 96]) (I1 := (cpy (cpy (cpy (cpy (cpy (cpy (upN (upN (upN (upN (upN (upN (upN (upN (upN I 247 0 (I 89 0)) 247 1 (I 89 1)) 247 2 (I 89 2)) 247 3 (I 89 3)) 247 4 (I 89 4)) 247 5 (I 89 5)) 247 6 (I 89 6)) 247 7 (I 89 7)) 247 8 (I 89 8)) 90 248 0 0 6) 91 249 0 0 6) 92 250 0 0 6) 93 251 0 0 5) 94 252 0 0 5) 95 253 0 0 5)) 7 rfl ?_
  refine WP.copy rfl rfl rfl rfl rfl rfl (by omega) (by omega) (by decide) (by decide) ?_
  exact WP.ret rfl rfl (⟨rfl, rfl⟩)
set_option maxRecDepth 100000 in
theorem sp_become_247_97 {d : Nat} {I : Pl} (hb : I 97 0 = 0 ∨ I 97 0 = 1) : Ev (d + 1) 2 [.ref 247, .ref 97] (mem I) (none) (mem (becN I 247 97)) := by
  refine Ev.only (EvX.enter rfl rfl rfl ?_)
  refine WP.run (pc' := 5) (L' := [.ref 247, .ref 97]) (st' := [.int (I 97 0), .ref 247]) (I1 := I) 3 rfl ?_
  refine WP.putB rfl rfl rfl rfl hb ?_
  refine WP.run (pc' := 84) (L' := [.ref 247, .ref 97]) (st' := [.int (nI 6), .int (nI 0), .ref 248, .int (nI 0), .ref 98]) (I1 := (upN (upN (upN (upN (upN (upN (upN (upN (upN I 247 0 (I 97 0)) 247 1 (I 97 1)) 247 2 (I 97 2)) 247 3 (I 97 3)) 247 4 (I 97 4)) 247 5 (I 97 5)) 247 6 (I 97 6)) 247 7 (I 97 7)) 247 8 (I 97 8))) 39 rfl ?_
  refine WP.copy rfl rfl rfl rfl rfl rfl (by omega) (by omega) (by decide) (by decide) ?_
  refine WP.run (pc' := 99) (L' := [.ref 247, .ref 97]) (st' := [.int (nI 6), .int (nI 0), .ref 249, .int (nI 0), .ref 99]) (I1 := (cpy (upN (upN (upN (upN (upN (upN (upN (upN (upN I 247 0 (I 97 0)) 247 1 (I 97 1)) 247 2 (I 97 2)) 247 3 (I 97 3)) 247 4 (I 97 4)) 247 5 (I 97 5)) 247 6 (I 97 6)) 247 7 (I 97 7)) 247 8 (I 97 8)) 98 248 0 0 6)) 7 rfl ?_
  refine WP.copy rfl rfl rfl rfl rfl rfl (by omega) (by omega) (by decide) (by decide) ?_
  refine WP.run (pc' := 114) (L' := [.ref 247, .ref 97]) (st' := [.int (nI 6), .int (nI 0), .ref 250, .int (nI 0), .ref 100]) (I1 := (cpy (cpy (upN (upN (upN (upN (upN (upN (upN (upN (upN I 247 0 (I 97 0)) 247 1 (I 97 1)) 247 2 (I 97 2)) 247 3 (I 97 3)) 247 4 (I 97 4)) 247 5 (I 97 5)) 247 6 (I 97 6)) 247 7 (I 97 7)) 247 8 (I 97 8)) 98 248 0 0 6) 99 249 0 0 6)) 7 rfl ?_
  refine WP.copy rfl rfl rfl rfl rfl rfl (by omega) (by omega) (by decide) (by decide) ?_
  refine WP.run (pc' := 128) (L' := [.ref 247, .ref 97]) (st' := [.int (nI 5), .int (nI 0), .ref 251, .int (nI 0), .ref 101]) (I1 := (cpy (cpy (cpy (upN (upN (upN (upN (upN (upN (upN (upN (upN I 247 0 (I 97 0)) 247 1 (I 97 1)) 247 2 (I 97 2)) 247 3 (I 97 3)) 247 4 (I 97 4)) 247 5 (I 97 5)) 247 6 (I 97 6)) 247 7 (I 97 7)) 247 8 (I 97 8)) 98 248 0 0 6) 99 249 0 0 6) 100 250 0 0 6)) 7 rfl ?_
  refine WP.copy rfl rfl rfl rfl rfl rfl (by omega) (by omega) (by decide) (by decide) ?_
  refine WP.run (pc' := 142) (L' := [.ref 247, .ref 97]) (st' := [.int (nI 5), .int (nI 0), .ref 252, .int (nI 0), .ref 102]) (I1 := (cpy (cpy (cpy (cpy (upN (upN (upN (upN (upN (upN (upN (upN (upN I 247 0 (I 97 0)) 247 1 (I 97 1)) 247 2 (I 97 2)) 247 3 (I 97 3)) 247 4 (I 97 4)) 247 5 (I 97 5)) 247 6 (I 97 6)) 247 7 (I 97 7)) 247 8 (I 97 8)) 98 248 0 0 6) 99 249 0 0 6) 100 250 0 0 6) 101 251 0 0 5)) 7 rfl ?_
  refine WP.copy rfl rfl rfl rfl rfl rfl (by omega) (by omega) (by decide) (by decide) ?_
  refine WP.run (pc' := 156) (L' := [.ref 247, .ref 97]) (st' := [.int (nI 5), .int (nI 0), .ref 253, .int (nI 0), .ref 103]) (I1 := (cpy (cpy (cpy (cpy (cpy (upN (upN (upN (upN (upN (upN (upN (upN (upN I 247 0 (I 97 0)) 247 1 (I 97 1)) 247 2 (I 97 2)) 247 3 (I 97 3)) 247 4 (I 97 4)) 247 5 (I 97 5)) 247 6 (I 97 6)) 247 7 (I 97 7)) 247 8 (I 97 8)) 98 248 0 0 6) 99 249 0 0 6) 100 250 0 0 6) 101 251 0 0 5) 102 252 0 0 5)) 7 rfl ?_
  refine WP.copy rfl rfl rfl rfl rfl rfl (by omega) (by omega) (by decide) (by decide) ?_
  refine WP.run (pc' := 170) (L' := [.ref 247, .ref 97]) (st' := [.int (nI 5), .int (nI 0), .ref 254, .int (nI 0), .ref 104]) (I1 := (cpy (cpy (cpy (cpy (cpy (cpy (upN (upN (upN (upN (upN (upN (upN (upN (upN I 247 0 (I 97 0)) 247 1 (I 97 1)) 247 2 (I 97 2)) 247 3 (I 97 3)) 247 4 (I 97 4)) 247 5 (I 97 5)) 247 6 (I 97 6)) 247 7 (I 97 7)) 247 8 (I 97 8)) 98 248 0 0 6) 99 249 0 0 6) 100 250 0 0 6) 101 251 0 0 5) 102 252 0 0 5) 103 253 0 0 5)) 7 rfl ?_
  refine WP.copy rfl rfl rfl rfl rfl rfl (by omega) (by omega) (by decide) (by decide) ?_
  exact WP.ret rfl rfl (⟨rfl, rfl⟩)
set_option maxRecDepth 100000 in
theorem sp_become_247_105 {d : Nat} {I : Pl} (hb : I 105 0 = 0 ∨ I 105 0 = 1) : Ev (d + 1) 2 [.ref 247, .ref 105] (mem I) (none) (mem (becN I 247 105)) := by
  refine Ev.only (EvX.enter rfl rfl rfl ?_)
  refine WP.run (pc' := 5) (L' := [.ref 247, .ref 105]) (st' := [.int (I 105 0), .ref 247]) (I1 := I) 3 rfl ?_
  refine WP.putB rfl rfl rfl rfl hb ?_
  refine WP.run (pc' := 84) (L' := [.ref 247, .ref 105]) (st' := [.int (nI 6), .int (nI 0), .ref 248, .int (nI 0), .ref 106]) (I1 := (upN (upN (upN (upN (upN (upN (upN (upN (upN I 247 0 (I 105 0)) 247 1 (I 105 1)) 247 2 (I 105 2)) 247 3 (I 105 3)) 247 4 (I 105 4)) 247 5 (I 105 5)) 247 6 (I 105 6)) 247 7 (I 105 7)) 247 8 (I 105 8))) 39 rfl ?_
  refine WP.copy rfl rfl rfl rfl rfl rfl (by omega) (by omega) (by decide) (by decide) ?_
  refine WP.run (pc' := 99) (L' := [.ref 247, .ref 105]) (st' := [.int (nI 6), .int (nI 0), .ref 249, .int (nI 0), .ref 107]) (I1 := (cpy (upN (upN (upN (upN (upN (upN (upN (upN (upN I 247 0 (I 105 0)) 247 1 (I 105 1)) 247 2 (I 105 2)) 247 3 (I 105 3)) 247 4 (I 105 4)) 247 5 (I 105 5)) 247 6 (I 105 6)) 247 7 (I 105 7)) 247 8 (I 105 8)) 106 248 0 0 6)) 7 rfl ?_
  refine WP.copy rfl rfl rfl rfl rfl rfl (by omega) (by omega) (by decide) (by decide) ?_
  refine WP.run (pc' := 114) (L' := [.ref 247, .ref 105]) (st' := [.int (nI 6), .int (nI 0), .ref 250, .int (nI 0), .ref 108]) (I1 := (cpy (cpy (upN (upN (upN (upN (upN (upN (upN (upN (upN I 247 0 (I 105 0)) 247 1 (I 105 1)) 247 2 (I 105 2)) 247 3 (I 105 3)) 247 4 (I 105 4)) 247 5 (I 105 5)) 247 6 (I 105 6)) 247 7 (I 105 7)) 247 8 (I 105 8)) 106 248 0 0 6) 107 249 0 0 6)) 7 rfl ?_
  refine WP.copy rfl rfl rfl rfl rfl rfl (by omega) (by omega) (by decide) (by decide) ?_
  refine WP.run (pc' := 128) (L' := [.ref 247, .ref 105]) (st' := [.int (nI 5), .int (nI 0), .ref 251, .int (nI 0), .ref 109]) (I1 := (cpy (cpy (cpy (upN (upN (upN (upN (upN (upN (upN (upN (upN I 247 0 (I 105 0)) 247 1 (I 105 1)) 247 2 (I 105 2)) 247 3 (I 105 3)) 247 4 (I 105 4)) 247 5 (I 105 5)) 247 6 (I 105 6)) 247 7 (I 105 7)) 247 8 (I 105 8)) 106 248 0 0 6) 107 249 0 0 6) 108 250 0 0 6)) 7 rfl ?_
  refine WP.copy rfl rfl rfl rfl rfl rfl (by omega) (by omega) (by decide) (by decide) ?_
  refine WP.run (pc' := 142) (L' := [.ref 247, .ref 105]) (st' := [.int (nI 5), .int (nI 0), .ref 252, .int (nI 0), .ref 110]) (I1 := (cpy (cpy (cpy (cpy (upN (upN (upN (upN (upN (upN (upN (upN (upN I 247 0 (I 105 0)) 247 1 (I 105 1)) 247 2 (I 105 2)) 247 3 (I 105 3)) 247 4 (I 105 4)) 247 5 (I 105 5)) 247 6 (I 105 6)) 247 7 (I 105 7)) 247 8 (I 105 8)) 106 248 0 0 6) 107 249 0 0 6) 108 250 0 0 6) 109 251 0 0 5)) 7 rfl ?_
  refine WP.copy rfl rfl rfl rfl rfl rfl (by omega) (by omega) (by decide) (by decide) ?_
  refine WP.run (pc' := 156) (L' := [.ref 247, .ref 105]) (st' := [.int (nI 5), .int (nI 0), .ref 253, .int (nI 0), .ref 111]) (I1 := (cpy (cpy (cpy (cpy (cpy (upN (upN (upN (upN (upN (upN (upN (upN (upN I 247 0 (I 105 0)) 247 1 (I 105 1)) 247 2 (I 105 2)) 247 3 (I 105 3)) 247 4 (I 105 4)) 247 5 (I 105 5)) 247 6 (I 105 6)) 247 7 (I 105 7)) 247 8 (I 105 8)) 106 248 0 0 6) 107 249 0 0 6) 108 250 0 0 6) 109 251 0 0 5) 110 252 0 0 5)) 7 rfl ?_
  refine WP.copy rfl rfl rfl rfl rfl rfl (by omega) (by omega) (by decide) (by decide) ?_
  refine WP.run (pc' := 170) (L' := [.ref 247, .ref 105]) (st' := [.int (nI 5), .int (nI 0), .ref 254, .int (nI 0), .ref 112]) (I1 := (cpy (cpy (cpy (cpy (cpy (cpy (upN (upN (upN (upN (upN (upN (upN (upN (upN I 247 0 (I 105 0)) 247 1 (I 105 1)) 247 2 (I 105 2)) 247 3 (I 105 3)) 247 4 (I 105 4)) 247 5 (I 105 5)) 247 6 (I 105 6)) 247 7 (I 105 7)) 247 8 (I 105 8)) 106 248 0 0 6) 107 249 0 0 6) 108 250 0 0 6) 109 251 0 0 5) 110 252 0 0 5) 111 253 0 0 5)) 7 rfl ?_
  refine WP.copy rfl rfl rfl rfl rfl rfl (by omega) (by omega) (by decide) (by decide) ?_
  exact WP.ret rfl rfl (⟨rfl, rfl⟩)
set_option maxRecDepth 100000 in
theorem sp_become_247_113 {d : Nat} {I : Pl} (hb : I 113 0 = 0 ∨ I 113 0 = 1) : Ev (d + 1) 2 [.ref 247, .ref 113] (mem I) (none) (mem (becN I 247 113)) := by
  refine Ev.only (EvX.enter rfl rfl rfl ?_)
  refine WP.run (pc' := 5) (L' := [.ref 247, .ref 113]) (st' := [.int (I 113 0), .ref 247]) (I1 := I) 3 rfl ?_
  refine WP.putB rfl rfl rfl rfl hb ?_
  refine WP.run (pc' := 84) (L' := [.ref 247, .ref 113]) (st' := [.int (nI 6), .int (nI 0), .ref 248, .int (nI 0), .ref 114]) (I1 := (upN (upN (upN (upN (upN (upN (upN (upN (upN I 247 0 (I 113 0)) 247 1 (I 113 1)) 247 2 (I 113 2)) 247 3 (I 113 3)) 247 4 (I 113 4)) 247 5 (I 113 5)) 247 6 (I 113 6)) 247 7 (I 113 7)) 247 8 (I 113 8))) 39 rfl ?_
  refine WP.copy rfl rfl rfl rfl rfl rfl (by omega) (by omega) (by decide) (by decide) ?_
  refine WP.run (pc' := 99) (L' := [.ref 247, .ref 113]) (st' := [.int (nI 6), .int (nI 0), .ref 249, .int (nI 0), .ref 115]) (I1 := (cpy (upN (upN (upN (upN (upN (upN (upN (upN (upN I 247 0 (I 113 0)) 247 1 (I 113 1)) 247 2 (I 113 2)) 247 3 (I 113 3)) 247 4 (I 113 4)) 247 5 (I 113 5)) 247 6 (I 113 6)) 247 7 (I 113 7)) 247 8 (I 113 8)) 114 248 0 0 6)) 7 rfl ?_
  refine WP.copy rfl rfl rfl rfl rfl rfl (by omega) (by omega) (by decide) (by decide) ?_
  refine WP.run (pc' := 114) (L' := [.ref 247, .ref 113]) (st' := [.int (nI 6), .int (nI 0), .ref 250, .int (nI 0), .ref 116]) (I1 := (cpy (cpy (upN (upN (upN (upN (upN (upN (upN (upN (upN I 247 0 (I 113 0)) 247 1 (I 113 1)) 247 2 (I 113 2)) 247 3 (I 113 3)) 247 4 (I 113 4)) 247 5 (I 113 5)) 247 6 (I 113 6)) 247 7 (I 113 7)) 247 8 (I 113 8)) 114 248 0 0 6) 115 249 0 0 6)) 7 rfl ?_
  refine WP.copy rfl rfl rfl rfl rfl rfl (by omega) (by omega) (by decide) (by decide) ?_
  refine WP.run (pc' := 128) (L' := [.ref 247, .ref 113]) (st' := [.int (nI 5), .int (nI 0), .ref 251, .int (nI 0), .ref 117]) (I1 := (cpy (cpy (cpy (upN (upN (upN (upN (upN (upN (upN (upN (upN I 247 0 (I 113 0)) 247 1 (I 113 1)) 247 2 (I 113 2)) 247 3 (I 113 3)) 247 4 (I 113 4)) 247 5 (I 113 5)) 247 6 (I 113 6)) 247 7 (I 113 7)) 247 8 (I 113 8)) 114 248 0 0 6) 115 249 0 0 6) 116 250 0 0 6)) 7 rfl ?_
  refine WP.copy rfl rfl rfl rfl rfl rfl (by omega) (by omega) (by decide) (by decide) ?_
  refine WP.run (pc' := 142) (L' := [.ref 247, .ref 113]) (st' := [.int (nI 5), .int (nI 0), .ref 252, .int (nI 0), .ref 118]) (I1 := (cpy (cpy (cpy (cpy (upN (upN (upN (upN (upN (upN (upN (upN (upN I 247 0 (I 113 0)) 247 1 (I 113 1)) 247 2 (I 113 2)) 247 3 (I 113 3)) 247 4 (I 113 4)) 247 5 (I 113 5)) 247 6 (I 113 6)) 247 7 (I 113 7)) 247 8 (I 113 8)) 114 248 0 0 6) 115 249 0 0 6) 116 250 0 0 6) 117 251 0 0 5)) 7 rfl ?_
  refine WP.copy rfl rfl rfl rfl rfl rfl (by omega) (by omega) (by decide) (by decide) ?_
  refine WP.run (pc' := 156) (L' := [.ref 247, .ref 113]) (st' := [.int (nI 5), .int (nI 0), .ref 253, .int (nI 0), .ref 119]) (I1 := (cpy (cpy (cpy (cpy (cpy (upN (upN (upN (upN (upN (upN (upN (upN (upN I 247 0 (I 113 0)) 247 1 (I 113 1)) 247 2 (I 113 2)) 247 3 (I 113 3)) 247 4 (I 113 4)) 247 5 (I 113 5)) 247 6 (I 113 6)) 247 7 (I 113 7)) 247 8 (I 113 8)) 114 248 0 0 6) 115 249 0 0 6) 116 250 0 0 6) 117 251 0 0 5) 118 252 0 0 5)) 7 rfl ?_
  refine WP.copy rfl rfl rfl rfl rfl rfl (by omega) (by omega) (by decide) (by decide) ?_
  refine WP.run (pc' := 170) (L' := [.ref 247, .ref 113]) (st' := [.int (nI 5), .int (nI 0), .ref 254, .int (nI 0), .ref 120]) (I1 := (cpy (cpy (cpy (cpy (cpy (cpy (upN (upN (upN (upN (upN (upN (upN (upN (upN I 247 0 (I 113 0)) 247 1 (I 113 1)) 247 2 (I 113 2)) 247 3 (I 113 3)) 247 4 (I 113 4)) 247 5 (I 113 5)) 247 6 (I 113 6)) 247 7 (I 113 7)) 247 8 (I 113 8)) 114 248 0 0 6) 115 249 0 0 6) 116 250 0 0 6) 117 251 0 0 5) 118 252 0 0 5) 119 253 0 0 5)) 7 rfl ?_
  refine WP.copy rfl rfl rfl rfl rfl rfl (by omega) (by omega) (by decide) (by decide) ?_
  exact WP.ret rfl rfl (⟨rfl, rfl⟩)
set_option maxRecDepth 100000 in
theorem sp_become_247_121 {d : Nat} {I : Pl} (hb : I 121 0 = 0 ∨ I 121 0 = 1) : Ev (d + 1) 2 [.ref 247, .ref 121] (mem I) (none) (mem (becN I 247 121)) := by
  refine Ev.only (EvX.enter rfl rfl rfl ?_)
  refine WP.run (pc' := 5) (L' := [.ref 247, .ref 121]) (st' := [.int (I 121 0), .ref 247]) (I1 := I) 3 rfl ?_
  refine WP.putB rfl rfl rfl rfl hb ?_
  refine WP.run (pc' := 84) (L' := [.ref 247, .ref 121]) (st' := [.int (nI 6), .int (nI 0), .ref 248, .int (nI 0), .ref 122]) (I1 := (upN (upN (upN (upN (upN (upN (upN (upN (upN I 247 0 (I 121 0)) 247 1 (I 121 1)) 247 2 (I 121 2)) 247 3 (I 121 3)) 247 4 (I 121 4)) 247 5 (I 121 5)) 247 6 (I 121 6)) 247 7 (I 121 7)) 247 8 (I 121 8))) 39 rfl ?_
  refine WP.copy rfl rfl rfl rfl rfl rfl (by omega) (by omega) (by decide) (by decide) ?_
  refine WP.run (pc' := 99) (L' := [.ref 247, .ref 121]) (st' := [.int (nI 6), .int (nI 0), .ref 249, .int (nI 0), .ref 123]) (I1 := (cpy (upN (upN (upN (upN (upN (upN (upN (upN (upN I 247 0 (I 121 0)) 247 1 (I 121 1)) 247 2 (I 121 2)) 247 3 (I 121 3)) 247 4 (I 121 4)) 247 5 (I 121 5)) 247 6 (I 121 6)) 247 7 (I 121 7)) 247 8 (I 121 8)) 122 248 0 0 6)) 7 rfl ?_
  refine WP.copy rfl rfl rfl rfl rfl rfl (by omega) (by omega) (by decide) (by decide) ?_
  refine WP.run (pc' := 114) (L' := [.ref 247, .ref 121]) (st' := [.int (nI 6), .int (nI 0), .ref 250, .int (nI 0), .ref 124]) (I1 := (cpy (cpy (upN (upN (upN (upN (upN (upN (upN (upN (upN I 247 0 (I 121 0)) 247 1 (I 121 1)) 247 2 (I 121 2)) 247 3 (I 121 3)) 247 4 (I 121 4)) 247 5 (I 121 5)) 247 6 (I 121 6)) 247 7 (I 121 7)) 247 8 (I 121 8)) 122 248 0 0 6) 123 249 0 0 6)) 7 rfl ?_
  refine WP.copy rfl rfl rfl rfl rfl rfl (by omega) (by omega) (by decide) (by decide) ?_
  refine WP.run (pc' := 128) (L' := [.ref 247, .ref 121]) (st' := [.int (nI 5), .int (nI 0), .ref 251, .int (nI 0), .ref 125]) (I1 := (cpy (cpy (cpy (upN (upN (upN (upN (upN (upN (upN (upN (upN I 247 0 (I 121 0)) 247 1 (I 121 1)) 247 2 (I 121 2)) 247 3 (I 121 3)) 247 4 (I 121 4)) 247 5 (I 121 5)) 247 6 (I 121 6)) 247 7 (I 121 7)) 247 8 (I 121 8)) 122 248 0 0 6) 123 249 0 0 6) 124 250 0 0 6)) 7 rfl ?_
  refine WP.copy rfl rfl rfl rfl rfl rfl (by omega) (by omega) (by decide) (by decide) ?_
  refine WP.run (pc' := 142) (L' := [.ref 247, .ref 121]) (st' := [.int (nI 5), .int (nI 0), .ref 252, .int (nI 0), .ref 126]) (I1 := (cpy (cpy (cpy (cpy (upN (upN (upN (upN (upN (upN (upN (upN (upN I 247 0 (I 121 0)) 247 1 (I 121 1)) 247 2 (I 121 2)) 247 3 (I 121 3)) 247 4 (I 121 4)) 247 5 (I 121 5)) 247 6 (I 121 6)) 247 7 (I 121 7)) 247 8 (I 121 8)) 122 248 0 0 6) 123 249 0 0 6) 124 250 0 0 6) 125 251 0 0 5)) 7 rfl ?_
  refine WP.copy rfl rfl rfl rfl rfl rfl (by omega) (by omega) (by decide) (by decide) ?_
  refine WP.run (pc' := 156) (L' := [.ref 247, .ref 121]) (st' := [.int (nI 5), .int (nI 0), .ref 253, .int (nI 0), .ref 127]) (I1 := (cpy (cpy (cpy (cpy (cpy (upN (upN (upN (upN (upN (upN (upN (upN (upN I 247 0 (I 121 0)) 247 1 (I 121 1)) 247 2 (I 121 2)) 247 3 (I 121 3)) 247 4 (I 121 4)) 247 5 (I 121 5)) 247 6 (I 121 6)) 247 7 (I 121 7)) 247 8 (I 121 8)) 122 248 0 0 6) 123 249 0 0 6) 124 250 0 0 6) 125 251 0 0 5) 126 252 0 0 5)) 7 rfl ?_
  refine WP.copy rfl rfl rfl rfl rfl rfl (by omega) (by omega) (by decide) (by decide) ?_
  refine WP.run (pc' := 170) (L' := [.ref 247, .ref 121]) (st' := [.int (nI 5), .int (nI 0), .ref 254, .int (nI 0), .ref 128]) (I1 := (cpy (cpy (cpy (cpy (cpy (cpy (upN (upN (upN (upN (upN (upN (upN (upN (upN I 247 0 (I 121 0)) 247 1 (I 121 1)) 247 2 (I 121 2)) 247 3 (I 121 3)) 247 4 (I 121 4)) 247 5 (I 121 5)) 247 6 (I 121 6)) 247 7 (I 121 7)) 247 8 (I 121 8)) 122 248 0 0 6) 123 249 0 0 6) 124 250 0 0 6) 125 251 0 0 5) 126 252 0 0 5) 127 253 0 0 5)) 7 rfl ?_
  refine WP.copy rfl rfl rfl rfl rfl rfl (by omega) (by omega) (by decide) (by decide) ?_
  exact WP.ret rfl rfl (⟨rfl, rfl⟩)
set_option maxRecDepth 100000 in
theorem sp_become_247_129 {d : Nat} {I : Pl} (hb : I 129 0 = 0 ∨ I 129 0 = 1) : Ev (d + 1) 2 [.ref 247, .ref 129] (mem I) (none) (mem (becN I 247 129)) := by
  refine Ev.only (EvX.enter rfl rfl rfl ?_)
  refine WP.run (pc' := 5) (L' := [.ref 247, .ref 129]) (st' := [.int (I 129 0), .ref 247]) (I1 := I) 3 rfl ?_
  refine WP.putB rfl rfl rfl rfl hb ?_
  refine WP.run (pc' := 84) (L' := [.ref 247, .ref 129]) (st' := [.int (nI 6), .int (nI 0), .ref 248, .int (nI 0), .ref 130]) (I1 := (upN (upN (upN (upN (upN (upN (upN (upN (upN I 247 0 (I 129 0)) 247 1 (I 129 1)) 247 2 (I 129 2)) 247 3 (I 129 3)) 247 4 (I 129 4)) 247 5 (I 129 5)) 247 6 (I 129 6)) 247 7 (I 129 7)) 247 8 (I 129 8))) 39 rfl ?_
  refine WP.copy rfl rfl rfl rfl rfl rfl (by omega) (by omega) (by decide) (by decide) ?_
  refine WP.run (pc' := 99) (L' := [.ref 247, .ref 129]) (st' := [.int (nI 6), .int (nI 0), .ref 249, .int (nI 0), .ref 131]) (I1 := (cpy (upN (upN (upN (upN (upN (upN (upN (upN (upN I 247 0 (I 129 0)) 247 1 (I 129 1)) 247 2 (I 129 2)) 247 3 (I 129 3)) 247 4 (I 129 4)) 247 5 (I 129 5)) 247 6 (I 129 6)) 247 7 (I 129 7)) 247 8 (I 129 8)) 130 248 0 0 6)) 7 rfl ?_
  refine WP.copy rfl rfl rfl rfl rfl rfl (by omega) (by omega) (by decide) (by decide) ?_
  refine WP.run (pc' := 114) (L' := [.ref 247, .ref 129]) (st' := [.int (nI 6), .int (nI 0), .ref 250, .int (nI 0), .ref 132]) (I1 := (cpy (cpy (upN (upN (upN (upN (upN (upN (upN (upN (upN I 247 0 (I 129 0)) 247 1 (I 129 1)) 247 2 (I 129 2)) 247 3 (I 129 3)) 247 4 (I 129 4)) 247 5 (I 129 5)) 247 6 (I 129 6)) 247 7 (I 129 7)) 247 8 (I 129 8)) 130 248 0 0 6) 131 249 0 0 6)) 7 rfl ?_
  refine WP.copy rfl rfl rfl rfl rfl rfl (by omega) (by omega) (by decide) (by decide) ?_
  refine WP.run (pc' := 128) (L' := [.ref 247, .ref 129]) (st' := [.int (nI 5), .int (nI 0), .ref 251, .int (nI 0), .ref 133]) (I1 := (cpy (cpy (cpy (upN (upN (upN (upN (upN (upN (upN (upN (upN I 247 0 (I 129 0)) 247 1 (I 129 1)) 247 2 (I 129 2)) 247 3 (I 129 3)) 247 4 (I 129 4)) 247 5 (I 129 5)) 247 6 (I 129 6)) 247 7 (I 129 7)) 247 8 (I 129 8)) 130 248 0 0 6) 131 249 0 0 6) 132 250 0 0 6)) 7 rfl ?_
  refine WP.copy rfl rfl rfl rfl rfl rfl (by omega) (by omega) (by decide) (by decide) ?_
  refine WP.run (pc' := 142) (L' := [.ref 247, .ref 129]) (st' := [.int (nI 5), .int (nI 0), .ref 252, .int (nI 0), .ref 134]) (I1 := (cpy (cpy (cpy (cpy (upN (upN (upN (upN (upN (upN (upN (upN (upN I 247 0 (I 129 0)) 247 1 (I 129 1)) 247 2 (I 129 2)) 247 3 (I 129 3)) 247 4 (I 129 4)) 247 5 (I 129 5)) 247 6 (I 129 6)) 247 7 (I 129 7)) 247 8 (I 129 8)) 130 248 0 0 6) 131 249 0 0 6) 132 250 0 0 6) 133 251 0 0 5)) 7 rfl ?_
  refine WP.copy rfl rfl rfl rfl rfl rfl (by omega) (by omega) (by decide) (by decide) ?_
  refine WP.run (pc' := 156) (L' := [.ref 247, .ref 129]) (st' := [.int (nI 5), .int (nI 0), .ref 253, .int (nI 0), .ref 135]) (I1 := (cpy (cpy (cpy (cpy (cpy (upN (upN (upN (upN (upN (upN (upN (upN (upN I 247 0 (I 129 0)) 247 1 (I 129 1)) 247 2 (I 129 2)) 247 3 (I 129 3)) 247 4 (I 129 4)) 247 5 (I 129 5)) 247 6 (I 129 6)) 247 7 (I 129 7)) 247 8 (I 129 8)) 130 248 0 0 6) 131 249 0 0 6) 132 250 0 0 6) 133 251 0 0 5) 134 252 0 0 5)) 7 rfl ?_
  refine WP.copy rfl rfl rfl rfl rfl rfl (by omega) (by omega) (by decide) (by decide) ?_
  refine WP.run (pc' := 170) (L' := [.ref 247, .ref 129]) (st' := [.int (nI 5), .int (nI 0), .ref 254, .int (nI 0), .ref 136]) (I1 := (cpy (cpy (cpy (cpy (cpy (cpy (upN (upN (upN (upN (upN (upN (upN (upN (upN I 247 0 (I 129 0)) 247 1 (I 129 1)) 247 2 (I 129 2)) 247 3 (I 129 3)) 247 4 (I 129 4)) 247 5 (I 129 5)) 247 6 (I 129 6)) 247 7 (I 129 7)) 247 8 (I 129 8)) 130 248 0 0 6) 131 249 0 0 6) 132 250 0 0 6) 133 251 0 0 5) 134 252 0 0 5) 135 253 0 0 5)) 7 rfl ?_
  refine WP.copy rfl rfl rfl rfl rfl rfl (by omega) (by omega) (by decide) (by decide) ?_
  exact WP.ret rfl rfl (⟨rfl, rfl⟩)
set_option maxRecDepth 100000 in
theorem sp_become_247_137 {d : Nat} {I : Pl} (hb : I 137 0 = 0 ∨ I 137 0 = 1) : Ev (d + 1) 2 [.ref 247, .ref 137] (mem I) (none) (mem (becN I 247 137)) := by
  refine Ev.only (EvX.enter rfl rfl rfl ?_)
  refine WP.run (pc' := 5) (L' := [.ref 247, .ref 137]) (st' := [.int (I 137 0), .ref 247]) (I1 := I) 3 rfl ?_
  refine WP.putB rfl rfl rfl rfl hb ?_
  refine WP.run (pc' := 84) (L' := [.ref 247, .ref 137]) (st' := [.int (nI 6), .int (nI 0), .ref 248, .int (nI 0), .ref 138]) (I1 := (upN (upN (upN (upN (upN (upN (upN (upN (upN I 247 0 (I 137 0)) 247 1 (I 137 1)) 247 2 (I 137 2)) 247 3 (I 137 3)) 247 4 (I 137 4)) 247 5 (I 137 5)) 247 6 (I 137 6)) 247 7 (I 137 7)) 247 8 (I 137 8))) 39 rfl ?_
  refine WP.copy rfl rfl rfl rfl rfl rfl (by omega) (by omega) (by decide) (by decide) ?_
  refine WP.run (pc' := 99) (L' := [.ref 247, .ref 137]) (st' := [.int (nI 6), .int (nI 0), .ref 249, .int (nI 0), .ref 139]) (I1 := (cpy (upN (upN (upN (upN (upN (upN (upN (upN (upN I 247 0 (I 137 0)) 247 1 (I 137 1)) 247 2 (I 137 2)) 247 3 (I 137 3)) 247 4 (I 137 4)) 247 5 (I 137 5)) 247 6 (I 137 6)) 247 7 (I 137 7)) 247 8 (I 137 8)) 138 248 0 0 6)) 7 rfl ?_
  refine WP.copy rfl rfl rfl rfl rfl rfl (by omega) (by omega) (by decide) (by decide) ?_
  refine WP.run (pc' := 114) (L' := [.ref 247, .ref 137]) (st' := [.int (nI 6), .int (nI 0), .ref 250, .int (nI 0), .ref 140]) (I1 := (cpy (cpy (upN (upN (upN (upN (upN (upN (upN (upN (upN I 247 0 (I 137 0)) 247 1 (I 137 1)) 247 2 (I 137 2)) 247 3 (I 137 3)) 247 4 (I 137 4)) 247 5 (I 137 5)) 247 6 (I 137 6)) 247 7 (I 137 7)) 247 8 (I 137 8)) 138 248 0 0 6) 139 249 0 0 6)) 7 rfl ?_
  refine WP.copy rfl rfl rfl rfl rfl rfl (by omega) (by omega) (by decide) (by decide) ?_
  refine WP.run (pc' := 128) (L' := [.ref 247, .ref 137]) (st' := [.int (nI 5), .int (nI 0), .ref 251, .int (nI 0), .ref 141]) (I1 := (cpy (cpy (cpy (upN (upN (upN (upN (upN (upN (upN (upN (upN I 247 0 (I 137 0)) 247 1 (I 137 1)) 247 2 (I 137 2)) 247 3 (I 137 3)) 247 4 (I 137 4)) 247 5 (I 137 5)) 247 6 (I 137 6)) 247 7 (I 137 7)) 247 8 (I 137 8)) 138 248 0 0 6) 139 249 0 0 6) 140 250 0 0 6)) 7 rfl ?_
  refine WP.copy rfl rfl rfl rfl rfl rfl (by omega) (by omega) (by decide) (by decide) ?_
  refine WP.run (pc' := 142) (L' := [.ref 247, .ref 137]) (st' := [.int (nI 5), .int (nI 0), .ref 252, .int (nI 0), .ref 142]) (I1 := (cpy (cpy (cpy (cpy (upN (upN (upN (upN (upN (upN (upN (upN (upN I 247 0 (I 137 0)) 247 1 (I 137 1)) 247 2 (I 137 2)) 247 3 (I 137 3)) 247 4 (I 137 4)) 247 5 (I 137 5)) 247 6 (I 137 6)) 247 7 (I 137 7)) 247 8 (I 137 8)) 138 248 0 0 6) 139 249 0 0 6) 140 250 0 0 6) 141 251 0 0 5)) 7 rfl ?_
  refine WP.copy rfl rfl rfl rfl rfl rfl (by omega) (by omega) (by decide) (by decide) ?_
  refine WP.run (pc' := 156) (L' := [.ref 247, .ref 137]) (st' := [.int (nI 5), .int (nI 0), .ref 253, .int (nI 0), .ref 143]) (I1 := (cpy (cpy (cpy (cpy (cpy (upN (upN (upN (upN (upN (upN (upN (upN (upN I 247 0 (I 137 0)) 247 1 (I 137 1)) 247 2 (I 137 2)) 247 3 (I 137 3)) 247 4 (I 137 4)) 247 5 (I 137 5)) 247 6 (I 137 6)) 247 7 (I 137 7)) 247 8 (I 137 8)) 138 248 0 0 6) 139 249 0 0 6) 140 250 0 0 6) 141 251 0 0 5) 142 252 0 0 5)) 7 rfl ?_
  refine WP.copy rfl rfl rfl rfl rfl rfl (by omega) (by omega) (by decide) (by decide) ?_
  refine WP.run (pc' := 170) (L' := [.ref 247, .ref 137]) (st' := [.int (nI 5), .int (nI 0), .ref 254, .int (nI 0), .ref 144]) (I1 := (cpy (cpy (cpy (cpy (cpy (cpy (upN (upN (upN (upN (upN (upN (upN (upN (upN I 247 0 (I 137 0)) 247 1 (I 137 1)) 247 2 (I 137 2)) 247 3 (I 137 3)) 247 4 (I 137 4)) 247 5 (I 137 5)) 247 6 (I 137 6)) 247 7 (I 137 7)) 247 8 (I 137 8)) 138 248 0 0 6) 139 249 0 0 6) 140 250 0 0 6) 141 251 0 0 5) 142 252 0 0 5) 143 253 0 0 5)) 7 rfl ?_
  refine WP.copy rfl rfl rfl rfl rfl rfl (by omega) (by omega) (by decide) (by decide) ?_
  exact WP.ret rfl rfl (⟨rfl, rfl⟩)
set_option maxRecDepth 100000 in
theorem sp_become_247_145 {d : Nat} {I : Pl} (hb : I 145 0 = 0 ∨ I 145 0 = 1) : Ev (d + 1) 2 [.ref 247, .ref 145] (mem I) (none) (mem (becN I 247 145)) := by
  refine Ev.only (EvX.enter rfl rfl rfl ?_)
  refine WP.run (pc' := 5) (L' := [.ref 247, .ref 145]) (st' := [.int (I 145 0), .ref 247]) (I1 := I) 3 rfl ?_
  refine WP.putB rfl rfl rfl rfl hb ?_
  refine WP.run (pc' := 84) (L' := [.ref 247, .ref 145]) (st' := [.int (nI 6), .int (nI 0), .ref 248, .int (nI 0), .ref 146]) (I1 := (upN (upN (upN (upN (upN (upN (upN (upN (upN I 247 0 (I 145 0)) 247 1 (I 145 1)) 247 2 (I 145 2)) 247 3 (I 145 3)) 247 4 (I 145 4)) 247 5 (I 145 5)) 247 6 (I 145 6)) 247 7 (I 145 7)) 247 8 (I 145 8))) 39 rfl ?_
  refine WP.copy rfl rfl rfl rfl rfl rfl (by omega) (by omega) (by decide) (by decide) ?_
  refine WP.run (pc' := 99) (L' := [.ref 247, .ref 145]) (st' := [.int (nI 6), .int (nI 0), .ref 249, .int (nI 0), .ref 147]) (I1 := (cpy (upN (upN (upN (upN (upN (upN (upN (upN (upN I 247 0 (I 145 0)) 247 1 (I 145 1)) 247 2 (I 145 2)) 247 3 (I 145 3)) 247 4 (I 145 4)) 247 5 (I 145 5)) 247 6 (I 145 6)) 247 7 (I 145 7)) 247 8 (I 145 8)) 146 248 0 0 6)) 7 rfl ?_
  refine WP.copy rfl rfl rfl rfl rfl rfl (by omega) (by omega) (by decide) (by decide) ?_
  refine WP.run (pc' := 114) (L' := [.ref 247, .ref 145]) (st' := [.int (nI 6), .int (nI 0), .ref 250, .int (nI 0), .ref 148]) (I1 := (cpy (cpy (upN (upN (upN (upN (upN (upN (upN (upN (upN I 247 0 (I 145 0)) 247 1 (I 145 1)) 247 2 (I 145 2)) 247 3 (I 145 3)) 247 4 (I 145 4)) 247 5 (I 145 5)) 247 6 (I 145 6)) 247 7 (I 145 7)) 247 8 (I 145 8)) 146 248 0 0 6) 147 249 0 0 6)) 7 rfl ?_
  refine WP.copy rfl rfl rfl rfl rfl rfl (by omega) (by omega) (by decide) (by decide) ?_
  refine WP.run (pc' := 128) (L' := [.ref 247, .ref 145]) (st' := [.int (nI 5), .int (nI 0), .ref 251, .int (nI 0), .ref 149]) (I1 := (cpy (cpy (cpy (upN (upN (upN (upN (upN (upN (upN (upN (upN I 247 0 (I 145 0)) 247 1 (I 145 1)) 247 2 (I 145 2)) 247 3 (I 145 3)) 247 4 (I 145 4)) 247 5 (I 145 5)) 247 6 (I 145 6)) 247 7 (I 145 7)) 247 8 (I 145 8)) 146 248 0 0 6) 147 249 0 0 6) 148 250 0 0 6)) 7 rfl ?_
  refine WP.copy rfl rfl rfl rfl rfl rfl (by omega) (by omega) (by decide) (by decide) ?_
  refine WP.run (pc' := 142) (L' := [.ref 247, .ref 145]) (st' := [.int (nI 5), .int (nI 0), .ref 252, .int (nI 0), .ref 150]) (I1 := (cpy (cpy (cpy (cpy (upN (upN (upN (upN (upN (upN (upN (upN (upN I 247 0 (I 145 0)) 247 1 (I 145 1)) 247 2 (I 145 2)) 247 3 (I 145 3)) 247 4 (I 145 4)) 247 5 (I 145 5)) 247 6 (I 145 6)) 247 7 (I 145 7)) 247 8 (I 145 8)) 146 248 0 0 6) 147 249 0 0 6) 148 250 0 0 6) 149 251 0 0 5)) 7 rfl ?_
  refine WP.copy rfl rfl rfl rfl rfl rfl (by omega) (by omega) (by decide) (by decide) ?_
  refine WP.run (pc' := 156) (L' := [.ref 247, .ref 145]) (st' := [.int (nI 5), .int (nI 0), .ref 253, .int (nI 0), .ref 151]) (I1 := (cpy (cpy (cpy (cpy (cpy (upN (upN (upN (upN (upN (upN (upN (upN (upN I 247 0 (I 145 0)) 247 1 (I 145 1)) 247 2 (I 145 2)) 247 3 (I 145 3)) 247 4 (I 145 4)) 247 5 (I 145 5)) 247 6 (I 145 6)) 247 7 (I 145 7)) 247 8 (I 145 8)) 146 248 0 0 6) 147 249 0 0 6) 148 250 0 0 6) 149 251 0 0 5) 150 252 0 0 5)) 7 rfl ?_
  refine WP.copy rfl rfl rfl rfl rfl rfl (by omega) (by omega) (by decide) (by decide) ?_
  refine WP.run (pc' := 170) (L' := [.ref 247, .ref 145]) (st' := [.int (nI 5), .int (nI 0), .ref 254, .int (nI 0), .ref 152]) (I1 := (cpy (cpy (cpy (cpy (cpy (cpy (upN (upN (upN (upN (upN (upN (upN (upN (upN I 247 0 (I 145 0)) 247 1 (I 145 1)) 247 2 (I 145 2)) 247 3 (I 145 3)) 247 4 (I 145 4)) 247 5 (I 145 5)) 247 6 (I 145 6)) 247 7 (I 145 7)) 247 8 (I 145 8)) 146 248 0 0 6) 147 249 0 0 6) 148 250 0 0 6) 149 251 0 0 5) 150 252 0 0 5) 151 253 0 0 5)) 7 rfl ?_
  refine WP.copy rfl rfl rfl rfl rfl rfl (by omega) (by omega) (by decide) (by decide) ?_
  exact WP.ret rfl rfl (⟨rfl, rfl⟩)
set_option maxRecDepth 100000 in
theorem sp_become_247_153 {d : Nat} {I : Pl} (hb : I 153 0 = 0 ∨ I 153 0 = 1) : Ev (d + 1) 2 [.ref 247, .ref 153] (mem I) (none) (mem (becN I 247 153)) := by
  refine Ev.only (EvX.enter rfl rfl rfl ?_)
  refine WP.run (pc' := 5) (L' := [.ref 247, .ref 153]) (st' := [.int (I 153 0), .ref 247]) (I1 := I) 3 rfl ?_
  refine WP.putB rfl rfl rfl rfl hb ?_
  refine WP.run (pc' := 84) (L' := [.ref 247, .ref 153]) (st' := [.int (nI 6), .int (nI 0), .ref 248, .int (nI 0), .ref 154]) (I1 := (upN (upN (upN (upN (upN (upN (upN (upN (upN I 247 0 (I 153 0)) 247 1 (I 153 1)) 247 2 (I 153 2)) 247 3 (I 153 3)) 247 4 (I 153 4)) 247 5 (I 153 5)) 247 6 (I 153 6)) 247 7 (I 153 7)) 247 8 (I 153 8))) 39 rfl ?_
  refine WP.copy rfl rfl rfl rfl rfl rfl (by omega) (by omega) (by decide) (by decide) ?_
  refine WP.run (pc' := 99) (L' := [.ref 247, .ref 153]) (st' := [.int (nI 6), .int (nI 0), .ref 249, .int (nI 0), .ref 155]) (I1 := (cpy (upN (upN (upN (upN (upN (upN (upN (upN (upN I 247 0 (I 153 0)) 247 1 (I 153 1)) 247 2 (I 153 2)) 247 3 (I 153 3)) 247 4 (I 153 4)) 247 5 (I 153 5)) 247 6 (I 153 6)) 247 7 (I 153 7)) 247 8 (I 153 8)) 154 248 0 0 6)) 7 rfl ?_
  refine WP.copy rfl rfl rfl rfl rfl rfl (by omega) (by omega) (by decide) (by decide) ?_
  refine WP.run (pc' := 114) (L' := [.ref 247, .ref 153]) (st' := [.int (nI 6), .int (nI 0), .ref 250, .int (nI 0), .ref 156]) (I1 := (cpy (cpy (upN (upN (upN (upN (upN (upN (upN (upN (upN I 247 0 (I 153 0)) 247 1 (I 153 1)) 247 2 (I 153 2)) 247 3 (I 153 3)) 247 4 (I 153 4)) 247 5 (I 153 5)) 247 6 (I 153 6)) 247 7 (I 153 7)) 247 8 (I 153 8)) 154 248 0 0 6) 155 249 0 0 6)) 7 rfl ?_
  refine WP.copy rfl rfl rfl rfl rfl rfl (by omega) (by omega) (by decide) (by decide) ?_
  refine WP.run (pc' := 128) (L' := [.ref 247, .ref 153]) (st' := [.int (nI 5), .int (nI 0), .ref 251, .int (nI 0), .ref 157]) (I1 := (cpy (cpy (cpy (upN (upN (upN (upN (upN (upN (upN (upN (upN I 247 0 (I 153 0)) 247 1 (I 153 1)) 247 2 (I 153 2)) 247 3 (I 153 3)) 247 4 (I 153 4)) 247 5 (I 153 5)) 247 6 (I 153 6)) 247 7 (I 153 7)) 247 8 (I 153 8)) 154 248 0 0 6) 155 249 0 0 6) 156 250 0 0 6)) 7 rfl ?_
  refine WP.copy rfl rfl rfl rfl rfl rfl (by omega) (by omega) (by decide) (by decide) ?_
  refine WP.run (pc' := 142) (L' := [.ref 247, .ref 153]) (st' := [.int (nI 5), .int (nI 0), .ref 252, .int (nI 0), .ref 158]) (I1 := (cpy (cpy (cpy (cpy (upN (upN (upN (upN (upN (upN (upN (upN (upN I 247 0 (I 153 0)) 247 1 (I 153 1)) 247 2 (I 153 2)) 247 3 (I 153 3)) 247 4 (I 153 4)) 247 5 (I 153 5)) 247 6 (I 153 6)) 247 7 (I 153 7)) 247 8 (I 153 8)) 154 248 0 0 6) 155 249 0 0 6) 156 250 0 0 6) 157 251 0 0 5)) 7 rfl ?_
  refine WP.copy rfl rfl rfl rfl rfl rfl (by omega) (by omega) (by decide) (by decide) ?_
  refine WP.run (pc' := 156) (L' := [.ref 247, .ref 153]) (st' := [.int (nI 5), .int (nI 0), .ref 253, .int (nI 0), .ref 159]) (I1 := (cpy (cpy (cpy (cpy (cpy (upN (upN (upN (upN (upN (upN (upN (upN (upN I 247 0 (I 153 0)) 247 1 (I 153 1)) 247 2 (I 153 2)) 247 3 (I 153 3)) 247 4 (I 153 4)) 247 5 (I 153 5)) 247 6 (I 153 6)) 247 7 (I 153 7)) 247 8 (I 153 8)) 154 248 0 0 6) 155 249 0 0 6) 156 250 0 0 6) 157 251 0 0 5) 158 252 0 0 5)) 7 rfl ?_
  refine WP.copy rfl rfl rfl rfl rfl rfl (by omega) (by omega) (by decide) (by decide) ?_
  refine WP.run (pc' := 170) (L' := [.ref 247, .ref 153]) (st' := [.int (nI 5), .int (nI 0), .ref 254, .int (nI 0), .ref 160]) (I1 := (cpy (cpy (cpy (cpy (cpy (cpy (upN (upN (upN (upN (upN (upN (upN (upN (upN I 247 0 (I 153 0)) 247 1 (I 153 1)) 247 2 (I 153 2)) 247 3 (I 153 3)) 247 4 (I 153 4)) 247 5 (I 153 5)) 247 6 (I 153 6)) 247 7 (I 153 7)) 247 8 (I 153 8)) 154 248 0 0 6) 155 249 0 0 6) 156 250 0 0 6) 157 251 0 0 5) 158 252 0 0 5) 159 253 0 0 5)) 7 rfl ?_
  refine WP.copy rfl rfl rfl rfl rfl rfl (by omega) (by omega) (by decide) (by decide) ?_
  exact WP.ret rfl rfl (⟨rfl, rfl⟩)
set_option maxRecDepth 100000 in
theorem sp_become_247_161 {d : Nat} {I : Pl} (hb : I 161 0 = 0 ∨ I 161 0 = 1) : Ev (d + 1) 2 [.ref 247, .ref 161] (mem I) (none) (mem (becN I 247 161)) := by
  refine Ev.only (EvX.enter rfl rfl rfl ?_)
  refine WP.run (pc' := 5) (L' := [.ref 247, .ref 161]) (st' := [.int (I 161 0), .ref 247]) (I1 := I) 3 rfl ?_
  refine WP.putB rfl rfl rfl rfl hb ?_
  refine WP.run (pc' := 84) (L' := [.ref 247, .ref 161]) (st' := [.int (nI 6), .int (nI 0), .ref 248, .int (nI 0), .ref 162]) (I1 := (upN (upN (upN (upN (upN (upN (upN (upN (upN I 247 0 (I 161 0)) 247 1 (I 161 1)) 247 2 (I 161 2)) 247 3 (I 161 3)) 247 4 (I 161 4)) 247 5 (I 161 5)) 247 6 (I 161 6)) 247 7 (I 161 7)) 247 8 (I 161 8))) 39 rfl ?_
  refine WP.copy rfl rfl rfl rfl rfl rfl (by omega) (by omega) (by decide) (by decide) ?_
  refine WP.run (pc' := 99) (L' := [.ref 247, .ref 161]) (st' := [.int (nI 6), .int (nI 0), .ref 249, .int (nI 0), .ref 163]) (I1 := (cpy (upN (upN (upN (upN (upN (upN (upN (upN (upN I 247 0 (I 161 0)) 247 1 (I 161 1)) 247 2 (I 161 2)) 247 3 (I 161 3)) 247 4 (I 161 4)) 247 5 (I 161 5)) 247 6 (I 161 6)) 247 7 (I 161 7)) 247 8 (I 161 8)) 162 248 0 0 6)) 7 rfl ?_
  refine WP.copy rfl rfl rfl rfl rfl rfl (by omega) (by omega) (by decide) (by decide) ?_
  refine WP.run (pc' := 114) (L' := [.ref 247, .ref 161]) (st' := [.int (nI 6), .int (nI 0), .ref 250, .int (nI 0), .ref 164]) (I1 := (cpy (cpy (upN (upN (upN (upN (upN (upN (upN (upN (upN I 247 0 (I 161 0)) 247 1 (I 161 1)) 247 2 (I 161 2)) 247 3 (I 161 3)) 247 4 (I 161 4)) 247 5 (I 161 5)) 247 6 (I 161 6)) 247 7 (I 161 7)) 247 8 (I 161 8)) 162 248 0 0 6) 163 249 0 0 6)) 7 rfl ?_
  refine WP.copy rfl rfl rfl rfl rfl rfl (by omega) (by omega) (by decide) (by decide) ?_
  refine WP.run (pc' := 128) (L' := [.ref 247, .ref 161]) (st' := [.int (nI 5), .int (nI 0), .ref 251, .int (nI 0), .ref 165]) (I1 := (cpy (cpy (cpy (upN (upN (upN (upN (upN (upN (upN (upN (upN I 247 0 (I 161 0)) 247 1 (I 161 1)) 247 2 (I 161 2)) 247 3 (I 161 3)) 247 4 (I 161 4)) 247 5 (I 161 5)) 247 6 (I 161 6)) 247 7 (I 161 7)) 247 8 (I 161 8)) 162 248 0 0 6) 163 249 0 0 6) 164 250 0 0 6)) 7 rfl ?_
  refine WP.copy rfl rfl rfl rfl rfl rfl (by omega) (by omega) (by decide) (by decide) ?_
  refine WP.run (pc' := 142) (L' := [.ref 247, .ref 161]) (st' := [.int (nI 5), .int (nI 0), .ref 252, .int (nI 0), .ref 166]) (I1 := (cpy (cpy (cpy (cpy (upN (upN (upN (upN (upN (upN (upN (upN (upN I 247 0 (I 161 0)) 247 1 (I 161 1)) 247 2 (I 161 2)) 247 3 (I 161 3)) 247 4 (I 161 4)) 247 5 (I 161 5)) 247 6 (I 161 6)) 247 7 (I 161 7)) 247 8 (I 161 8)) 162 248 0 0 6) 163 249 0 0 6) 164 250 0 0 6) 165 251 0 0 5)) 7 rfl ?_
  refine WP.copy rfl rfl rfl rfl rfl rfl (by omega) (by omega) (by decide) (by decide) ?_
  refine WP.run (pc' := 156) (L' := [.ref 247, .ref 161]) (st' := [.int (nI 5), .int (nI 0), .ref 253, .int (nI 0), .ref 167]) (I1 := (cpy (cpy (cpy (cpy (cpy (upN (upN (upN (upN (upN (upN (upN (upN (upN I 247 0 (I 161 0)) 247 1 (I 161 1)) 247 2 (I 161 2)) 247 3 (I 161 3)) 247 4 (I 161 4)) 247 5 (I 161 5)) 247 6 (I 161 6)) 247 7 (I 161 7)) 247 8 (I 161 8)) 162 248 0 0 6) 163 249 0 0 6) 164 250 0 0 6) 165 251 0 0 5) 166 252 0 0 5)) 7 rfl ?_
  refine WP.copy rfl rfl rfl rfl rfl rfl (by omega) (by omega) (by decide) (by decide) ?_
  refine WP.run (pc' := 170) (L' := [.ref 247, .ref 161]) (st' := [.int (nI 5), .int (nI 0), .ref 254, .int (nI 0), .ref 168]) (I1 := (cpy (cpy (cpy (cpy (cpy (cpy (upN (upN (upN (upN (upN (upN (upN (upN (upN I 247 0 (I 161 0)) 247 1 (I 161 1)) 247 2 (I 161 2)) 247 3 (I 161 3)) 247 4 (I 161 4)) 247 5 (I 161 5)) 247 6 (I 161 6)) 247 7 (I 161 7)) 247 8 (I 161 8)) 162 248 0 0 6) 163 249 0 0 6) 164 250 0 0 6) 165 251 0 0 5) 166 252 0 0 5) 167 253 0 0 5)) 7 rfl ?_
  refine WP.copy rfl rfl rfl rfl rfl rfl (by omega) (by omega) (by decide) (by decide) ?_
  exact WP.ret rfl rfl (⟨rfl, rfl⟩)
set_option maxRecDepth 100000 in
theorem sp_become_247_169 {d : Nat} {I : Pl} (hb : I 169 0 = 0 ∨ I 169 0 = 1) : Ev (d + 1) 2 [.ref 247, .ref 169] (mem I) (none) (mem (becN I 247 169)) := by
  refine Ev.only (EvX.enter rfl rfl rfl ?_)
  refine WP.run (pc' := 5) (L' := [.ref 247, .ref 169]) (st' := [.int (I 169 0), .ref 247]) (I1 := I) 3 rfl ?_
  refine WP.putB rfl rfl rfl rfl hb ?_
  refine WP.run (pc' := 84) (L' := [.ref 247, .ref 169]) (st' := [.int (nI 6), .int (nI 0), .ref 248, .int (nI 0), .ref 170]) (I1 := (upN (upN (upN (upN (upN (upN (upN (upN (upN I 247 0 (I 169 0)) 247 1 (I 169 1)) 247 2 (I 169 2)) 247 3 (I 169 3)) 247 4 (I 169 4)) 247 5 (I 169 5)) 247 6 (I 169 6)) 247 7 (I 169 7)) 247 8 (I 169 8))) 39 rfl ?_
  refine WP.copy rfl rfl rfl rfl rfl rfl (by omega) (by omega) (by decide) (by decide) ?_
  refine WP.run (pc' := 99) (L' := [.ref 247, .ref 169]) (st' := [.int (nI 6), .int (nI 0), .ref 249, .int (nI 0), .ref 171]) (I1 := (cpy (upN (upN (upN (upN (upN (upN (upN (upN (upN I 247 0 (I 169 0)) 247 1 (I 169 1)) 247 2 (I 169 2)) 247 3 (I 169 3)) 247 4 (I 169 4)) 247 5 (I 169 5)) 247 6 (I 169 6)) 247 7 (I 169 7)) 247 8 (I 169 8)) 170 248 0 0 6)) 7 rfl ?_
  refine WP.copy rfl rfl rfl rfl rfl rfl (by omega) (by omega) (by decide) (by decide) ?_
  refine WP.run (pc' := 114) (L' := [.ref 247, .ref 169]) (st' := [.int (nI 6), .int (nI 0), .ref 250, .int (nI 0), .ref 172]) (I1 := (cpy (cpy (upN (upN (upN (upN (upN (upN (upN (upN (upN I 247 0 (I 169 0)) 247 1 (I 169 1)) 247 2 (I 169 2)) 247 3 (I 169 3)) 247 4 (I 169 4)) 247 5 (I 169 5)) 247 6 (I 169 6)) 247 7 (I 169 7)) 247 8 (I 169 8)) 170 248 0 0 6) 171 249 0 0 6)) 7 rfl ?_
  refine WP.copy rfl rfl rfl rfl rfl rfl (by omega) (by omega) (by decide) (by decide) ?_
  refine WP.run (pc' := 128) (L' := [.ref 247, .ref 169]) (st' := [.int (nI 5), .int (nI 0), .ref 251, .int (nI 0), .ref 173]) (I1 := (cpy (cpy (cpy (upN (upN (upN (upN (upN (upN (upN (upN (upN I 247 0 (I 169 0)) 247 1 (I 169 1)) 247 2 (I 169 2)) 247 3 (I 169 3)) 247 4 (I 169 4)) 247 5 (I 169 5)) 247 6 (I 169 6)) 247 7 (I 169 7)) 247 8 (I 169 8)) 170 248 0 0 6) 171 249 0 0 6) 172 250 0 0 6)) 7 rfl ?_
  refine WP.copy rfl rfl rfl rfl rfl rfl (by omega) (by omega) (by decide) (by decide) ?_
  refine WP.run (pc' := 142) (L' := [.ref 247, .ref 169]) (st' := [.int (nI 5), .int (nI 0), .ref 252, .int (nI 0), .ref 174]) (I1 := (cpy (cpy (cpy (cpy (upN (upN (upN (upN (upN (upN (upN (upN (upN I 247 0 (I 169 0)) 247 1 (I 169 1)) 247 2 (I 169 2)) 247 3 (I 169 3)) 247 4 (I 169 4)) 247 5 (I 169 5)) 247 6 (I 169 6)) 247 7 (I 169 7)) 247 8 (I 169 8)) 170 248 0 0 6) 171 249 0 0 6) 172 250 0 0 6) 173 251 0 0 5)) 7 rfl ?_
  refine WP.copy rfl rfl rfl rfl rfl rfl (by omega) (by omega) (by decide) (by decide) ?_
  refine WP.run (pc' := 156) (L' := [.ref 247, .ref 169]) (st' := [.int (nI 5), .int (nI 0), .ref 253, .int (nI 0), .ref 175]) (I1 := (cpy (cpy (cpy (cpy (cpy (upN (upN (upN (upN (upN (upN (upN (upN (upN I 247 0 (I 169 0)) 247 1 (I 169 1)) 247 2 (I 169 2)) 247 3 (I 169 3)) 247 4 (I 169 4)) 247 5 (I 169 5)) 247 6 (I 169 6)) 247 7 (I 169 7)) 247 8 (I 169 8)) 170 248 0 0 6) 171 249 0 0 6) 172 250 0 0 6) 173 251 0 0 5) 174 252 0 0 5)) 7 rfl ?_
  refine WP.copy rfl rfl rfl rfl rfl rfl (by omega) (by omega) (by decide) (by decide) ?_
  refine WP.run (pc' := 170) (L' := [.ref 247, .ref 169]) (st' := [.int (nI 5), .int (nI 0), .ref 254, .int (nI 0), .ref 176]) (I1 := (cpy (cpy (cpy (cpy (cpy (cpy (upN (upN (upN (upN (upN (upN (upN (upN (upN I 247 0 (I 169 0)) 247 1 (I 169 1)) 247 2 (I 169 2)) 247 3 (I 169 3)) 247 4 (I 169 4)) 247 5 (I 169 5)) 247 6 (I 169 6)) 247 7 (I 169 7)) 247 8 (I 169 8)) 170 248 0 0 6) 171 249 0 0 6) 172 250 0 0 6) 173 251 0 0 5) 174 252 0 0 5) 175 253 0 0 5)) 7 rfl ?_
  refine WP.copy rfl rfl rfl rfl rfl rfl (by omega) (by omega) (by decide) (by decide) ?_
  exact WP.ret rfl rfl (⟨rfl, rfl⟩)
set_option maxRecDepth 100000 in
theorem sp_become_247_177 {d : Nat} {I : Pl} (hb : I 177 0 = 0 ∨ I 177 0 = 1) : Ev (d + 1) 2 [.ref 247, .ref 177] (mem I) (none) (mem (becN I 247 177)) := by
  refine Ev.only (EvX.enter rfl rfl rfl ?_)
  refine WP.run (pc' := 5) (L' := [.ref 247, .ref 177]) (st' := [.int (I 177 0), .ref 247]) (I1 := I) 3 rfl ?_
  refine WP.putB rfl rfl rfl rfl hb ?_
  refine WP.run (pc' := 84) (L' := [.ref 247, .ref 177]) (st' := [.int (nI 6), .int (nI 0), .ref 248, .int (nI 0), .ref 178]) (I1 := (upN (upN (upN (upN (upN (upN (upN (upN (upN I 247 0 (I 177 0)) 247 1 (I 177 1)) 247 2 (I 177 2)) 247 3 (I 177 3)) 247 4 (I 177 4)) 247 5 (I 177 5)) 247 6 (I 177 6)) 247 7 (I 177 7)) 247 8 (I 177 8))) 39 rfl ?_
  refine WP.copy rfl rfl rfl rfl rfl rfl (by omega) (by omega) (by decide) (by decide) ?_
  refine WP.run (pc' := 99) (L' := [.ref 247, .ref 177]) (st' := [.int (nI 6), .int (nI 0), .ref 249, .int (nI 0), .ref 179]) (I1 := (cpy (upN (upN (upN (upN (upN (upN (upN (upN (upN I 247 0 (I 177 0)) 247 1 (I 177 1)) 247 2 (I 177 2)) 247 3 (I 177 3)) 247 4 (I 177 4)) 247 5 (I 177 5)) 247 6 (I 177 6)) 247 7 (I 177 7)) 247 8 (I 177 8)) 178 248 0 0 6)) 7 rfl ?_
  refine WP.copy rfl rfl rfl rfl rfl rfl (by omega) (by omega) (by decide) (by decide) ?_
  refine WP.run (pc' := 114) (L' := [.ref 247, .ref 177]) (st' := [.int (nI 6), .int (nI 0), .ref 250, .int (nI 0), .ref 180]) (I1 := (cpy (cpy (upN (upN (upN (upN (upN (upN (upN (upN (upN I 247 0 (I 177 0)) 247 1 (I 177 1)) 247 2 (I 177 2)) 247 3 (I 177 3)) 247 4 (I 177 4)) 247 5 (I 177 5)) 247 6 (I 177 6)) 247 7 (I 177 7)) 247 8 (I 177 8)) 178 248 0 0 6) 179 249 0 0 6)) 7 rfl ?_
  refine WP.copy rfl rfl rfl rfl rfl rfl (by omega) (by omega) (by decide) (by decide) ?_
  refine WP.run (pc' := 128) (L' := [.ref 247, .ref 177]) (st' := [.int (nI 5), .int (nI 0), .ref 251, .int (nI 0), .ref 181]) (I1 := (cpy (cpy (cpy (upN (upN (upN (upN (upN (upN (upN (upN (upN I 247 0 (I 177 0)) 247 1 (I 177 1)) 247 2 (I 177 2)) 247 3 (I 177 3)) 247 4 (I 177 4)) 247 5 (I 177 5)) 247 6 (I 177 6)) 247 7 (I 177 7)) 247 8 (I 177 8)) 178 248 0 0 6) 179 249 0 0 6) 180 250 0 0 6)) 7 rfl ?_
  refine WP.copy rfl rfl rfl rfl rfl rfl (by omega) (by omega) (by decide) (by decide) ?_
  refine WP.run (pc' := 142) (L' := [.ref 247, .ref 177]) (st' := [.int (nI 5), .int (nI 0), .ref 252, .int (nI 0), .ref 182]) (I1 := (cpy (cpy (cpy (cpy (upN (upN (upN (upN (upN (upN (upN (upN (upN I 247 0 (I 177 0)) 247 1 (I 177 1)) 247 2 (I 177 2)) 247 3 (I 177 3)) 247 4 (I 177 4)) 247 5 (I 177 5)) 247 6 (I 177 6)) 247 7 (I 177 7)) 247 8 (I 177 8)) 178 248 0 0 6) 179 249 0 0 6) 180 250 0 0 6) 181 251 0 0 5)) 7 rfl ?_
  refine WP.copy rfl rfl rfl rfl rfl rfl (by omega) (by omega) (by decide) (by decide) ?_
  refine WP.run (pc' := 156) (L' := [.ref 247, .ref 177]) (st' := [.int (nI 5), .int (nI 0), .ref 253, .int (nI 0), .ref 183]) (I1 := (cpy (cpy (cpy (cpy (cpy (upN (upN (upN (upN (upN (upN (upN (upN (upN I 247 0 (I 177 0)) 247 1 (I 177 1)) 247 2 (I 177 2)) 247 3 (I 177 3)) 247 4 (I 177 4)) 247 5 (I 177 5)) 247 6 (I 177 6)) 247 7 (I 177 7)) 247 8 (I 177 8)) 178 248 0 0 6) 179 249 0 0 6) 180 250 0 0 6) 181 251 0 0 5) 182 252 0 0 5)) 7 rfl ?_
  refine WP.copy rfl rfl rfl rfl rfl rfl (by omega) (by omega) (by decide) (by decide) ?_
  refine WP.run (pc' := 170) (L' := [.ref 247, .ref 177]) (st' := [.int (nI 5), .int (nI 0), .ref 254, .int (nI 0), .ref 184]) (I1 := (cpy (cpy (cpy (cpy (cpy (cpy (upN (upN (upN (upN (upN (upN (upN (upN (upN I 247 0 (I 177 0)) 247 1 (I 177 1)) 247 2 (I 177 2)) 247 3 (I 177 3)) 247 4 (I 177 4)) 247 5 (I 177 5)) 247 6 (I 177 6)) 247 7 (I 177 7)) 247 8 (I 177 8)) 178 248 0 0 6) 179 249 0 0 6) 180 250 0 0 6) 181 251 0 0 5) 182 252 0 0 5) 183 253 0 0 5)) 7 rfl ?_
  refine WP.copy rfl rfl rfl rfl rfl rfl (by omega) (by omega) (by decide) (by decide) ?_
  exact WP.ret rfl rfl (⟨rfl, rfl⟩)
set_option maxRecDepth 100000 in
theorem sp_become_247_185 {d : Nat} {I : Pl} (hb : I 185 0 = 0 ∨ I 185 0 = 1) : Ev (d + 1) 2 [.ref 247, .ref 185] (mem I) (none) (mem (becN I 247 185)) := by
  refine Ev.only (EvX.enter rfl rfl rfl ?_)
  refine WP.run (pc' := 5) (L' := [.ref 247, .ref 185]) (st' := [.int (I 185 0), .ref 247]) (I1 := I) 3 rfl ?_
  refine WP.putB rfl rfl rfl rfl hb ?_
  refine WP.run (pc' := 84) (L' := [.ref 247, .ref 185]) (st' := [.int (nI 6), .int (nI 0), .ref 248, .int (nI 0), .ref 186]) (I1 := (upN (upN (upN (upN (upN (upN (upN (upN (upN I 247 0 (I 185 0)) 247 1 (I 185 1)) 247 2 (I 185 2)) 247 3 (I 185 3)) 247 4 (I 185 4)) 247 5 (I 185 5)) 247 6 (I 185 6)) 247 7 (I 185 7)) 247 8 (I 185 8))) 39 rfl ?_
  refine WP.copy rfl rfl rfl rfl rfl rfl (by omega) (by omega) (by decide) (by decide) ?_
  refine WP.run (pc' := 99) (L' := [.ref 247, .ref 185]) (st' := [.int (nI 6), .int (nI 0), .ref 249, .int (nI 0), .ref 187]) (I1 := (cpy (upN (upN (upN (upN (upN (upN (upN (upN (upN I 247 0 (I 185 0)) 247 1 (I 185 1)) 247 2 (I 185 2)) 247 3 (I 185 3)) 247 4 (I 185 4)) 247 5 (I 185 5)) 247 6 (I 185 6)) 247 7 (I 185 7)) 247 8 (I 185 8)) 186 248 0 0 6)) 7 rfl ?_
  refine WP.copy rfl rfl rfl rfl rfl rfl (by omega) (by omega) (by decide) (by decide) ?_
  refine WP.run (pc' := 114) (L' := [.ref 247, .ref 185]) (st' := [.int (nI 6), .int (nI 0), .ref 250, .int (nI 0), .ref 188]) (I1 := (cpy (cpy (upN (upN (upN (upN (upN (upN (upN (upN (upN I 247 0 (I 185 0)) 247 1 (I 185 1)) 247 2 (I 185 2)) 247 3 (I 185 3)) 247 4 (I 185 4)) 247 5 (I 185 5)) 247 6 (I 185 6)) 247 7 (I 185 7)) 247 8 (I 185 8)) 186 248 0 0 6) 187 249 0 0 6)) 7 rfl ?_
  refine WP.copy rfl rfl rfl rfl rfl rfl (by omega) (by omega) (by decide) (by decide) ?_
  refine WP.run (pc' := 128) (L' := [.ref 247, .ref 185]) (st' := [.int (nI 5), .int (nI 0), .ref 251, .int (nI 0), .ref 189]) (I1 := (cpy (cpy (cpy (upN (upN (upN (upN (upN (upN (upN (upN (upN I 247 0 (I 185 0)) 247 1 (I 185 1)) 247 2 (I 185 2)) 247 3 (I 185 3)) 247 4 (I 185 4)) 247 5 (I 185 5)) 247 6 (I 185 6)) 247 7 (I 185 7)) 247 8 (I 185 8)) 186 248 0 0 6) 187 249 0 0 6) 188 250 0 0 6)) 7 rfl ?_
  refine WP.copy rfl rfl rfl rfl rfl rfl (by omega) (by omega) (by decide) (by decide) ?_
  refine WP.run (pc' := 142) (L' := [.ref 247, .ref 185]) (st' := [.int (nI 5), .int (nI 0), .ref 252, .int (nI 0), .ref 190]) (I1 := (cpy (cpy (cpy (cpy (upN (upN (upN (upN (upN (upN (upN (upN (upN I 247 0 (I 185 0)) 247 1 (I 185 1)) 247 2 (I 185 2)) 247 3 (I 185 3)) 247 4 (I 185 4)) 247 5 (I 185 5)) 247 6 (I 185 6)) 247 7 (I 185 7)) 247 8 (I 185 8)) 186 248 0 0 6) 187 249 0 0 6) 188 250 0 0 6) 189 251 0 0 5)) 7 rfl ?_
  refine WP.copy rfl rfl rfl rfl rfl rfl (by omega) (by omega) (by decide) (by decide) ?_
  refine WP.run (pc' := 156) (L' := [.ref 247, .ref 185]) (st' := [.int (nI 5), .int (nI 0), .ref 253, .int (nI 0), .ref 191]) (I1 := (cpy (cpy (cpy (cpy (cpy (upN (upN (upN (upN (upN (upN (upN (upN (upN I 247 0 (I 185 0)) 247 1 (I 185 1)) 247 2 (I 185 2)) 247 3 (I 185 3)) 247 4 (I 185 4)) 247 5 (I 185 5)) 247 6 (I 185 6)) 247 7 (I 185 7)) 247 8 (I 185 8)) 186 248 0 0 6) 187 249 0 0 6) 188 250 0 0 6) 189 251 0 0 5) 190 252 0 0 5)) 7 rfl ?_
  refine WP.copy rfl rfl rfl rfl rfl rfl (by omega) (by omega) (by decide) (by decide) ?_
  refine WP.run (pc' := 170) (L' := [.ref 247, .ref 185]) (st' := [.int (nI 5), .int (nI 0), .ref 254, .int (nI 0), .ref 192]) (I1 := (cpy (cpy (cpy (cpy (cpy (cpy (upN (upN (upN (upN (upN (upN (upN (upN (upN I 247 0 (I 185 0)) 247 1 (I 185 1)) 247 2 (I 185 2)) 247 3 (I 185 3)) 247 4 (I 185 4)) 247 5 (I 185 5)) 247 6 (I 185 6)) 247 7 (I 185 7)) 247 8 (I 185 8)) 186 248 0 0 6) 187 249 0 0 6) 188 250 0 0 6) 189 251 0 0 5) 190 252 0 0 5) 191 253 0 0 5)) 7 rfl ?_
  refine WP.copy rfl rfl rfl rfl rfl rfl (by omega) (by omega) (by decide) (by decide) ?_
  exact WP.ret rfl rfl (⟨rfl, rfl⟩)
set_option maxRecDepth 100000 in
theorem sp_become_247_193 {d : Nat} {I : Pl} (hb : I 193 0 = 0 ∨ I 193 0 = 1) : Ev (d + 1) 2 [.ref 247, .ref 193] (mem I) (none) (mem (becN I 247 193)) := by
  refine Ev.only (EvX.enter rfl rfl rfl ?_)
  refine WP.run (pc' := 5) (L' := [.ref 247, .ref 193]) (st' := [.int (I 193 0), .ref 247]) (I1 := I) 3 rfl ?_
  refine WP.putB rfl rfl rfl rfl hb ?_
  refine WP.run (pc' := 84) (L' := [.ref 247, .ref 193]) (st' := [.int (nI 6), .int (nI 0), .ref 248, .int (nI 0), .ref 194]) (I1 := (upN (upN (upN (upN (upN (upN (upN (upN (upN I 247 0 (I 193 0)) 247 1 (I 193 1)) 247 2 (I 193 2)) 247 3 (I 193 3)) 247 4 (I 193 4)) 247 5 (I 193 5)) 247 6 (I 193 6)) 247 7 (I 193 7)) 247 8 (I 193 8))) 39 rfl ?_
  refine WP.copy rfl rfl rfl rfl rfl rfl (by omega) (by omega) (by decide) (by decide) ?_
  refine WP.run (pc' := 99) (L' := [.ref 247, .ref 193]) (st' := [.int (nI 6), .int (nI 0), .ref 249, .int (nI 0), .ref 195]) (I1 := (cpy (upN (upN (upN (upN (upN (upN (upN (upN (upN I 247 0 (I 193 0)) 247 1 (I 193 1)) 247 2 (I 193 2)) 247 3 (I 193 3)) 247 4 (I 193 4)) 247 5 (I 193 5)) 247 6 (I 193 6)) 247 7 (I 193 7)) 247 8 (I 193 8)) 194 248 0 0 6)) 7 rfl ?_
  refine WP.copy rfl rfl rfl rfl rfl rfl (by omega) (by omega) (by decide) (by decide) ?_
  refine WP.run (pc' := 114) (L' := [.ref 247, .ref 193]) (st' := [.int (nI 6), .int (nI 0), .ref 250, .int (nI 0), .ref 196]) (I1 := (cpy (cpy (upN (upN (upN (upN (upN (upN (upN (upN (upN I 247 0 (I 193 0)) 247 1 (I 193 1)) 247 2 (I 193 2)) 247 3 (I 193 3)) 247 4 (I 193 4)) 247 5 (I 193 5)) 247 6 (I 193 6)) 247 7 (I 193 7)) 247 8 (I 193 8)) 194 248 0 0 6) 195 249 0 0 6)) 7 rfl ?_
  refine WP.copy rfl rfl rfl rfl rfl rfl (by omega) (by omega) (by decide) (by decide) ?_
  refine WP.run (pc' := 128) (L' := [.ref 247, .ref 193]) (st' := [.int (nI 5), .int (nI 0), .ref 251, .int (nI 0), .ref 197]) (I1 := (cpy (cpy (cpy (upN (upN (upN (upN (upN (upN (upN (upN (upN I 247 0 (I 193 0)) 247 1 (I 193 1)) 247 2 (I 193 2)) 247 3 (I 193 3)) 247 4 (I 193 4)) 247 5 (I 193 5)) 247 6 (I 193 6)) 247 7 (I 193 7)) 247 8 (I 193 8)) 194 248 0 0 6) 195 249 0 0 6) 196 250 0 0 6)) 7 rfl ?_
  refine WP.copy rfl rfl rfl rfl rfl rfl (by omega) (by omega) (by decide) (by decide) ?_
  refine WP.run (pc' := 142) (L' := [.ref 247, .ref 193]) (st' := [.int (nI 5), .int (nI 0), .ref 252, .int (nI 0), .ref 198]) (I1 := (cpy (cpy (cpy (cpy (upN (upN (upN (upN (upN (upN (upN (upN (upN I 247 0 (I 193 0)) 247 1 (I 193 1)) 247 2 (I 193 2)) 247 3 (I 193 3)) 247 4 (I 193 4)) 247 5 (I 193 5)) 247 6 (I 193 6)) 247 7 (I 193 7)) 247 8 (I 193 8)) 194 248 0 0 6) 195 249 0 0 6) 196 250 0 0 6) 197 251 0 0 5)) 7 rfl ?_
  refine WP.copy rfl rfl rfl rfl rfl rfl (by omega) (by omega) (by decide) (by decide) ?_
  refine WP.run (pc' := 156) (L' := [.ref 247, .ref 193]) (st' := [.int (nI 5), .int (nI 0), .ref 253, .int (nI 0), .ref 199]) (I1 := (cpy (cpy (cpy (cpy (cpy (upN (upN (upN (upN (upN (upN (upN (upN (upN I 247 0 (I 193 0)) 247 1 (I 193 1)) 247 2 (I 193 2)) 247 3 (I 193 3)) 247 4 (I 193 4)) 247 5 (I 193 5)) 247 6 (I 193 6)) 247 7 (I 193 7)) 247 8 (I 193 8)) 194 248 0 0 6) 195 249 0 0 6) 196 250 0 0 6) 197 251 0 0 5) 198 252 0 0 5)) 7 rfl ?_
  refine WP.copy rfl rfl rfl rfl rfl rfl (by omega) (by omega) (by decide) (by decide) ?_
  refine WP.run (pc' := 170) (L' := [.ref 247, .ref 193]) (st' := [.int (nI 5), .int (nI 0), .ref 254, .int (nI 0), .ref 200]) (I1 := (cpy (cpy (cpy (cpy (cpy (cpy (upN (upN (upN (upN (upN (upN (upN (upN (upN I 247 0 (I 193 0)) 247 1 (I 193 1)) 247 2 (I 193 2)) 247 3 (I 193 3)) 247 4 (I 193 4)) 247 5 (I 193 5)) 247 6 (I 193 6)) 247 7 (I 193 7)) 247 8 (I 193 8)) 194 248 0 0 6) 195 249 0 0 6) 196 250 0 0 6) 197 251 0 0 5) 198 252 0 0 5) 199 253 0 0 5)) 7 rfl ?_
  refine WP.copy rfl rfl rfl rfl rfl rfl (by omega) (by omega) (by decide) (by decide) ?_
  exact WP.ret rfl rfl (⟨rfl, rfl⟩)
set_option maxRecDepth 100000 in
theorem sp_become_247_201 {d : Nat} {I : Pl} (hb : I 201 0 = 0 ∨ I 201 0 = 1) : Ev (d + 1) 2 [.ref 247, .ref 201] (mem I) (none) (mem (becN I 247 201)) := by
  refine Ev.only (EvX.enter rfl rfl rfl ?_)
  refine WP.run (pc' := 5) (L' := [.ref 247, .ref 201]) (st' := [.int (I 201 0), .ref 247]) (I1 := I) 3 rfl ?_
  refine WP.putB rfl rfl rfl rfl hb ?_
  refine WP.run (pc' := 84) (L' := [.ref 247, .ref 201]) (st' := [.int (nI 6), .int (nI 0), .ref 248, .int (nI 0), .ref 202]) (I1 := (upN (upN (upN (upN (upN (upN (upN (upN (upN I 247 0 (I 201 0)) 247 1 (I 201 1)) 247 2 (I 201 2)) 247 3 (I 201 3)) 247 4 (I 201 4)) 247 5 (I 201 5)) 247 6 (I 201 6)) 247 7 (I 201 7)) 247 8 (I 201 8))) 39 rfl ?_
  refine WP.copy rfl rfl rfl rfl rfl rfl (by omega) (by omega) (by decide) (by decide) ?_
  refine WP.run (pc' := 99) (L' := [.ref 247, .ref 201]) (st' := [.int (nI 6), .int (nI 0), .ref 249, .int (nI 0), .ref 203]) (I1 := (cpy (upN (upN (upN (upN (upN (upN (upN (upN (upN I 247 0 (I 201 0)) 247 1 (I 201 1)) 247 2 (I 201 2)) 247 3 (I 201 3)) 247 4 (I 201 4)) 247 5 (I 201 5)) 247 6 (I 201 6)) 247 7 (I 201 7)) 247 8 (I 201 8)) 202 248 0 0 6)) 7 rfl ?_
  refine WP.copy rfl rfl rfl rfl rfl rfl (by omega) (by omega) (by decide) (by decide) ?_
  refine WP.run (pc' := 114) (L' := [.ref 247, .ref 201]) (st' := [.int (nI 6), .int (nI 0), .ref 250, .int (nI 0), .ref 204]) (I1 := (cpy (cpy (upN (upN (upN (upN (upN (upN (upN (upN (upN I 247 0 (I 201 0)) 247 1 (I 201 1)) 247 2 (I 201 2)) 247 3 (I 201 3)) 247 4 (I 201 4)) 247 5 (I 201 5)) 247 6 (I 201 6)) 247 7 (I 201 7)) 247 8 (I 201 8)) 202 248 0 0 6) 203 249 0 0 6)) 7 rfl ?_
  refine WP.copy rfl rfl rfl rfl rfl rfl (by omega) (by omega) (by decide) (by decide) ?_
  refine WP.run (pc' := 128) (L' := [.ref 247, .ref 201]) (st' := [.int (nI 5), .int (nI 0), .ref 251, .int (nI 0), .ref 205]) (I1 := (cpy (cpy (cpy (upN (upN (upN (upN (upN (upN (upN (upN (upN I 247 0 (I 201 0)) 247 1 (I 201 1)) 247 2 (I 201 2)) 247 3 (I 201 3)) 247 4 (I 201 4)) 247 5 (I 201 5)) 247 6 (I 201 6)) 247 7 (I 201 7)) 247 8 (I 201 8)) 202 248 0 0 6) 203 249 0 0 6) 204 250 0 0 6)) 7 rfl ?_
  refine WP.copy rfl rfl rfl rfl rfl rfl (by omega) (by omega) (by decide) (by decide) ?_
  refine WP.run (pc' := 142) (L' := [.ref 247, .ref 201]) (st' := [.int (nI 5), .int (nI 0), .ref 252, .int (nI 0), .ref 206]) (I1 := (cpy (cpy (cpy (cpy (upN (upN (upN (upN (upN (upN (upN (upN (upN I 247 0 (I 201 0)) 247 1 (I 201 1)) 247 2 (I 201 2)) 247 3 (I 201 3)) 247 4 (I 201 4)) 247 5 (I 201 5)) 247 6 (I 201 6)) 247 7 (I 201 7)) 247 8 (I 201 8)) 202 248 0 0 6) 203 249 0 0 6) 204 250 0 0 6) 205 251 0 0 5)) 7 rfl ?_
  refine WP.copy rfl rfl rfl rfl rfl rfl (by omega) (by omega) (by decide) (by decide) ?_
  refine WP.run (pc' := 156) (L' := [.ref 247, .ref 201]) (st' := [.int (nI 5), .int (nI 0), .ref 253, .int (nI 0), .ref 207]) (I1 := (cpy (cpy (cpy (cpy (cpy (upN (upN (upN (upN (upN (upN (upN (upN (upN I 247 0 (I 201 0)) 247 1 (I 201 1)) 247 2 (I 201 2)) 247 3 (I 201 3)) 247 4 (I 201 4)) 247 5 (I 201 5)) 247 6 (I 201 6)) 247 7 (I 201 7)) 247 8 (I 201 8)) 202 248 0 0 6) 203 249 0 0 6) 204 250 0 0 6) 205 251 0 0 5) 206 252 0 0 5)) 7 rfl ?_
  refine WP.copy rfl rfl rfl rfl rfl rfl (by omega) (by omega) (by decide) (by decide) ?_
  refine WP.run (pc' := 170) (L' := [.ref 247, .ref 201]) (st' := [.int (nI 5), .int (nI 0), .ref 254, .int (nI 0), .ref 208]) (I1 := (cpy (cpy (cpy (cpy (cpy (cpy (upN (upN (upN (upN (upN (upN (upN (upN (upN I 247 0 (I 201 0)) 247 1 (I 201 1)) 247 2 (I 201 2)) 247 3 (I 201 3)) 247 4 (I 201 4)) 247 5 (I 201 5)) 247 6 (I 201 6)) 247 7 (I 201 7)) 247 8 (I 201 8)) 202 248 0 0 6) 203 249 0 0 6) 204 250 0 0 6) 205 251 0 0 5) 206 252 0 0 5) 207 253 0 0 5)) 7 rfl ?_
  refine WP.copy rfl rfl rfl rfl rfl rfl (by omega) (by omega) (by decide) (by decide) ?_
  exact WP.ret rfl rfl (⟨rfl, rfl⟩)
set_option maxRecDepth 100000 in
theorem sp_become_247_209 {d : Nat} {I : Pl} (hb : I 209 0 = 0 ∨ I 209 0 = 1) : Ev (d + 1) 2 [.ref 247, .ref 209] (mem I) (none) (mem (becN I 247 209)) := by
  refine Ev.only (EvX.enter rfl rfl rfl ?_)
  refine WP.run (pc' := 5) (L' := [.ref 247, .ref 209]) (st' := [.int (I 209 0), .ref 247]) (I1 := I) 3 rfl ?_
  refine WP.putB rfl rfl rfl rfl hb ?_
  refine WP.run (pc' := 84) (L' := [.ref 247, .ref 209]) (st' := [.int (nI 6), .int (nI 0), .ref 248, .int (nI 0), .ref 210]) (I1 := (upN (upN (upN (upN (upN (upN (upN (upN (upN I 247 0 (I 209 0)) 247 1 (I 209 1)) 247 2 (I 209 2)) 247 3 (I 209 3)) 247 4 (I 209 4)) 247 5 (I 209 5)) 247 6 (I 209 6)) 247 7 (I 209 7)) 247 8 (I 209 8))) 39 rfl ?_
  refine WP.copy rfl rfl rfl rfl rfl rfl (by omega) (by omega) (by decide) (by decide) ?_
  refine WP.run (pc' := 99) (L' := [.ref 247, .ref 209]) (st' := [.int (nI 6), .int (nI 0), .ref 249, .int (nI 0), .ref 211]) (I1 := (cpy (upN (upN (upN (upN (upN (upN (upN (upN (upN I 247 0 (I 209 0)) 247 1 (I 209 1)) 247 2 (I 209 2)) 247 3 (I 209 3)) 247 4 (I 209 4)) 247 5 (I 209 5)) 247 6 (I 209 6)) 247 7 (I 209 7)) 247 8 (I 209 8)) 210 248 0 0 6)) 7 rfl ?_
  refine WP.copy rfl rfl rfl rfl rfl rfl (by omega) (by omega) (by decide) (by decide) ?_
  refine WP.run (pc' := 114) (L' := [.ref 247, .ref 209]) (st' := [.int (nI 6), .int (nI 0), .ref 250, .int (nI 0), .ref 212]) (I1 := (cpy (cpy (upN (upN (upN (upN (upN (upN (upN (upN (upN I 247 0 (I 209 0)) 247 1 (I 209 1)) 247 2 (I 209 2)) 247 3 (I 209 3)) 247 4 (I 209 4)) 247 5 (I 209 5)) 247 6 (I 209 6)) 247 7 (I 209 7)) 247 8 (I 209 8)) 210 248 0 0 6) 211 249 0 0 6)) 7 rfl ?_
  refine WP.copy rfl rfl rfl rfl rfl rfl (by omega) (by omega) (by decide) (by decide) ?_
  refine WP.run (pc' := 128) (L' := [.ref 247, .ref 209]) (st' := [.int (nI 5), .int (nI 0), .ref 251, .int (nI 0), .ref 213]) (I1 := (cpy (cpy (cpy (upN (upN (upN (upN (upN (upN (upN (upN (upN I 247 0 (I 209 0)) 247 1 (I 209 1)) 247 2 (I 209 2)) 247 3 (I 209 3)) 247 4 (I 209 4)) 247 5 (I 209 5)) 247 6 (I 209 6)) 247 7 (I 209 7)) 247 8 (I 209 8)) 210 248 0 0 6) 211 249 0 0 6) 212 250 0 0 6)) 7 rfl ?_
  refine WP.copy rfl rfl rfl rfl rfl rfl (by omega) (by omega) (by decide) (by decide) ?_
  refine WP.run (pc' := 142) (L' := [.ref 247, .ref 209]) (st' := [.int (nI 5), .int (nI 0), .ref 252, .int (nI 0), .ref 214]) (I1 := (cpy (cpy (cpy (cpy (upN (upN (upN (upN (upN (upN (upN (upN (upN I 247 0 (I 209 0)) 247 1 (I 209 1)) 247 2 (I 209 2)) 247 3 (I 209 3)) 247 4 (I 209 4)) 247 5 (I 209 5)) 247 6 (I 209 6)) 247 7 (I 209 7)) 247 8 (I 209 8)) 210 248 0 0 6) 211 249 0 0 6) 212 250 0 0 6) 213 251 0 0 5)) 7 rfl ?_
  refine WP.copy rfl rfl rfl rfl rfl rfl (by omega) (by omega) (by decide) (by decide) ?_
  refine WP.run (pc' := 156) (L' := [.ref 247, .ref 209]) (st' := [.int (nI 5), .int (nI 0), .ref 253, .int (nI 0), .ref 215]) (I1 := (cpy (cpy (cpy (cpy (cpy (upN (upN (upN (upN (upN (upN (upN (upN (upN I 247 0 (I 209 0)) 247 1 (I 209 1)) 247 2 (I 209 2)) 247 3 (I 209 3)) 247 4 (I 209 4)) 247 5 (I 209 5)) 247 6 (I 209 6)) 247 7 (I 209 7)) 247 8 (I 209 8)) 210 248 0 0 6) 211 249 0 0 6) 212 250 0 0 6) 213 251 0 0 5) 214 252 0 0 5)) 7 rfl ?_
  refine WP.copy rfl rfl rfl rfl rfl rfl (by omega) (by omega) (by decide) (by decide) ?_
  refine WP.run (pc' := 170) (L' := [.ref 247, .ref 209]) (st' := [.int (nI 5), .int (nI 0), .ref 254, .int (nI 0), .ref 216]) (I1 := (cpy (cpy (cpy (cpy (cpy (cpy (upN (upN (upN (upN (upN (upN (upN (upN (upN I 247 0 (I 209 0)) 247 1 (I 209 1)) 247 2 (I 209 2)) 247 3 (I 209 3)) 247 4 (I 209 4)) 247 5 (I 209 5)) 247 6 (I 209 6)) 247 7 (I 209 7)) 247 8 (I 209 8)) 210 248 0 0 6) 211 249 0 0 6) 212 250 0 0 6) 213 251 0 0 5) 214 252 0 0 5) 215 253 0 0 5)) 7 rfl ?_
  refine WP.copy rfl rfl rfl rfl rfl rfl (by omega) (by omega) (by decide) (by decide) ?_
  exact WP.ret rfl rfl (⟨rfl, rfl⟩)
set_option maxRecDepth 100000 in
theorem sp_become_247_217 {d : Nat} {I : Pl} (hb : I 217 0 = 0 ∨ I 217 0 = 1) : Ev (d + 1) 2 [.ref 247, .ref 217] (mem I) (none) (mem (becN I 247 217)) := by
  refine Ev.only (EvX.enter rfl rfl rfl ?_)
  refine WP.run (pc' := 5) (L' := [.ref 247, .ref 217]) (st' := [.int (I 217 0), .ref 247]) (I1 := I) 3 rfl ?_
  refine WP.putB rfl rfl rfl rfl hb ?_
  refine WP.run (pc' := 84) (L' := [.ref 247, .ref 217]) (st' := [.int (nI 6), .int (nI 0), .ref 248, .int (nI 0), .ref 218]) (I1 := (upN (upN (upN (upN (upN (upN (upN (upN (upN I 247 0 (I 217 0)) 247 1 (I 217 1)) 247 2 (I 217 2)) 247 3 (I 217 3)) 247 4 (I 217 4)) 247 5 (I 217 5)) 247 6 (I 217 6)) 247 7 (I 217 7)) 247 8 (I 217 8))) 39 rfl ?_
  refine WP.copy rfl rfl rfl rfl rfl rfl (by omega) (by omega) (by decide) (by decide) ?_
  refine WP.run (pc' := 99) (L' := [.ref 247, .ref 217]) (st' := [.int (nI 6), .int (nI 0), .ref 249, .int (nI 0), .ref 219]) (I1 := (cpy (upN (upN (upN (upN (upN (upN (upN (upN (upN I 247 0 (I 217 0)) 247 1 (I 217 1)) 247 2 (I 217 2)) 247 3 (I 217 3)) 247 4 (I 217 4)) 247 5 (I 217 5)) 247 6 (I 217 6)) 247 7 (I 217 7)) 247 8 (I 217 8)) 218 248 0 0 6)) 7 rfl ?_
  refine WP.copy rfl rfl rfl rfl rfl rfl (by omega) (by omega) (by decide) (by decide) ?_
  refine WP.run (pc' := 114) (L' := [.ref 247, .ref 217]) (st' := [.int (nI 6), .int (nI 0), .ref 250, .int (nI 0), .ref 220]) (I1 := (cpy (cpy (upN (upN (upN (upN (upN (upN (upN (upN (upN I 247 0 (I 217 0)) 247 1 (I 217 1)) 247 2 (I 217 2)) 247 3 (I 217 3)) 247 4 (I 217 4)) 247 5 (I 217 5)) 247 6 (I 217 6)) 247 7 (I 217 7)) 247 8 (I 217 8)) 218 248 0 0 6) 219 249 0 0 6)) 7 rfl ?_
  refine WP.copy rfl rfl rfl rfl rfl rfl (by omega) (by omega) (by decide) (by decide) ?_
  refine WP.run (pc' := 128) (L' := [.ref 247, .ref 217]) (st' := [.int (nI 5), .int (nI 0), .ref 251, .int (nI 0), .ref 221]) (I1 := (cpy (cpy (cpy (upN (upN (upN (upN (upN (upN (upN (upN (upN I 247 0 (I 217 0)) 247 1 (I 217 1)) 247 2 (I 217 2)) 247 3 (I 217 3)) 247 4 (I 217 4)) 247 5 (I 217 5)) 247 6 (I 217 6)) 247 7 (I 217 7)) 247 8 (I 217 8)) 218 248 0 0 6) 219 249 0 0 6) 220 250 0 0 6)) 7 rfl ?_
  refine WP.copy rfl rfl rfl rfl rfl rfl (by omega) (by omega) (by decide) (by decide) ?_
  refine WP.run (pc' := 142) (L' := [.ref 247, .ref 217]) (st' := [.int (nI 5), .int (nI 0), .ref 252, .int (nI 0), .ref 222]) (I1 := (cpy (cpy (cpy (cpy (upN (upN (upN (upN (upN (upN (upN (upN (upN I 247 0 (I 217 0)) 247 1 (I 217 1)) 247 2 (I 217 2)) 247 3 (I 217 3)) 247 4 (I 217 4)) 247 5 (I 217 5)) 247 6 (I 217 6)) 247 7 (I 217 7)) 247 8 (I 217 8)) 218 248 0 0 6) 219 249 0 0 6) 220 250 0 0 6) 221 251 0 0 5)) 7 rfl ?_
  refine WP.copy rfl rfl rfl rfl rfl rfl (by omega) (by omega) (by decide) (by decide) ?_
  refine WP.run (pc' := 156) (L' := [.ref 247, .ref 217]) (st' := [.int (nI 5), .int (nI 0), .ref 253, .int (nI 0), .ref 223]) (I1 := (cpy (cpy (cpy (cpy (cpy (upN (upN (upN (upN (upN (upN (upN (upN (upN I 247 0 (I 217 0)) 247 1 (I 217 1)) 247 2 (I 217 2)) 247 3 (I 217 3)) 247 4 (I 217 4)) 247 5 (I 217 5)) 247 6 (I 217 6)) 247 7 (I 217 7)) 247 8 (I 217 8)) 218 248 0 0 6) 219 249 0 0 6) 220 250 0 0 6) 221 251 0 0 5) 222 252 0 0 5)) 7 rfl ?_
  refine WP.copy rfl rfl rfl rfl rfl rfl (by omega) (by omega) (by decide) (by decide) ?_
  refine WP.run (pc' := 170) (L' := [.ref 247, .ref 217]) (st' := [.int (nI 5), .int (nI 0), .ref 254, .int (nI 0), .ref 224]) (I1 := (cpy (cpy (cpy (cpy (cpy (cpy (upN (upN (upN (upN (upN (upN (upN (upN (upN I 247 0 (I 217 0)) 247 1 (I 217 1)) 247 2 (I 217 2)) 247 3 (I 217 3)) 247 4 (I 217 4)) 247 5 (I 217 5)) 247 6 (I 217 6)) 247 7 (I 217 7)) 247 8 (I 217 8)) 218 248 0 0 6) 219 249 0 0 6) 220 250 0 0 6) 221 251 0 0 5) 222 252 0 0 5) 223 253 0 0 5)) 7 rfl ?_
  refine WP.copy rfl rfl rfl rfl rfl rfl (by omega) (by omega) (by decide) (by decide) ?_
  exact WP.ret rfl rfl (⟨rfl, rfl⟩)
set_option maxRecDepth 100000 in
theorem sp_become_255_247 {d : Nat} {I : Pl} (hb : I 247 0 = 0 ∨ I 247 0 = 1) : Ev (d + 1) 2 [.ref 255, .ref 247] (mem I) (none) (mem (becN I 255 247)) := by
  refine Ev.only (EvX.enter rfl rfl rfl ?_)
  refine WP.run (pc' := 5) (L' := [.ref 255, .ref 247]) (st' := [.int (I 247 0), .ref 255]) (I1 := I) 3 rfl ?_
  refine WP.putB rfl rfl rfl rfl hb ?_
  refine WP.run (pc' := 84) (L' := [.ref 255, .ref 247]) (st' := [.int (nI 6), .int (nI 0), .ref 256, .int (nI 0), .ref 248]) (I1 := (upN (upN (upN (upN (upN (upN (upN (upN (upN I 255 0 (I 247 0)) 255 1 (I 247 1)) 255 2 (I 247 2)) 255 3 (I 247 3)) 255 4 (I 247 4)) 255 5 (I 247 5)) 255 6 (I 247 6)) 255 7 (I 247 7)) 255 8 (I 247 8))) 39 rfl ?_
  refine WP.copy rfl rfl rfl rfl rfl rfl (by omega) (by omega) (by decide) (by decide) ?_
  refine WP.run (pc' := 99) (L' := [.ref 255, .ref 247]) (st' := [.int (nI 6), .int (nI 0), .ref 257, .int (nI 0), .ref 249]) (I1 := (cpy (upN (upN (upN (upN (upN (upN (upN (upN (upN I 255 0 (I 247 0)) 255 1 (I 247 1)) 255 2 (I 247 2)) 255 3 (I 247 3)) 255 4 (I 247 4)) 255 5 (I 247 5)) 255 6 (I 247 6)) 255 7 (I 247 7)) 255 8 (I 247 8)) 248 256 0 0 6)) 7 rfl ?_
  refine WP.copy rfl rfl rfl rfl rfl rfl (by omega) (by omega) (by decide) (by decide) ?_
  refine WP.run (pc' := 114) (L' := [.ref 255, .ref 247]) (st' := [.int (nI 6), .int (nI 0), .ref 258, .int (nI 0), .ref 250]) (I1 := (cpy (cpy (upN (upN (upN (upN (upN (upN (upN (upN (upN I 255 0 (I 247 0)) 255 1 (I 247 1)) 255 2 (I 247 2)) 255 3 (I 247 3)) 255 4 (I 247 4)) 255 5 (I 247 5)) 255 6 (I 247 6)) 255 7 (I 247 7)) 255 8 (I 247 8)) 248 256 0 0 6) 249 257 0 0 6)) 7 rfl ?_
  refine WP.copy rfl rfl rfl rfl rfl rfl (by omega) (by omega) (by decide) (by decide) ?_
  refine WP.run (pc' := 128) (L' := [.ref 255, .ref 247]) (st' := [.int (nI 5), .int (nI 0), .ref 259, .int (nI 0), .ref 251]) (I1 := (cpy (cpy (cpy (upN (upN (upN (upN (upN (upN (upN (upN (upN I 255 0 (I 247 0)) 255 1 (I 247 1)) 255 2 (I 247 2)) 255 3 (I 247 3)) 255 4 (I 247 4)) 255 5 (I 247 5)) 255 6 (I 247 6)) 255 7 (I 247 7)) 255 8 (I 247 8)) 248 256 0 0 6) 249 257 0 0 6) 250 258 0 0 6)) 7 rfl ?_
  refine WP.copy rfl rfl rfl rfl rfl rfl (by omega) (by omega) (by decide) (by decide) ?_
  refine WP.run (pc' := 142) (L' := [.ref 255, .ref 247]) (st' := [.int (nI 5), .int (nI 0), .ref 260, .int (nI 0), .ref 252]) (I1 := (cpy (cpy (cpy (cpy (upN (upN (upN (upN (upN (upN (upN (upN (upN I 255 0 (I 247 0)) 255 1 (I 247 1)) 255 2 (I 247 2)) 255 3 (I 247 3)) 255 4 (I 247 4)) 255 5 (I 247 5)) 255 6 (I 247 6)) 255 7 (I 247 7)) 255 8 (I 247 8)) 248 256 0 0 6) 249 257 0 0 6) 250 258 0 0 6) 251 259 0 0 5)) 7 rfl ?_
  refine WP.copy rfl rfl rfl rfl rfl rfl (by omega) (by omega) (by decide) (by decide) ?_
  refine WP.run (pc' := 156) (L' := [.ref 255, .ref 247]) (st' := [.int (nI 5), .int (nI 0), .ref 261, .int (nI 0), .ref 253]) (I1 := (cpy (cpy (cpy (cpy (cpy (upN (upN (upN (upN (upN (upN (upN (upN (upN I 255 0 (I 247 0)) 255 1 (I 247 1)) 255 2 (I 247 2)) 255 3 (I 247 3)) 255 4 (I 247 4)) 255 5 (I 247 5)) 255 6 (I 247 6)) 255 7 (I 247 7)) 255 8 (I 247 8)) 248 256 0 0 6) 249 257 0 0 6) 250 258 0 0 6) 251 259 0 0 5) 252 260 0 0 5)) 7 rfl ?_
  refine WP.copy rfl rfl rfl rfl rfl rfl (by omega) (by omega) (by decide) (by decide) ?_
  refine WP.run (pc' := 170) (L' := [.ref 255, .ref 247]) (st' := [.int (nI 5), .int (nI 0), .ref 262, .int (nI 0), .ref 254]) (I1 := (cpy (cpy (cpy (cpy (cpy (cpy (upN (upN (upN (upN (upN (upN (upN (upN (upN I 255 0 (I 247 0)) 255 1 (I 247 1)) 255 2 (I 247 2)) 255 3 (I 247 3)) 255 4 (I 247 4)) 255 5 (I 247 5)) 255 6 (I 247 6)) 255 7 (I 247 7)) 255 8 (I 247 8)) 248 256 0 0 6) 249 257 0 0 6) 250 258 0 0 6) 251 259 0 0 5) 252 260 0 0 5) 253 261 0 0 5)) 7 rfl ?_
  refine WP.copy rfl rfl rfl rfl rfl rfl (by omega) (by omega) (by decide) (by decide) ?_
  exact WP.ret rfl rfl (⟨rfl, rfl⟩)
set_option maxRecDepth 100000 in
theorem sp_become_263_247 {d : Nat} {I : Pl} (hb : I 247 0 = 0 ∨ I 247 0 = 1) : Ev (d + 1) 2 [.ref 263, .ref 247] (mem I) (none) (mem (becN I 263 247)) := by
  refine Ev.only (EvX.enter rfl rfl rfl ?_)
  refine WP.run (pc' := 5) (L' := [.ref 263, .ref 247]) (st' := [.int (I 247 0), .ref 263]) (I1 := I) 3 rfl ?_
  refine WP.putB rfl rfl rfl rfl hb ?_
  refine WP.run (pc' := 84) (L' := [.ref 263, .ref 247]) (st' := [.int (nI 6), .int (nI 0), .ref 264, .int (nI 0), .ref 248]) (I1 := (upN (upN (upN (upN (upN (upN (upN (upN (upN I 263 0 (I 247 0)) 263 1 (I 247 1)) 263 2 (I 247 2)) 263 3 (I 247 3)) 263 4 (I 247 4)) 263 5 (I 247 5)) 263 6 (I 247 6)) 263 7 (I 247 7)) 263 8 (I 247 8))) 39 rfl ?_
  refine WP.copy rfl rfl rfl rfl rfl rfl (by omega) (by omega) (by decide) (by decide) ?_
  refine WP.run (pc' := 99) (L' := [.ref 263, .ref 247]) (st' := [.int (nI 6), .int (nI 0), .ref 265, .int (nI 0), .ref 249]) (I1 := (cpy (upN (upN (upN (upN (upN (upN (upN (upN (upN I 263 0 (I 247 0)) 263 1 (I 247 1)) 263 2 (I 247 2)) 263 3 (I 247 3)) 263 4 (I 247 4)) 263 5 (I 247 5)) 263 6 (I 247 6)) 263 7 (I 247 7)) 263 8 (I 247 8)) 248 264 0 0 6)) 7 rfl ?_
  refine WP.copy rfl rfl rfl rfl rfl rfl (by omega) (by omega) (by decide) (by decide) ?_
  refine WP.run (pc' := 114) (L' := [.ref 263, .ref 247]) (st' := [.int (nI 6), .int (nI 0), .ref 266, .int (nI 0), .ref 250]) (I1 := (cpy (cpy (upN (upN (upN (upN (upN (upN (upN (upN (upN I 263 0 (I 247 0)) 263 1 (I 247 1)) 263 2 (I 247 2)) 263 3 (I 247 3)) 263 4 (I 247 4)) 263 5 (I 247 5)) 263 6 (I 247 6)) 263 7 (I 247 7)) 263 8 (I 247 8)) 248 264 0 0 6) 249 265 0 0 6)) 7 rfl ?_
  refine WP.copy rfl rfl rfl rfl rfl rfl (by omega) (by omega) (by decide) (by decide) ?_
  refine WP.run (pc' := 128) (L' := [.ref 263, .ref 247]) (st' := [.int (nI 5), .int (nI 0), .ref 267, .int (nI 0), .ref 251]) (I1 := (cpy (cpy (cpy (upN (upN (upN (upN (upN (upN (upN (upN (upN I 263 0 (I 247 0)) 263 1 (I 247 1)) 263 2 (I 247 2)) 263 3 (I 247 3)) 263 4 (I 247 4)) 263 5 (I 247 5)) 263 6 (I 247 6)) 263 7 (I 247 7)) 263 8 (I 247 8)) 248 264 0 0 6) 249 265 0 0 6) 250 266 0 0 6)) 7 rfl ?_
  refine WP.copy rfl rfl rfl rfl rfl rfl (by omega) (by omega) (by decide) (by decide) ?_
  refine WP.run (pc' := 142) (L' := [.ref 263, .ref 247]) (st' := [.int (nI 5), .int (nI 0), .ref 268, .int (nI 0), .ref 252]) (I1 := (cpy (cpy (cpy (cpy (upN (upN (upN (upN (upN (upN (upN (upN (upN I 263 0 (I 247 0)) 263 1 (I 247 1)) 263 2 (I 247 2)) 263 3 (I 247 3)) 263 4 (I 247 4)) 263 5 (I 247 5)) 263 6 (I 247 6)) 263 7 (I 247 7)) 263 8 (I 247 8)) 248 264 0 0 6) 249 265 0 0 6) 250 266 0 0 6) 251 267 0 0 5)) 7 rfl ?_
  refine WP.copy rfl rfl rfl rfl rfl rfl (by omega) (by omega) (by decide) (by decide) ?_
  refine WP.run (pc' := 156) (L' := [.ref 263, .ref 247]) (st' := [.int (nI 5), .int (nI 0), .ref 269, .int (nI 0), .ref 253]) (I1 := (cpy (cpy (cpy (cpy (cpy (upN (upN (upN (upN (upN (upN (upN (upN (upN I 263 0 (I 247 0)) 263 1 (I 247 1)) 263 2 (I 247 2)) 263 3 (I 247 3)) 263 4 (I 247 4)) 263 5 (I 247 5)) 263 6 (I 247 6)) 263 7 (I 247 7)) 263 8 (I 247 8)) 248 264 0 0 6) 249 265 0 0 6) 250 266 0 0 6) 251 267 0 0 5) 252 268 0 0 5)) 7 rfl ?_
  refine WP.copy rfl rfl rfl rfl rfl rfl (by omega) (by omega) (by decide) (by decide) ?_
  refine WP.run (pc' := 170) (L' := [.ref 263, .ref 247]) (st' := [.int (nI 5), .int (nI 0), .ref 270, .int (nI 0), .ref 254]) (I1 := (cpy (cpy (cpy (cpy (cpy (cpy (upN (upN (upN (upN (upN (upN (upN (upN (upN I 263 0 (I 247 0)) 263 1 (I 247 1)) 263 2 (I 247 2)) 263 3 (I 247 3)) 263 4 (I 247 4)) 263 5 (I 247 5)) 263 6 (I 247 6)) 263 7 (I 247 7)) 263 8 (I 247 8)) 248 264 0 0 6) 249 265 0 0 6) 250 266 0 0 6) 251 267 0 0 5) 252 268 0 0 5) 253 269 0 0 5)) 7 rfl ?_
  refine WP.copy rfl rfl rfl rfl rfl rfl (by omega) (by omega) (by decide) (by decide) ?_
  exact WP.ret rfl rfl (⟨rfl, rfl⟩)
set_option maxRecDepth 100000 in
theorem sp_become_247_255 {d : Nat} {I : Pl} (hb : I 255 0 = 0 ∨ I 255 0 = 1) : Ev (d + 1) 2 [.ref 247, .ref 255] (mem I) (none) (mem (becN I 247 255)) := by
  refine Ev.only (EvX.enter rfl rfl rfl ?_)
  refine WP.run (pc' := 5) (L' := [.ref 247, .ref 255]) (st' := [.int (I 255 0), .ref 247]) (I1 := I) 3 rfl ?_
  refine WP.putB rfl rfl rfl rfl hb ?_
  refine WP.run (pc' := 84) (L' := [.ref 247, .ref 255]) (st' := [.int (nI 6), .int (nI 0), .ref 248, .int (nI 0), .ref 256]) (I1 := (upN (upN (upN (upN (upN (upN (upN (upN (upN I 247 0 (I 255 0)) 247 1 (I 255 1)) 247 2 (I 255 2)) 247 3 (I 255 3)) 247 4 (I 255 4)) 247 5 (I 255 5)) 247 6 (I 255 6)) 247 7 (I 255 7)) 247 8 (I 255 8))) 39 rfl ?_
  refine WP.copy rfl rfl rfl rfl rfl rfl (by omega) (by omega) (by decide) (by decide) ?_
  refine WP.run (pc' := 99) (L' := [.ref 247, .ref 255]) (st' := [.int (nI 6), .int (nI 0), .ref 249, .int (nI 0), .ref 257]) (I1 := (cpy (upN (upN (upN (upN (upN (upN (upN (upN (upN I 247 0 (I 255 0)) 247 1 (I 255 1)) 247 2 (I 255 2)) 247 3 (I 255 3)) 247 4 (I 255 4)) 247 5 (I 255 5)) 247 6 (I 255 6)) 247 7 (I 255 7)) 247 8 (I 255 8)) 256 248 0 0 6)) 7 rfl ?_
  refine WP.copy rfl rfl rfl rfl rfl rfl (by omega) (by omega) (by decide) (by decide) ?_
  refine WP.run (pc' := 114) (L' := [.ref 247, .ref 255]) (st' := [.int (nI 6), .int (nI 0), .ref 250, .int (nI 0), .ref 258]) (I1 := (cpy (cpy (upN (upN (upN (upN (upN (upN (upN (upN (upN I 247 0 (I 255 0)) 247 1 (I 255 1)) 247 2 (I 255 2)) 247 3 (I 255 3)) 247 4 (I 255 4)) 247 5 (I 255 5)) 247 6 (I 255 6)) 247 7 (I 255 7)) 247 8 (I 255 8)) 256 248 0 0 6) 257 249 0 0 6)) 7 rfl ?_
  refine WP.copy rfl rfl rfl rfl rfl rfl (by omega) (by omega) (by decide) (by decide) ?_
  refine WP.run (pc' := 128) (L' := [.ref 247, .ref 255]) (st' := [.int (nI 5), .int (nI 0), .ref 251, .int (nI 0), .ref 259]) (I1 := (cpy (cpy (cpy (upN (upN (upN (upN (upN (upN (upN (upN (upN I 247 0 (I 255 0)) 247 1 (I 255 1)) 247 2 (I 255 2)) 247 3 (I 255 3)) 247 4 (I 255 4)) 247 5 (I 255 5)) 247 6 (I 255 6)) 247 7 (I 255 7)) 247 8 (I 255 8)) 256 248 0 0 6) 257 249 0 0 6) 258 250 0 0 6)) 7 rfl ?_
  refine WP.copy rfl rfl rfl rfl rfl rfl (by omega) (by omega) (by decide) (by decide) ?_
  refine WP.run (pc' := 142) (L' := [.ref 247, .ref 255]) (st' := [.int (nI 5), .int (nI 0), .ref 252, .int (nI 0), .ref 260]) (I1 := (cpy (cpy (cpy (cpy (upN (upN (upN (upN (upN (upN (upN (upN (upN I 247 0 (I 255 0)) 247 1 (I 255 1)) 247 2 (I 255 2)) 247 3 (I 255 3)) 247 4 (I 255 4)) 247 5 (I 255 5)) 247 6 (I 255 6)) 247 7 (I 255 7)) 247 8 (I 255 8)) 256 248 0 0 6) 257 249 0 0 6) 258 250 0 0 6) 259 251 0 0 5)) 7 rfl ?_
  refine WP.copy rfl rfl rfl rfl rfl rfl (by omega) (by omega) (by decide) (by decide) ?_
  refine WP.run (pc' := 156) (L' := [.ref 247, .ref 255]) (st' := [.int (nI 5), .int (nI 0), .ref 253, .int (nI 0), .ref 261]) (I1 := (cpy (cpy (cpy (cpy (cpy (upN (upN (upN (upN (upN (upN (upN (upN (upN I 247 0 (I 255 0)) 247 1 (I 255 1)) 247 2 (I 255 2)) 247 3 (I 255 3)) 247 4 (I 255 4)) 247 5 (I 255 5)) 247 6 (I 255 6)) 247 7 (I 255 7)) 247 8 (I 255 8)) 256 248 0 0 6) 257 249 0 0 6) 258 250 0 0 6) 259 251 0 0 5) 260 252 0 0 5)) 7 rfl ?_
  refine WP.copy rfl rfl rfl rfl rfl rfl (by omega) (by omega) (by decide) (by decide) ?_
  refine WP.run (pc' := 170) (L' := [.ref 247, .ref 255]) (st' := [.int (nI 5), .int (nI 0), .ref 254, .int (nI 0), .ref 262]) (I1 := (cpy (cpy (cpy (cpy (cpy (cpy (upN (upN (upN (upN (upN (upN (upN (upN (upN I 247 0 (I 255 0)) 247 1 (I 255 1)) 247 2 (I 255 2)) 247 3 (I 255 3)) 247 4 (I 255 4)) 247 5 (I 255 5)) 247 6 (I 255 6)) 247 7 (I 255 7)) 247 8 (I 255 8)) 256 248 0 0 6) 257 249 0 0 6) 258 250 0 0 6) 259 251 0 0 5) 260 252 0 0 5) 261 253 0 0 5)) 7 rfl ?_
  refine WP.copy rfl rfl rfl rfl rfl rfl (by omega) (by omega) (by decide) (by decide) ?_
  exact WP.ret rfl rfl (⟨rfl, rfl⟩)
set_option maxRecDepth 100000 in
theorem sp_become_247_263 {d : Nat} {I : Pl} (hb : I 263 0 = 0 ∨ I 263 0 = 1) : Ev (d + 1) 2 [.ref 247, .ref 263] (mem I) (none) (mem (becN I 247 263)) := by
  refine Ev.only (EvX.enter rfl rfl rfl ?_)
  refine WP.run (pc' := 5) (L' := [.ref 247, .ref 263]) (st' := [.int (I 263 0), .ref 247]) (I1 := I) 3 rfl ?_
  refine WP.putB rfl rfl rfl rfl hb ?_
  refine WP.run (pc' := 84) (L' := [.ref 247, .ref 263]) (st' := [.int (nI 6), .int (nI 0), .ref 248, .int (nI 0), .ref 264]) (I1 := (upN (upN (upN (upN (upN (upN (upN (upN (upN I 247 0 (I 263 0)) 247 1 (I 263 1)) 247 2 (I 263 2)) 247 3 (I 263 3)) 247 4 (I 263 4)) 247 5 (I 263 5)) 247 6 (I 263 6)) 247 7 (I 263 7)) 247 8 (I 263 8))) 39 rfl ?_
  refine WP.copy rfl rfl rfl rfl rfl rfl (by omega) (by omega) (by decide) (by decide) ?_
  refine WP.run (pc' := 99) (L' := [.ref 247, .ref 263]) (st' := [.int (nI 6), .int (nI 0), .ref 249, .int (nI 0), .ref 265]) (I1 := (cpy (upN (upN (upN (upN (upN (upN (upN (upN (upN I 247 0 (I 263 0)) 247 1 (I 263 1)) 247 2 (I 263 2)) 247 3 (I 263 3)) 247 4 (I 263 4)) 247 5 (I 263 5)) 247 6 (I 263 6)) 247 7 (I 263 7)) 247 8 (I 263 8)) 264 248 0 0 6)) 7 rfl ?_
  refine WP.copy rfl rfl rfl rfl rfl rfl (by omega) (by omega) (by decide) (by decide) ?_
  refine WP.run (pc' := 114) (L' := [.ref 247, .ref 263]) (st' := [.int (nI 6), .int (nI 0), .ref 250, .int (nI 0), .ref 266]) (I1 := (cpy (cpy (upN (upN (upN (upN (upN (upN (upN (upN (upN I 247 0 (I 263 0)) 247 1 (I 263 1)) 247 2 (I 263 2)) 247 3 (I 263 3)) 247 4 (I 263 4)) 247 5 (I 263 5)) 247 6 (I 263 6)) 247 7 (I 263 7)) 247 8 (I 263 8)) 264 248 0 0 6) 265 249 0 0 6)) 7 rfl ?_
  refine WP.copy rfl rfl rfl rfl rfl rfl (by omega) (by omega) (by decide) (by decide) ?_
  refine WP.run (pc' := 128) (L' := [.ref 247, .ref 263]) (st' := [.int (nI 5), .int (nI 0), .ref 251, .int (nI 0), .ref 267]) (I1 := (cpy (cpy (cpy (upN (upN (upN (upN (upN (upN (upN (upN (upN I 247 0 (I 263 0)) 247 1 (I 263 1)) 247 2 (I 263 2)) 247 3 (I 263 3)) 247 4 (I 263 4)) 247 5 (I 263 5)) 247 6 (I 263 6)) 247 7 (I 263 7)) 247 8 (I 263 8)) 264 248 0 0 6) 265 249 0 0 6) 266 250 0 0 6)) 7 rfl ?_
  refine WP.copy rfl rfl rfl rfl rfl rfl (by omega) (by omega) (by decide) (by decide) ?_
  refine WP.run (pc' := 142) (L' := [.ref 247, .ref 263]) (st' := [.int (nI 5), .int (nI 0), .ref 252, .int (nI 0), .ref 268]) (I1 := (cpy (cpy (cpy (cpy (upN (upN (upN (upN (upN (upN (upN (upN (upN I 247 0 (I 263 0)) 247 1 (I 263 1)) 247 2 (I 263 2)) 247 3 (I 263 3)) 247 4 (I 263 4)) 247 5 (I 263 5)) 247 6 (I 263 6)) 247 7 (I 263 7)) 247 8 (I 263 8)) 264 248 0 0 6) 265 249 0 0 6) 266 250 0 0 6) 267 251 0 0 5)) 7 rfl ?_
  refine WP.copy rfl rfl rfl rfl rfl rfl (by omega) (by omega) (by decide) (by decide) ?_
  refine WP.run (pc' := 156) (L' := [.ref 247, .ref 263]) (st' := [.int (nI 5), .int (nI 0), .ref 253, .int (nI 0), .ref 269]) (I1 := (cpy (cpy (cpy (cpy (cpy (upN (upN (upN (upN (upN (upN (upN (upN (upN I 247 0 (I 263 0)) 247 1 (I 263 1)) 247 2 (I 263 2)) 247 3 (I 263 3)) 247 4 (I 263 4)) 247 5 (I 263 5)) 247 6 (I 263 6)) 247 7 (I 263 7)) 247 8 (I 263 8)) 264 248 0 0 6) 265 249 0 0 6) 266 250 0 0 6) 267 251 0 0 5) 268 252 0 0 5)) 7 rfl ?_
  refine WP.copy rfl rfl rfl rfl rfl rfl (by omega) (by omega) (by decide) (by decide) ?_
  refine WP.run (pc' := 170) (L' := [.ref 247, .ref 263]) (st' := [.int (nI 5), .int (nI 0), .ref 254, .int (nI 0), .ref 270]) (I1 := (cpy (cpy (cpy (cpy (cpy (cpy (upN (upN (upN (upN (upN (upN (upN (upN (upN I 247 0 (I 263 0)) 247 1 (I 263 1)) 247 2 (I 263 2)) 247 3 (I 263 3)) 247 4 (I 263 4)) 247 5 (I 263 5)) 247 6 (I 263 6)) 247 7 (I 263 7)) 247 8 (I 263 8)) 264 248 0 0 6) 265 249 0 0 6) 266 250 0 0 6) 267 251 0 0 5) 268 252 0 0 5) 269 253 0 0 5)) 7 rfl ?_
  refine WP.copy rfl rfl rfl rfl rfl rfl (by omega) (by omega) (by decide) (by decide) ?_
  exact WP.ret rfl rfl (⟨rfl, rfl⟩)
