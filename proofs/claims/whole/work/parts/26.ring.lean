/-! the ring of acts -/
theorem RR32 : ∀ j, j < 24 → RR 32 j = some (33 + 8 * j) := by decide +kernel
theorem sp_bec_to {d : Nat} {I : Pl} : ∀ {j : Nat}, j < 24 → (I 247 0 = 0 ∨ I 247 0 = 1) → Ev (d + 1) 2 [.ref (33 + 8 * j), .ref 247] (mem I) none (mem (becN I (33 + 8 * j) 247))
  | 0, _, hb => sp_become_33_247 hb
  | 1, _, hb => sp_become_41_247 hb
  | 2, _, hb => sp_become_49_247 hb
  | 3, _, hb => sp_become_57_247 hb
  | 4, _, hb => sp_become_65_247 hb
  | 5, _, hb => sp_become_73_247 hb
  | 6, _, hb => sp_become_81_247 hb
  | 7, _, hb => sp_become_89_247 hb
  | 8, _, hb => sp_become_97_247 hb
  | 9, _, hb => sp_become_105_247 hb
  | 10, _, hb => sp_become_113_247 hb
  | 11, _, hb => sp_become_121_247 hb
  | 12, _, hb => sp_become_129_247 hb
  | 13, _, hb => sp_become_137_247 hb
  | 14, _, hb => sp_become_145_247 hb
  | 15, _, hb => sp_become_153_247 hb
  | 16, _, hb => sp_become_161_247 hb
  | 17, _, hb => sp_become_169_247 hb
  | 18, _, hb => sp_become_177_247 hb
  | 19, _, hb => sp_become_185_247 hb
  | 20, _, hb => sp_become_193_247 hb
  | 21, _, hb => sp_become_201_247 hb
  | 22, _, hb => sp_become_209_247 hb
  | 23, _, hb => sp_become_217_247 hb
  | j + 24, h, _ => absurd h (by omega)
theorem sp_bec_of {d : Nat} {I : Pl} : ∀ {j : Nat}, j < 24 → (I (33 + 8 * j) 0 = 0 ∨ I (33 + 8 * j) 0 = 1) → Ev (d + 1) 2 [.ref 247, .ref (33 + 8 * j)] (mem I) none (mem (becN I 247 (33 + 8 * j)))
  | 0, _, hb => sp_become_247_33 hb
  | 1, _, hb => sp_become_247_41 hb
  | 2, _, hb => sp_become_247_49 hb
  | 3, _, hb => sp_become_247_57 hb
  | 4, _, hb => sp_become_247_65 hb
  | 5, _, hb => sp_become_247_73 hb
  | 6, _, hb => sp_become_247_81 hb
  | 7, _, hb => sp_become_247_89 hb
  | 8, _, hb => sp_become_247_97 hb
  | 9, _, hb => sp_become_247_105 hb
  | 10, _, hb => sp_become_247_113 hb
  | 11, _, hb => sp_become_247_121 hb
  | 12, _, hb => sp_become_247_129 hb
  | 13, _, hb => sp_become_247_137 hb
  | 14, _, hb => sp_become_247_145 hb
  | 15, _, hb => sp_become_247_153 hb
  | 16, _, hb => sp_become_247_161 hb
  | 17, _, hb => sp_become_247_169 hb
  | 18, _, hb => sp_become_247_177 hb
  | 19, _, hb => sp_become_247_185 hb
  | 20, _, hb => sp_become_247_193 hb
  | 21, _, hb => sp_become_247_201 hb
  | 22, _, hb => sp_become_247_209 hb
  | 23, _, hb => sp_become_247_217 hb
  | j + 24, h, _ => absurd h (by omega)
theorem cal_to : ∀ {j : Nat}, j < 24 → cal NN 0 (.invokevirtual 23) [.ref 247, .ref (33 + 8 * j)] = some (2, [.ref (33 + 8 * j), .ref 247], [])
  | 0, _ => rfl
  | 1, _ => rfl
  | 2, _ => rfl
  | 3, _ => rfl
  | 4, _ => rfl
  | 5, _ => rfl
  | 6, _ => rfl
  | 7, _ => rfl
  | 8, _ => rfl
  | 9, _ => rfl
  | 10, _ => rfl
  | 11, _ => rfl
  | 12, _ => rfl
  | 13, _ => rfl
  | 14, _ => rfl
  | 15, _ => rfl
  | 16, _ => rfl
  | 17, _ => rfl
  | 18, _ => rfl
  | 19, _ => rfl
  | 20, _ => rfl
  | 21, _ => rfl
  | 22, _ => rfl
  | 23, _ => rfl
  | j + 24, h => absurd h (by omega)
set_option maxRecDepth 100000 in
theorem sp_keep {d : Nat} {I : Pl} {o m : Nat} (ho : I 31 1 = nI o) (hm : I 31 2 = nI m) (ho1 : o < 24) (hm1 : m ≤ 24) (hb : I 247 0 = 0 ∨ I 247 0 = 1) : Ev (d + 2) 3 [.ref 31, .ref 247] (mem I) (none) (mem (if m < 24 then upN (becN I (33 + 8 * ((o + m) % 24)) 247) 31 2 (nI (m + 1)) else upN (becN I (33 + 8 * ((o + m) % 24)) 247) 31 1 (nI ((o + 1) % 24)))) := by
  refine Ev.only (EvX.enter rfl rfl rfl ?_)
  refine WP.run (pc' := 8) (L' := [.ref 31, .ref 247]) (st' := [.int (I 31 1), .ref 32]) (I1 := I) 4 rfl ?_
  refine WP.cg (st' := [.int (nI o), .ref 32]) rfl (congrArg (fun z : Int32 => (.int z :: [.ref 32] : List Value)) (ho)) rfl ?_
  refine WP.run (pc' := 12) (L' := [.ref 31, .ref 247]) (st' := [.int (I 31 2), .int (nI o), .ref 32]) (I1 := I) 2 rfl ?_
  refine WP.cg (st' := [.int (nI m), .int (nI o), .ref 32]) rfl (congrArg (fun z : Int32 => (.int z :: [.int (nI o), .ref 32] : List Value)) (hm)) rfl ?_
  refine WP.run (pc' := 13) (L' := [.ref 31, .ref 247]) (st' := [.int ((nI o) + (nI m)), .ref 32]) (I1 := I) 1 rfl ?_
  refine WP.cg (st' := [.int (nI (o + m)), .ref 32]) rfl (congrArg (fun z : Int32 => (.int z :: [.ref 32] : List Value)) (nI_add o m)) rfl ?_
  refine WP.run (pc' := 15) (L' := [.ref 31, .ref 247]) (st' := [.int (nI 24), .int (nI (o + m)), .ref 32]) (I1 := I) 1 rfl ?_
  refine WP.irem (a := o + m) (b := 24) rfl (by omega) (by omega) (by omega) ?_
  have hdv1 : (o + m) % 24 < 24 := Nat.mod_lt _ (by omega)
  refine WP.aald rfl rfl (by decide) rfl (by omega) (by decide) (RR32 ((o + m) % 24) (by omega)) ?_
  refine WP.run (pc' := 18) (L' := [.ref 31, .ref 247]) (st' := [.ref 247, .ref (33 + 8 * ((o + m) % 24))]) (I1 := I) 1 rfl ?_
  refine WP.callV (rest := []) rfl (cal_to (by omega)) (sp_bec_to (d := d) (j := (o + m) % 24) (by omega) hb) ?_
  refine WP.run (pc' := 25) (L' := [.ref 31, .ref 247]) (st' := [.int ((becN I (33 + 8 * ((o + m) % 24)) 247) 31 2)]) (I1 := (becN I (33 + 8 * ((o + m) % 24)) 247)) 2 rfl ?_
  refine WP.cg (st' := [.int (nI m)]) rfl (congrArg (fun z : Int32 => (.int z :: [] : List Value)) ((becN_fr (by omega)).trans hm)) rfl ?_
  refine WP.run (pc' := if (nI 24) ≤ (nI m) then 43 else 30) (L' := [.ref 31, .ref 247]) (st' := []) (I1 := (becN I (33 + 8 * ((o + m) % 24)) 247)) 2 rfl ?_
  refine WP.br (fun h2 => ?_) (fun h2 => ?_)
  · have h2 : 24 ≤ m := nI_le_ (by omega) (by omega) h2
    refine WP.run (pc' := 48) (L' := [.ref 31, .ref 247]) (st' := [.int ((becN I (33 + 8 * ((o + m) % 24)) 247) 31 1), .ref 31]) (I1 := (becN I (33 + 8 * ((o + m) % 24)) 247)) 3 rfl ?_
    refine WP.cg (st' := [.int (nI o), .ref 31]) rfl (congrArg (fun z : Int32 => (.int z :: [.ref 31] : List Value)) ((becN_fr (by omega)).trans ho)) rfl ?_
    refine WP.run (pc' := 50) (L' := [.ref 31, .ref 247]) (st' := [.int ((nI o) + (nI 1)), .ref 31]) (I1 := (becN I (33 + 8 * ((o + m) % 24)) 247)) 2 rfl ?_
    refine WP.cg (st' := [.int (nI (o + 1)), .ref 31]) rfl (congrArg (fun z : Int32 => (.int z :: [.ref 31] : List Value)) (nI_add o 1)) rfl ?_
    refine WP.run (pc' := 52) (L' := [.ref 31, .ref 247]) (st' := [.int (nI 24), .int (nI (o + 1)), .ref 31]) (I1 := (becN I (33 + 8 * ((o + m) % 24)) 247)) 1 rfl ?_
    refine WP.irem (a := o + 1) (b := 24) rfl (by omega) (by omega) (by omega) ?_
    have hdv3 : (o + 1) % 24 < 24 := Nat.mod_lt _ (by omega)
    refine WP.run (pc' := 56) (L' := [.ref 31, .ref 247]) (st' := []) (I1 := (upN (becN I (33 + 8 * ((o + m) % 24)) 247) 31 1 (nI ((o + 1) % 24)))) 1 rfl ?_
    exact WP.ret rfl rfl (⟨rfl, by first | rw [if_pos (by omega)] | rw [if_neg (by omega)]⟩)
  · have h2 : ¬ 24 ≤ m := fun q => h2 (nI_le_r (by omega) q)
    refine WP.run (pc' := 35) (L' := [.ref 31, .ref 247]) (st' := [.int ((becN I (33 + 8 * ((o + m) % 24)) 247) 31 2), .ref 31]) (I1 := (becN I (33 + 8 * ((o + m) % 24)) 247)) 3 rfl ?_
    refine WP.cg (st' := [.int (nI m), .ref 31]) rfl (congrArg (fun z : Int32 => (.int z :: [.ref 31] : List Value)) ((becN_fr (by omega)).trans hm)) rfl ?_
    refine WP.run (pc' := 37) (L' := [.ref 31, .ref 247]) (st' := [.int ((nI m) + (nI 1)), .ref 31]) (I1 := (becN I (33 + 8 * ((o + m) % 24)) 247)) 2 rfl ?_
    refine WP.cg (st' := [.int (nI (m + 1)), .ref 31]) rfl (congrArg (fun z : Int32 => (.int z :: [.ref 31] : List Value)) (nI_add m 1)) rfl ?_
    refine WP.run (pc' := 56) (L' := [.ref 31, .ref 247]) (st' := []) (I1 := (upN (becN I (33 + 8 * ((o + m) % 24)) 247) 31 2 (nI (m + 1)))) 2 rfl ?_
    exact WP.ret rfl rfl (⟨rfl, by first | rw [if_pos (by omega)] | rw [if_neg (by omega)]⟩)
set_option maxRecDepth 100000 in
theorem sp_takeBack {d : Nat} {I : Pl} {o m : Nat} (ho : I 31 1 = nI o) (hm : I 31 2 = nI m) (ho1 : o < 24) (hm1 : m ≤ 24) (h0 : 0 < m) (hb : I (33 + 8 * ((o + (m - 1)) % 24)) 0 = 0 ∨ I (33 + 8 * ((o + (m - 1)) % 24)) 0 = 1) : Ev (d + 2) 4 [.ref 31, .ref 247] (mem I) (none) (mem (becN (upN I 31 2 (nI (m - 1))) 247 (33 + 8 * ((o + (m - 1)) % 24)))) := by
  refine Ev.only (EvX.enter rfl rfl rfl ?_)
  refine WP.run (pc' := 4) (L' := [.ref 31, .ref 247]) (st' := [.int (I 31 2)]) (I1 := I) 2 rfl ?_
  refine WP.cg (st' := [.int (nI m)]) rfl (congrArg (fun z : Int32 => (.int z :: [] : List Value)) (hm)) rfl ?_
  refine WP.run (pc' := if (nI m) ≤ 0 then 38 else 7) (L' := [.ref 31, .ref 247]) (st' := []) (I1 := I) 1 rfl ?_
  refine WP.brF (fun q => absurd (nI_le_ (b := 0) (by omega) (by omega) q) (by omega)) ?_
  refine WP.run (pc' := 12) (L' := [.ref 31, .ref 247]) (st' := [.int (I 31 2), .ref 31]) (I1 := I) 3 rfl ?_
  refine WP.cg (st' := [.int (nI m), .ref 31]) rfl (congrArg (fun z : Int32 => (.int z :: [.ref 31] : List Value)) (hm)) rfl ?_
  refine WP.run (pc' := 14) (L' := [.ref 31, .ref 247]) (st' := [.int ((nI m) - (nI 1)), .ref 31]) (I1 := I) 2 rfl ?_
  refine WP.cg (st' := [.int (nI (m - 1)), .ref 31]) rfl (congrArg (fun z : Int32 => (.int z :: [.ref 31] : List Value)) (pk_sub (a := m) (b := 1) (by omega))) rfl ?_
  refine WP.run (pc' := 26) (L' := [.ref 31, .ref 247]) (st' := [.int (I 31 1), .ref 32, .ref 247]) (I1 := (upN I 31 2 (nI (m - 1)))) 6 rfl ?_
  refine WP.cg (st' := [.int (nI o), .ref 32, .ref 247]) rfl (congrArg (fun z : Int32 => (.int z :: [.ref 32, .ref 247] : List Value)) (ho)) rfl ?_
  refine WP.run (pc' := 31) (L' := [.ref 31, .ref 247]) (st' := [.int ((nI o) + (nI (m - 1))), .ref 32, .ref 247]) (I1 := (upN I 31 2 (nI (m - 1)))) 3 rfl ?_
  refine WP.cg (st' := [.int (nI (o + (m - 1))), .ref 32, .ref 247]) rfl (congrArg (fun z : Int32 => (.int z :: [.ref 32, .ref 247] : List Value)) (nI_add o (m - 1))) rfl ?_
  refine WP.run (pc' := 33) (L' := [.ref 31, .ref 247]) (st' := [.int (nI 24), .int (nI (o + (m - 1))), .ref 32, .ref 247]) (I1 := (upN I 31 2 (nI (m - 1)))) 1 rfl ?_
  refine WP.irem (a := o + (m - 1)) (b := 24) rfl (by omega) (by omega) (by omega) ?_
  have hdv1 : (o + (m - 1)) % 24 < 24 := Nat.mod_lt _ (by omega)
  refine WP.aald rfl rfl (by decide) rfl (by omega) (by decide) (RR32 ((o + (m - 1)) % 24) (by omega)) ?_
  refine WP.callV (rest := []) rfl rfl (sp_bec_of (d := d) (I := upN I 31 2 (nI (m - 1))) (j := (o + (m - 1)) % 24) (by omega) (by rw [upN_no (by omega)]; exact hb)) ?_
  exact WP.ret rfl rfl (⟨rfl, rfl⟩)
