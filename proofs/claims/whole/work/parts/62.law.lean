/-! the law: a call on both sides, and on -/
abbrev FCL (L : Nat) (xs : Nat → Int32) : FC := (209, 10, some FieldType.boolean, (true, L, xs))
theorem WP.iscr {d : Nat} {fc : FC} {pc : Nat} {L st : List Value} {I : Pl} {Q : Option Value → Pl → Prop} {j len : Nat} {xs : Nat → Int32} (hq : asc (cdT fc.1) pc = some (.iaload, 1)) (hs : fc.2.2.2 = (true, len, xs)) (hj : j < len) (hn : len < 2 ^ 31) (g : WP d fc (pc + 1) L (.int (xs j) :: st) I Q) : WP d fc pc L (.int (nI j) :: .ref 5001 :: st) I Q := by
  obtain ⟨r, I', g, hQ⟩ := g
  refine ⟨r, I', At.stp1 hq ?_ g, hQ⟩
  rw [hs]
  refine Eq.trans (b := if inA (nI j) len then some ((pc + 1, L, .int (xs (nI j).toNatClampNeg) :: st), mem I) else none) rfl ?_
  rw [if_pos (inN hj hn), clN_ (by omega)]
set_option maxRecDepth 100000 in
theorem law_0 {L i : Nat} {xs : Nat → Int32} {I : Pl} {s : St} {Q : Option Value → Pl → Prop} (hL : L ≤ 3072) (hi : i + 6 ≤ L) (h : RIC I s) (hm : RIM I s) (hr : RII s) (g : ∀ K s', RIC K s' → RIM K s' → RII s' → WP 12 (FCL L xs) 1086 [.ref 5001, .ref 0, .ref 271, .int (nI i)] [] K Q) : WP 12 (FCL L xs) 184 [.ref 5001, .ref 0, .ref 271, .int (nI i)] [] I Q := by
  obtain ⟨a, s', h1, h2, h3⟩ := st_row (x := xs (i + 1)) (y := xs (i + 2)) (z := xs (i + 3)) h hr
  refine WP.run (pc' := 189) (L' := [.ref 5001, .ref 0, .ref 271, .int (nI i)]) (st' := [.int ((nI i) + (nI 1)), .ref 5001, .ref 0]) (I1 := I) 5 rfl ?_
  refine WP.cg (st' := [.int (nI (i + 1)), .ref 5001, .ref 0]) rfl (congrArg (fun z : Int32 => ([.int z, .ref 5001, .ref 0] : List Value)) (nI_add i 1)) rfl ?_
  refine WP.iscr rfl rfl (by omega) (by omega) ?_
  refine WP.run (pc' := 194) (L' := [.ref 5001, .ref 0, .ref 271, .int (nI i)]) (st' := [.int ((nI i) + (nI 2)), .ref 5001, .int (xs (i + 1)), .ref 0]) (I1 := I) 4 rfl ?_
  refine WP.cg (st' := [.int (nI (i + 2)), .ref 5001, .int (xs (i + 1)), .ref 0]) rfl (congrArg (fun z : Int32 => ([.int z, .ref 5001, .int (xs (i + 1)), .ref 0] : List Value)) (nI_add i 2)) rfl ?_
  refine WP.iscr rfl rfl (by omega) (by omega) ?_
  refine WP.run (pc' := 199) (L' := [.ref 5001, .ref 0, .ref 271, .int (nI i)]) (st' := [.int ((nI i) + (nI 3)), .ref 5001, .int (xs (i + 2)), .int (xs (i + 1)), .ref 0]) (I1 := I) 4 rfl ?_
  refine WP.cg (st' := [.int (nI (i + 3)), .ref 5001, .int (xs (i + 2)), .int (xs (i + 1)), .ref 0]) rfl (congrArg (fun z : Int32 => ([.int z, .ref 5001, .int (xs (i + 2)), .int (xs (i + 1)), .ref 0] : List Value)) (nI_add i 3)) rfl ?_
  refine WP.iscr rfl rfl (by omega) (by omega) ?_
  refine WP.callX (rest := []) rfl rfl h1 (fun v K hv => ?_)
  obtain ⟨rfl, hC, hO⟩ := hv
  refine WP.run (pc' := 208) (L' := [.ref 5001, .ref 0, .ref 271, .int (nI i)]) (st' := [.int ((nI i) + (nI 1)), .ref 5001, .ref 271, .int a]) (I1 := K) 5 rfl ?_
  refine WP.cg (st' := [.int (nI (i + 1)), .ref 5001, .ref 271, .int a]) rfl (congrArg (fun z : Int32 => ([.int z, .ref 5001, .ref 271, .int a] : List Value)) (nI_add i 1)) rfl ?_
  refine WP.iscr rfl rfl (by omega) (by omega) ?_
  refine WP.run (pc' := 213) (L' := [.ref 5001, .ref 0, .ref 271, .int (nI i)]) (st' := [.int ((nI i) + (nI 2)), .ref 5001, .int (xs (i + 1)), .ref 271, .int a]) (I1 := K) 4 rfl ?_
  refine WP.cg (st' := [.int (nI (i + 2)), .ref 5001, .int (xs (i + 1)), .ref 271, .int a]) rfl (congrArg (fun z : Int32 => ([.int z, .ref 5001, .int (xs (i + 1)), .ref 271, .int a] : List Value)) (nI_add i 2)) rfl ?_
  refine WP.iscr rfl rfl (by omega) (by omega) ?_
  refine WP.run (pc' := 218) (L' := [.ref 5001, .ref 0, .ref 271, .int (nI i)]) (st' := [.int ((nI i) + (nI 3)), .ref 5001, .int (xs (i + 2)), .int (xs (i + 1)), .ref 271, .int a]) (I1 := K) 4 rfl ?_
  refine WP.cg (st' := [.int (nI (i + 3)), .ref 5001, .int (xs (i + 2)), .int (xs (i + 1)), .ref 271, .int a]) rfl (congrArg (fun z : Int32 => ([.int z, .ref 5001, .int (xs (i + 2)), .int (xs (i + 1)), .ref 271, .int a] : List Value)) (nI_add i 3)) rfl ?_
  refine WP.iscr rfl rfl (by omega) (by omega) ?_
  refine WP.callX (rest := [.int a]) rfl rfl (h2 K (hm.cg hr (fun o k q => hO o k (by unfold clP; omega)))) (fun v K2 hv => ?_)
  obtain ⟨rfl, hM, hO2⟩ := hv
  refine WP.run (pc' := if a = a then 1086 else 225) (L' := [.ref 5001, .ref 0, .ref 271, .int (nI i)]) (st' := []) (I1 := K2) 1 rfl ?_
  refine WP.brT rfl ?_
  exact g K2 s' (hC.cg (fun o k q => hO2 o k (by unfold moP; omega))) hM h3
set_option maxRecDepth 100000 in
theorem law_1 {L i : Nat} {xs : Nat → Int32} {I : Pl} {s : St} {Q : Option Value → Pl → Prop} (hL : L ≤ 3072) (hi : i + 6 ≤ L) (h : RIC I s) (hm : RIM I s) (hr : RII s) (g : ∀ K s', RIC K s' → RIM K s' → RII s' → WP 12 (FCL L xs) 1086 [.ref 5001, .ref 0, .ref 271, .int (nI i)] [] K Q) : WP 12 (FCL L xs) 227 [.ref 5001, .ref 0, .ref 271, .int (nI i)] [] I Q := by
  obtain ⟨a, s', h1, h2, h3⟩ := st_set (x := xs (i + 1)) (y := xs (i + 2)) (z := xs (i + 3)) h hr
  refine WP.run (pc' := 232) (L' := [.ref 5001, .ref 0, .ref 271, .int (nI i)]) (st' := [.int ((nI i) + (nI 1)), .ref 5001, .ref 0]) (I1 := I) 5 rfl ?_
  refine WP.cg (st' := [.int (nI (i + 1)), .ref 5001, .ref 0]) rfl (congrArg (fun z : Int32 => ([.int z, .ref 5001, .ref 0] : List Value)) (nI_add i 1)) rfl ?_
  refine WP.iscr rfl rfl (by omega) (by omega) ?_
  refine WP.run (pc' := 237) (L' := [.ref 5001, .ref 0, .ref 271, .int (nI i)]) (st' := [.int ((nI i) + (nI 2)), .ref 5001, .int (xs (i + 1)), .ref 0]) (I1 := I) 4 rfl ?_
  refine WP.cg (st' := [.int (nI (i + 2)), .ref 5001, .int (xs (i + 1)), .ref 0]) rfl (congrArg (fun z : Int32 => ([.int z, .ref 5001, .int (xs (i + 1)), .ref 0] : List Value)) (nI_add i 2)) rfl ?_
  refine WP.iscr rfl rfl (by omega) (by omega) ?_
  refine WP.run (pc' := 242) (L' := [.ref 5001, .ref 0, .ref 271, .int (nI i)]) (st' := [.int ((nI i) + (nI 3)), .ref 5001, .int (xs (i + 2)), .int (xs (i + 1)), .ref 0]) (I1 := I) 4 rfl ?_
  refine WP.cg (st' := [.int (nI (i + 3)), .ref 5001, .int (xs (i + 2)), .int (xs (i + 1)), .ref 0]) rfl (congrArg (fun z : Int32 => ([.int z, .ref 5001, .int (xs (i + 2)), .int (xs (i + 1)), .ref 0] : List Value)) (nI_add i 3)) rfl ?_
  refine WP.iscr rfl rfl (by omega) (by omega) ?_
  refine WP.callX (rest := []) rfl rfl h1 (fun v K hv => ?_)
  obtain ⟨rfl, hC, hO⟩ := hv
  refine WP.run (pc' := 251) (L' := [.ref 5001, .ref 0, .ref 271, .int (nI i)]) (st' := [.int ((nI i) + (nI 1)), .ref 5001, .ref 271, .int a]) (I1 := K) 5 rfl ?_
  refine WP.cg (st' := [.int (nI (i + 1)), .ref 5001, .ref 271, .int a]) rfl (congrArg (fun z : Int32 => ([.int z, .ref 5001, .ref 271, .int a] : List Value)) (nI_add i 1)) rfl ?_
  refine WP.iscr rfl rfl (by omega) (by omega) ?_
  refine WP.run (pc' := 256) (L' := [.ref 5001, .ref 0, .ref 271, .int (nI i)]) (st' := [.int ((nI i) + (nI 2)), .ref 5001, .int (xs (i + 1)), .ref 271, .int a]) (I1 := K) 4 rfl ?_
  refine WP.cg (st' := [.int (nI (i + 2)), .ref 5001, .int (xs (i + 1)), .ref 271, .int a]) rfl (congrArg (fun z : Int32 => ([.int z, .ref 5001, .int (xs (i + 1)), .ref 271, .int a] : List Value)) (nI_add i 2)) rfl ?_
  refine WP.iscr rfl rfl (by omega) (by omega) ?_
  refine WP.run (pc' := 261) (L' := [.ref 5001, .ref 0, .ref 271, .int (nI i)]) (st' := [.int ((nI i) + (nI 3)), .ref 5001, .int (xs (i + 2)), .int (xs (i + 1)), .ref 271, .int a]) (I1 := K) 4 rfl ?_
  refine WP.cg (st' := [.int (nI (i + 3)), .ref 5001, .int (xs (i + 2)), .int (xs (i + 1)), .ref 271, .int a]) rfl (congrArg (fun z : Int32 => ([.int z, .ref 5001, .int (xs (i + 2)), .int (xs (i + 1)), .ref 271, .int a] : List Value)) (nI_add i 3)) rfl ?_
  refine WP.iscr rfl rfl (by omega) (by omega) ?_
  refine WP.callX (rest := [.int a]) rfl rfl (h2 K (hm.cg hr (fun o k q => hO o k (by unfold clP; omega)))) (fun v K2 hv => ?_)
  obtain ⟨rfl, hM, hO2⟩ := hv
  refine WP.run (pc' := if a = a then 1086 else 268) (L' := [.ref 5001, .ref 0, .ref 271, .int (nI i)]) (st' := []) (I1 := K2) 1 rfl ?_
  refine WP.brT rfl ?_
  exact g K2 s' (hC.cg (fun o k q => hO2 o k (by unfold moP; omega))) hM h3
set_option maxRecDepth 100000 in
theorem law_2 {L i : Nat} {xs : Nat → Int32} {I : Pl} {s : St} {Q : Option Value → Pl → Prop} (hL : L ≤ 3072) (hi : i + 6 ≤ L) (h : RIC I s) (hm : RIM I s) (hr : RII s) (g : ∀ K s', RIC K s' → RIM K s' → RII s' → WP 12 (FCL L xs) 1086 [.ref 5001, .ref 0, .ref 271, .int (nI i)] [] K Q) : WP 12 (FCL L xs) 270 [.ref 5001, .ref 0, .ref 271, .int (nI i)] [] I Q := by
  obtain ⟨a, s', h1, h2, h3⟩ := st_copy (x := xs (i + 1)) (y := xs (i + 2)) (z := xs (i + 3)) (u := xs (i + 4)) (w := xs (i + 5)) h hr
  refine WP.run (pc' := 275) (L' := [.ref 5001, .ref 0, .ref 271, .int (nI i)]) (st' := [.int ((nI i) + (nI 1)), .ref 5001, .ref 0]) (I1 := I) 5 rfl ?_
  refine WP.cg (st' := [.int (nI (i + 1)), .ref 5001, .ref 0]) rfl (congrArg (fun z : Int32 => ([.int z, .ref 5001, .ref 0] : List Value)) (nI_add i 1)) rfl ?_
  refine WP.iscr rfl rfl (by omega) (by omega) ?_
  refine WP.run (pc' := 280) (L' := [.ref 5001, .ref 0, .ref 271, .int (nI i)]) (st' := [.int ((nI i) + (nI 2)), .ref 5001, .int (xs (i + 1)), .ref 0]) (I1 := I) 4 rfl ?_
  refine WP.cg (st' := [.int (nI (i + 2)), .ref 5001, .int (xs (i + 1)), .ref 0]) rfl (congrArg (fun z : Int32 => ([.int z, .ref 5001, .int (xs (i + 1)), .ref 0] : List Value)) (nI_add i 2)) rfl ?_
  refine WP.iscr rfl rfl (by omega) (by omega) ?_
  refine WP.run (pc' := 285) (L' := [.ref 5001, .ref 0, .ref 271, .int (nI i)]) (st' := [.int ((nI i) + (nI 3)), .ref 5001, .int (xs (i + 2)), .int (xs (i + 1)), .ref 0]) (I1 := I) 4 rfl ?_
  refine WP.cg (st' := [.int (nI (i + 3)), .ref 5001, .int (xs (i + 2)), .int (xs (i + 1)), .ref 0]) rfl (congrArg (fun z : Int32 => ([.int z, .ref 5001, .int (xs (i + 2)), .int (xs (i + 1)), .ref 0] : List Value)) (nI_add i 3)) rfl ?_
  refine WP.iscr rfl rfl (by omega) (by omega) ?_
  refine WP.run (pc' := 290) (L' := [.ref 5001, .ref 0, .ref 271, .int (nI i)]) (st' := [.int ((nI i) + (nI 4)), .ref 5001, .int (xs (i + 3)), .int (xs (i + 2)), .int (xs (i + 1)), .ref 0]) (I1 := I) 4 rfl ?_
  refine WP.cg (st' := [.int (nI (i + 4)), .ref 5001, .int (xs (i + 3)), .int (xs (i + 2)), .int (xs (i + 1)), .ref 0]) rfl (congrArg (fun z : Int32 => ([.int z, .ref 5001, .int (xs (i + 3)), .int (xs (i + 2)), .int (xs (i + 1)), .ref 0] : List Value)) (nI_add i 4)) rfl ?_
  refine WP.iscr rfl rfl (by omega) (by omega) ?_
  refine WP.run (pc' := 295) (L' := [.ref 5001, .ref 0, .ref 271, .int (nI i)]) (st' := [.int ((nI i) + (nI 5)), .ref 5001, .int (xs (i + 4)), .int (xs (i + 3)), .int (xs (i + 2)), .int (xs (i + 1)), .ref 0]) (I1 := I) 4 rfl ?_
  refine WP.cg (st' := [.int (nI (i + 5)), .ref 5001, .int (xs (i + 4)), .int (xs (i + 3)), .int (xs (i + 2)), .int (xs (i + 1)), .ref 0]) rfl (congrArg (fun z : Int32 => ([.int z, .ref 5001, .int (xs (i + 4)), .int (xs (i + 3)), .int (xs (i + 2)), .int (xs (i + 1)), .ref 0] : List Value)) (nI_add i 5)) rfl ?_
  refine WP.iscr rfl rfl (by omega) (by omega) ?_
  refine WP.callX (rest := []) rfl rfl h1 (fun v K hv => ?_)
  obtain ⟨rfl, hC, hO⟩ := hv
  refine WP.run (pc' := 304) (L' := [.ref 5001, .ref 0, .ref 271, .int (nI i)]) (st' := [.int ((nI i) + (nI 1)), .ref 5001, .ref 271, .int a]) (I1 := K) 5 rfl ?_
  refine WP.cg (st' := [.int (nI (i + 1)), .ref 5001, .ref 271, .int a]) rfl (congrArg (fun z : Int32 => ([.int z, .ref 5001, .ref 271, .int a] : List Value)) (nI_add i 1)) rfl ?_
  refine WP.iscr rfl rfl (by omega) (by omega) ?_
  refine WP.run (pc' := 309) (L' := [.ref 5001, .ref 0, .ref 271, .int (nI i)]) (st' := [.int ((nI i) + (nI 2)), .ref 5001, .int (xs (i + 1)), .ref 271, .int a]) (I1 := K) 4 rfl ?_
  refine WP.cg (st' := [.int (nI (i + 2)), .ref 5001, .int (xs (i + 1)), .ref 271, .int a]) rfl (congrArg (fun z : Int32 => ([.int z, .ref 5001, .int (xs (i + 1)), .ref 271, .int a] : List Value)) (nI_add i 2)) rfl ?_
  refine WP.iscr rfl rfl (by omega) (by omega) ?_
  refine WP.run (pc' := 314) (L' := [.ref 5001, .ref 0, .ref 271, .int (nI i)]) (st' := [.int ((nI i) + (nI 3)), .ref 5001, .int (xs (i + 2)), .int (xs (i + 1)), .ref 271, .int a]) (I1 := K) 4 rfl ?_
  refine WP.cg (st' := [.int (nI (i + 3)), .ref 5001, .int (xs (i + 2)), .int (xs (i + 1)), .ref 271, .int a]) rfl (congrArg (fun z : Int32 => ([.int z, .ref 5001, .int (xs (i + 2)), .int (xs (i + 1)), .ref 271, .int a] : List Value)) (nI_add i 3)) rfl ?_
  refine WP.iscr rfl rfl (by omega) (by omega) ?_
  refine WP.run (pc' := 319) (L' := [.ref 5001, .ref 0, .ref 271, .int (nI i)]) (st' := [.int ((nI i) + (nI 4)), .ref 5001, .int (xs (i + 3)), .int (xs (i + 2)), .int (xs (i + 1)), .ref 271, .int a]) (I1 := K) 4 rfl ?_
  refine WP.cg (st' := [.int (nI (i + 4)), .ref 5001, .int (xs (i + 3)), .int (xs (i + 2)), .int (xs (i + 1)), .ref 271, .int a]) rfl (congrArg (fun z : Int32 => ([.int z, .ref 5001, .int (xs (i + 3)), .int (xs (i + 2)), .int (xs (i + 1)), .ref 271, .int a] : List Value)) (nI_add i 4)) rfl ?_
  refine WP.iscr rfl rfl (by omega) (by omega) ?_
  refine WP.run (pc' := 324) (L' := [.ref 5001, .ref 0, .ref 271, .int (nI i)]) (st' := [.int ((nI i) + (nI 5)), .ref 5001, .int (xs (i + 4)), .int (xs (i + 3)), .int (xs (i + 2)), .int (xs (i + 1)), .ref 271, .int a]) (I1 := K) 4 rfl ?_
  refine WP.cg (st' := [.int (nI (i + 5)), .ref 5001, .int (xs (i + 4)), .int (xs (i + 3)), .int (xs (i + 2)), .int (xs (i + 1)), .ref 271, .int a]) rfl (congrArg (fun z : Int32 => ([.int z, .ref 5001, .int (xs (i + 4)), .int (xs (i + 3)), .int (xs (i + 2)), .int (xs (i + 1)), .ref 271, .int a] : List Value)) (nI_add i 5)) rfl ?_
  refine WP.iscr rfl rfl (by omega) (by omega) ?_
  refine WP.callX (rest := [.int a]) rfl rfl (h2 K (hm.cg hr (fun o k q => hO o k (by unfold clP; omega)))) (fun v K2 hv => ?_)
  obtain ⟨rfl, hM, hO2⟩ := hv
  refine WP.run (pc' := if a = a then 1086 else 331) (L' := [.ref 5001, .ref 0, .ref 271, .int (nI i)]) (st' := []) (I1 := K2) 1 rfl ?_
  refine WP.brT rfl ?_
  exact g K2 s' (hC.cg (fun o k q => hO2 o k (by unfold moP; omega))) hM h3
set_option maxRecDepth 100000 in
theorem law_3 {L i : Nat} {xs : Nat → Int32} {I : Pl} {s : St} {Q : Option Value → Pl → Prop} (hL : L ≤ 3072) (hi : i + 6 ≤ L) (h : RIC I s) (hm : RIM I s) (hr : RII s) (g : ∀ K s', RIC K s' → RIM K s' → RII s' → WP 12 (FCL L xs) 1086 [.ref 5001, .ref 0, .ref 271, .int (nI i)] [] K Q) : WP 12 (FCL L xs) 333 [.ref 5001, .ref 0, .ref 271, .int (nI i)] [] I Q := by
  obtain ⟨a, s', h1, h2, h3⟩ := st_drop (x := xs (i + 1)) h hr
  refine WP.run (pc' := 338) (L' := [.ref 5001, .ref 0, .ref 271, .int (nI i)]) (st' := [.int ((nI i) + (nI 1)), .ref 5001, .ref 0]) (I1 := I) 5 rfl ?_
  refine WP.cg (st' := [.int (nI (i + 1)), .ref 5001, .ref 0]) rfl (congrArg (fun z : Int32 => ([.int z, .ref 5001, .ref 0] : List Value)) (nI_add i 1)) rfl ?_
  refine WP.iscr rfl rfl (by omega) (by omega) ?_
  refine WP.callX (rest := []) rfl rfl h1 (fun v K hv => ?_)
  obtain ⟨rfl, hC, hO⟩ := hv
  refine WP.run (pc' := 347) (L' := [.ref 5001, .ref 0, .ref 271, .int (nI i)]) (st' := [.int ((nI i) + (nI 1)), .ref 5001, .ref 271, .int a]) (I1 := K) 5 rfl ?_
  refine WP.cg (st' := [.int (nI (i + 1)), .ref 5001, .ref 271, .int a]) rfl (congrArg (fun z : Int32 => ([.int z, .ref 5001, .ref 271, .int a] : List Value)) (nI_add i 1)) rfl ?_
  refine WP.iscr rfl rfl (by omega) (by omega) ?_
  refine WP.callX (rest := [.int a]) rfl rfl (h2 K (hm.cg hr (fun o k q => hO o k (by unfold clP; omega)))) (fun v K2 hv => ?_)
  obtain ⟨rfl, hM, hO2⟩ := hv
  refine WP.run (pc' := if a = a then 1086 else 354) (L' := [.ref 5001, .ref 0, .ref 271, .int (nI i)]) (st' := []) (I1 := K2) 1 rfl ?_
  refine WP.brT rfl ?_
  exact g K2 s' (hC.cg (fun o k q => hO2 o k (by unfold moP; omega))) hM h3
set_option maxRecDepth 100000 in
theorem law_4 {L i : Nat} {xs : Nat → Int32} {I : Pl} {s : St} {Q : Option Value → Pl → Prop} (hL : L ≤ 3072) (hi : i + 6 ≤ L) (h : RIC I s) (hm : RIM I s) (hr : RII s) (g : ∀ K s', RIC K s' → RIM K s' → RII s' → WP 12 (FCL L xs) 1086 [.ref 5001, .ref 0, .ref 271, .int (nI i)] [] K Q) : WP 12 (FCL L xs) 356 [.ref 5001, .ref 0, .ref 271, .int (nI i)] [] I Q := by
  obtain ⟨a, s', h1, h2, h3⟩ := st_feed (x := xs (i + 1)) h hr
  refine WP.run (pc' := 361) (L' := [.ref 5001, .ref 0, .ref 271, .int (nI i)]) (st' := [.int ((nI i) + (nI 1)), .ref 5001, .ref 0]) (I1 := I) 5 rfl ?_
  refine WP.cg (st' := [.int (nI (i + 1)), .ref 5001, .ref 0]) rfl (congrArg (fun z : Int32 => ([.int z, .ref 5001, .ref 0] : List Value)) (nI_add i 1)) rfl ?_
  refine WP.iscr rfl rfl (by omega) (by omega) ?_
  refine WP.callX (rest := []) rfl rfl h1 (fun v K hv => ?_)
  obtain ⟨rfl, hC, hO⟩ := hv
  refine WP.run (pc' := 370) (L' := [.ref 5001, .ref 0, .ref 271, .int (nI i)]) (st' := [.int ((nI i) + (nI 1)), .ref 5001, .ref 271, .int a]) (I1 := K) 5 rfl ?_
  refine WP.cg (st' := [.int (nI (i + 1)), .ref 5001, .ref 271, .int a]) rfl (congrArg (fun z : Int32 => ([.int z, .ref 5001, .ref 271, .int a] : List Value)) (nI_add i 1)) rfl ?_
  refine WP.iscr rfl rfl (by omega) (by omega) ?_
  refine WP.callX (rest := [.int a]) rfl rfl (h2 K (hm.cg hr (fun o k q => hO o k (by unfold clP; omega)))) (fun v K2 hv => ?_)
  obtain ⟨rfl, hM, hO2⟩ := hv
  refine WP.run (pc' := if a = a then 1086 else 377) (L' := [.ref 5001, .ref 0, .ref 271, .int (nI i)]) (st' := []) (I1 := K2) 1 rfl ?_
  refine WP.brT rfl ?_
  exact g K2 s' (hC.cg (fun o k q => hO2 o k (by unfold moP; omega))) hM h3
set_option maxRecDepth 100000 in
theorem law_5 {L i : Nat} {xs : Nat → Int32} {I : Pl} {s : St} {Q : Option Value → Pl → Prop} (hL : L ≤ 3072) (hi : i + 6 ≤ L) (h : RIC I s) (hm : RIM I s) (hr : RII s) (g : ∀ K s', RIC K s' → RIM K s' → RII s' → WP 12 (FCL L xs) 1086 [.ref 5001, .ref 0, .ref 271, .int (nI i)] [] K Q) : WP 12 (FCL L xs) 379 [.ref 5001, .ref 0, .ref 271, .int (nI i)] [] I Q := by
  obtain ⟨a, s', h1, h2, h3⟩ := st_tower h hr
  refine WP.run (pc' := 380) (L' := [.ref 5001, .ref 0, .ref 271, .int (nI i)]) (st' := [.ref 0]) (I1 := I) 1 rfl ?_
  refine WP.callX (rest := []) rfl rfl h1 (fun v K hv => ?_)
  obtain ⟨rfl, hC, hO⟩ := hv
  refine WP.run (pc' := 384) (L' := [.ref 5001, .ref 0, .ref 271, .int (nI i)]) (st' := [.ref 271, .int a]) (I1 := K) 1 rfl ?_
  refine WP.callX (rest := [.int a]) rfl rfl (h2 K (hm.cg hr (fun o k q => hO o k (by unfold clP; omega)))) (fun v K2 hv => ?_)
  obtain ⟨rfl, hM, hO2⟩ := hv
  refine WP.run (pc' := if a = a then 1086 else 390) (L' := [.ref 5001, .ref 0, .ref 271, .int (nI i)]) (st' := []) (I1 := K2) 1 rfl ?_
  refine WP.brT rfl ?_
  exact g K2 s' (hC.cg (fun o k q => hO2 o k (by unfold moP; omega))) hM h3
set_option maxRecDepth 100000 in
theorem law_6 {L i : Nat} {xs : Nat → Int32} {I : Pl} {s : St} {Q : Option Value → Pl → Prop} (hL : L ≤ 3072) (hi : i + 6 ≤ L) (h : RIC I s) (hm : RIM I s) (hr : RII s) (g : ∀ K s', RIC K s' → RIM K s' → RII s' → WP 12 (FCL L xs) 1086 [.ref 5001, .ref 0, .ref 271, .int (nI i)] [] K Q) : WP 12 (FCL L xs) 392 [.ref 5001, .ref 0, .ref 271, .int (nI i)] [] I Q := by
  obtain ⟨a, s', h1, h2, h3⟩ := st_fault h hr
  refine WP.run (pc' := 393) (L' := [.ref 5001, .ref 0, .ref 271, .int (nI i)]) (st' := [.ref 0]) (I1 := I) 1 rfl ?_
  refine WP.callX (rest := []) rfl rfl h1 (fun v K hv => ?_)
  obtain ⟨rfl, hC, hO⟩ := hv
  refine WP.run (pc' := 397) (L' := [.ref 5001, .ref 0, .ref 271, .int (nI i)]) (st' := [.ref 271, .int a]) (I1 := K) 1 rfl ?_
  refine WP.callX (rest := [.int a]) rfl rfl (h2 K (hm.cg hr (fun o k q => hO o k (by unfold clP; omega)))) (fun v K2 hv => ?_)
  obtain ⟨rfl, hM, hO2⟩ := hv
  refine WP.run (pc' := if a = a then 1086 else 403) (L' := [.ref 5001, .ref 0, .ref 271, .int (nI i)]) (st' := []) (I1 := K2) 1 rfl ?_
  refine WP.brT rfl ?_
  exact g K2 s' (hC.cg (fun o k q => hO2 o k (by unfold moP; omega))) hM h3
set_option maxRecDepth 100000 in
theorem law_7 {L i : Nat} {xs : Nat → Int32} {I : Pl} {s : St} {Q : Option Value → Pl → Prop} (hL : L ≤ 3072) (hi : i + 6 ≤ L) (h : RIC I s) (hm : RIM I s) (hr : RII s) (g : ∀ K s', RIC K s' → RIM K s' → RII s' → WP 12 (FCL L xs) 1086 [.ref 5001, .ref 0, .ref 271, .int (nI i)] [] K Q) : WP 12 (FCL L xs) 405 [.ref 5001, .ref 0, .ref 271, .int (nI i)] [] I Q := by
  obtain ⟨a, s', h1, h2, h3⟩ := st_plait (x := xs (i + 1)) h hr
  refine WP.run (pc' := 410) (L' := [.ref 5001, .ref 0, .ref 271, .int (nI i)]) (st' := [.int ((nI i) + (nI 1)), .ref 5001, .ref 0]) (I1 := I) 5 rfl ?_
  refine WP.cg (st' := [.int (nI (i + 1)), .ref 5001, .ref 0]) rfl (congrArg (fun z : Int32 => ([.int z, .ref 5001, .ref 0] : List Value)) (nI_add i 1)) rfl ?_
  refine WP.iscr rfl rfl (by omega) (by omega) ?_
  refine WP.callX (rest := []) rfl rfl h1 (fun v K hv => ?_)
  obtain ⟨rfl, hC, hO⟩ := hv
  refine WP.run (pc' := 419) (L' := [.ref 5001, .ref 0, .ref 271, .int (nI i)]) (st' := [.int ((nI i) + (nI 1)), .ref 5001, .ref 271, .int a]) (I1 := K) 5 rfl ?_
  refine WP.cg (st' := [.int (nI (i + 1)), .ref 5001, .ref 271, .int a]) rfl (congrArg (fun z : Int32 => ([.int z, .ref 5001, .ref 271, .int a] : List Value)) (nI_add i 1)) rfl ?_
  refine WP.iscr rfl rfl (by omega) (by omega) ?_
  refine WP.callX (rest := [.int a]) rfl rfl (h2 K (hm.cg hr (fun o k q => hO o k (by unfold clP; omega)))) (fun v K2 hv => ?_)
  obtain ⟨rfl, hM, hO2⟩ := hv
  refine WP.run (pc' := if a = a then 1086 else 426) (L' := [.ref 5001, .ref 0, .ref 271, .int (nI i)]) (st' := []) (I1 := K2) 1 rfl ?_
  refine WP.brT rfl ?_
  exact g K2 s' (hC.cg (fun o k q => hO2 o k (by unfold moP; omega))) hM h3
set_option maxRecDepth 100000 in
theorem law_8 {L i : Nat} {xs : Nat → Int32} {I : Pl} {s : St} {Q : Option Value → Pl → Prop} (hL : L ≤ 3072) (hi : i + 6 ≤ L) (h : RIC I s) (hm : RIM I s) (hr : RII s) (g : ∀ K s', RIC K s' → RIM K s' → RII s' → WP 12 (FCL L xs) 1086 [.ref 5001, .ref 0, .ref 271, .int (nI i)] [] K Q) : WP 12 (FCL L xs) 428 [.ref 5001, .ref 0, .ref 271, .int (nI i)] [] I Q := by
  obtain ⟨a, s', h1, h2, h3⟩ := st_climb (x := xs (i + 1)) h hr
  refine WP.run (pc' := 433) (L' := [.ref 5001, .ref 0, .ref 271, .int (nI i)]) (st' := [.int ((nI i) + (nI 1)), .ref 5001, .ref 0]) (I1 := I) 5 rfl ?_
  refine WP.cg (st' := [.int (nI (i + 1)), .ref 5001, .ref 0]) rfl (congrArg (fun z : Int32 => ([.int z, .ref 5001, .ref 0] : List Value)) (nI_add i 1)) rfl ?_
  refine WP.iscr rfl rfl (by omega) (by omega) ?_
  refine WP.callX (rest := []) rfl rfl h1 (fun v K hv => ?_)
  obtain ⟨rfl, hC, hO⟩ := hv
  refine WP.run (pc' := 442) (L' := [.ref 5001, .ref 0, .ref 271, .int (nI i)]) (st' := [.int ((nI i) + (nI 1)), .ref 5001, .ref 271, .int a]) (I1 := K) 5 rfl ?_
  refine WP.cg (st' := [.int (nI (i + 1)), .ref 5001, .ref 271, .int a]) rfl (congrArg (fun z : Int32 => ([.int z, .ref 5001, .ref 271, .int a] : List Value)) (nI_add i 1)) rfl ?_
  refine WP.iscr rfl rfl (by omega) (by omega) ?_
  refine WP.callX (rest := [.int a]) rfl rfl (h2 K (hm.cg hr (fun o k q => hO o k (by unfold clP; omega)))) (fun v K2 hv => ?_)
  obtain ⟨rfl, hM, hO2⟩ := hv
  refine WP.run (pc' := if a = a then 1086 else 449) (L' := [.ref 5001, .ref 0, .ref 271, .int (nI i)]) (st' := []) (I1 := K2) 1 rfl ?_
  refine WP.brT rfl ?_
  exact g K2 s' (hC.cg (fun o k q => hO2 o k (by unfold moP; omega))) hM h3
set_option maxRecDepth 100000 in
theorem law_9 {L i : Nat} {xs : Nat → Int32} {I : Pl} {s : St} {Q : Option Value → Pl → Prop} (hL : L ≤ 3072) (hi : i + 6 ≤ L) (h : RIC I s) (hm : RIM I s) (hr : RII s) (g : ∀ K s', RIC K s' → RIM K s' → RII s' → WP 12 (FCL L xs) 1086 [.ref 5001, .ref 0, .ref 271, .int (nI i)] [] K Q) : WP 12 (FCL L xs) 451 [.ref 5001, .ref 0, .ref 271, .int (nI i)] [] I Q := by
  obtain ⟨a, s', h1, h2, h3⟩ := st_day h hr
  refine WP.run (pc' := 452) (L' := [.ref 5001, .ref 0, .ref 271, .int (nI i)]) (st' := [.ref 0]) (I1 := I) 1 rfl ?_
  refine WP.callX (rest := []) rfl rfl h1 (fun v K hv => ?_)
  obtain ⟨rfl, hC, hO⟩ := hv
  refine WP.run (pc' := 456) (L' := [.ref 5001, .ref 0, .ref 271, .int (nI i)]) (st' := [.ref 271, .int a]) (I1 := K) 1 rfl ?_
  refine WP.callX (rest := [.int a]) rfl rfl (h2 K (hm.cg hr (fun o k q => hO o k (by unfold clP; omega)))) (fun v K2 hv => ?_)
  obtain ⟨rfl, hM, hO2⟩ := hv
  refine WP.run (pc' := if a = a then 1086 else 462) (L' := [.ref 5001, .ref 0, .ref 271, .int (nI i)]) (st' := []) (I1 := K2) 1 rfl ?_
  refine WP.brT rfl ?_
  exact g K2 s' (hC.cg (fun o k q => hO2 o k (by unfold moP; omega))) hM h3
set_option maxRecDepth 100000 in
theorem law_10 {L i : Nat} {xs : Nat → Int32} {I : Pl} {s : St} {Q : Option Value → Pl → Prop} (hL : L ≤ 3072) (hi : i + 6 ≤ L) (h : RIC I s) (hm : RIM I s) (hr : RII s) (g : ∀ K s', RIC K s' → RIM K s' → RII s' → WP 12 (FCL L xs) 1086 [.ref 5001, .ref 0, .ref 271, .int (nI i)] [] K Q) : WP 12 (FCL L xs) 464 [.ref 5001, .ref 0, .ref 271, .int (nI i)] [] I Q := by
  obtain ⟨a, s', h1, h2, h3⟩ := st_cut (x := xs (i + 1)) h hr
  refine WP.run (pc' := 469) (L' := [.ref 5001, .ref 0, .ref 271, .int (nI i)]) (st' := [.int ((nI i) + (nI 1)), .ref 5001, .ref 0]) (I1 := I) 5 rfl ?_
  refine WP.cg (st' := [.int (nI (i + 1)), .ref 5001, .ref 0]) rfl (congrArg (fun z : Int32 => ([.int z, .ref 5001, .ref 0] : List Value)) (nI_add i 1)) rfl ?_
  refine WP.iscr rfl rfl (by omega) (by omega) ?_
  refine WP.callX (rest := []) rfl rfl h1 (fun v K hv => ?_)
  obtain ⟨rfl, hC, hO⟩ := hv
  refine WP.run (pc' := 478) (L' := [.ref 5001, .ref 0, .ref 271, .int (nI i)]) (st' := [.int ((nI i) + (nI 1)), .ref 5001, .ref 271, .int a]) (I1 := K) 5 rfl ?_
  refine WP.cg (st' := [.int (nI (i + 1)), .ref 5001, .ref 271, .int a]) rfl (congrArg (fun z : Int32 => ([.int z, .ref 5001, .ref 271, .int a] : List Value)) (nI_add i 1)) rfl ?_
  refine WP.iscr rfl rfl (by omega) (by omega) ?_
  refine WP.callX (rest := [.int a]) rfl rfl (h2 K (hm.cg hr (fun o k q => hO o k (by unfold clP; omega)))) (fun v K2 hv => ?_)
  obtain ⟨rfl, hM, hO2⟩ := hv
  refine WP.run (pc' := if a = a then 1086 else 485) (L' := [.ref 5001, .ref 0, .ref 271, .int (nI i)]) (st' := []) (I1 := K2) 1 rfl ?_
  refine WP.brT rfl ?_
  exact g K2 s' (hC.cg (fun o k q => hO2 o k (by unfold moP; omega))) hM h3
set_option maxRecDepth 100000 in
theorem law_11 {L i : Nat} {xs : Nat → Int32} {I : Pl} {s : St} {Q : Option Value → Pl → Prop} (hL : L ≤ 3072) (hi : i + 6 ≤ L) (h : RIC I s) (hm : RIM I s) (hr : RII s) (g : ∀ K s', RIC K s' → RIM K s' → RII s' → WP 12 (FCL L xs) 1086 [.ref 5001, .ref 0, .ref 271, .int (nI i)] [] K Q) : WP 12 (FCL L xs) 487 [.ref 5001, .ref 0, .ref 271, .int (nI i)] [] I Q := by
  obtain ⟨a, s', h1, h2, h3⟩ := st_peg (x := xs (i + 1)) h hr
  refine WP.run (pc' := 492) (L' := [.ref 5001, .ref 0, .ref 271, .int (nI i)]) (st' := [.int ((nI i) + (nI 1)), .ref 5001, .ref 0]) (I1 := I) 5 rfl ?_
  refine WP.cg (st' := [.int (nI (i + 1)), .ref 5001, .ref 0]) rfl (congrArg (fun z : Int32 => ([.int z, .ref 5001, .ref 0] : List Value)) (nI_add i 1)) rfl ?_
  refine WP.iscr rfl rfl (by omega) (by omega) ?_
  refine WP.callX (rest := []) rfl rfl h1 (fun v K hv => ?_)
  obtain ⟨rfl, hC, hO⟩ := hv
  refine WP.run (pc' := 501) (L' := [.ref 5001, .ref 0, .ref 271, .int (nI i)]) (st' := [.int ((nI i) + (nI 1)), .ref 5001, .ref 271, .int a]) (I1 := K) 5 rfl ?_
  refine WP.cg (st' := [.int (nI (i + 1)), .ref 5001, .ref 271, .int a]) rfl (congrArg (fun z : Int32 => ([.int z, .ref 5001, .ref 271, .int a] : List Value)) (nI_add i 1)) rfl ?_
  refine WP.iscr rfl rfl (by omega) (by omega) ?_
  refine WP.callX (rest := [.int a]) rfl rfl (h2 K (hm.cg hr (fun o k q => hO o k (by unfold clP; omega)))) (fun v K2 hv => ?_)
  obtain ⟨rfl, hM, hO2⟩ := hv
  refine WP.run (pc' := if a = a then 1086 else 508) (L' := [.ref 5001, .ref 0, .ref 271, .int (nI i)]) (st' := []) (I1 := K2) 1 rfl ?_
  refine WP.brT rfl ?_
  exact g K2 s' (hC.cg (fun o k q => hO2 o k (by unfold moP; omega))) hM h3
set_option maxRecDepth 100000 in
theorem law_12 {L i : Nat} {xs : Nat → Int32} {I : Pl} {s : St} {Q : Option Value → Pl → Prop} (hL : L ≤ 3072) (hi : i + 6 ≤ L) (h : RIC I s) (hm : RIM I s) (hr : RII s) (g : ∀ K s', RIC K s' → RIM K s' → RII s' → WP 12 (FCL L xs) 1086 [.ref 5001, .ref 0, .ref 271, .int (nI i)] [] K Q) : WP 12 (FCL L xs) 510 [.ref 5001, .ref 0, .ref 271, .int (nI i)] [] I Q := by
  obtain ⟨a, s', h1, h2, h3⟩ := st_undo h hr
  refine WP.run (pc' := 511) (L' := [.ref 5001, .ref 0, .ref 271, .int (nI i)]) (st' := [.ref 0]) (I1 := I) 1 rfl ?_
  refine WP.callX (rest := []) rfl rfl h1 (fun v K hv => ?_)
  obtain ⟨rfl, hC, hO⟩ := hv
  refine WP.run (pc' := 515) (L' := [.ref 5001, .ref 0, .ref 271, .int (nI i)]) (st' := [.ref 271, .int a]) (I1 := K) 1 rfl ?_
  refine WP.callX (rest := [.int a]) rfl rfl (h2 K (hm.cg hr (fun o k q => hO o k (by unfold clP; omega)))) (fun v K2 hv => ?_)
  obtain ⟨rfl, hM, hO2⟩ := hv
  refine WP.run (pc' := if a = a then 1086 else 521) (L' := [.ref 5001, .ref 0, .ref 271, .int (nI i)]) (st' := []) (I1 := K2) 1 rfl ?_
  refine WP.brT rfl ?_
  exact g K2 s' (hC.cg (fun o k q => hO2 o k (by unfold moP; omega))) hM h3
set_option maxRecDepth 100000 in
theorem law_13 {L i : Nat} {xs : Nat → Int32} {I : Pl} {s : St} {Q : Option Value → Pl → Prop} (hL : L ≤ 3072) (hi : i + 6 ≤ L) (h : RIC I s) (hm : RIM I s) (hr : RII s) (g : ∀ K s', RIC K s' → RIM K s' → RII s' → WP 12 (FCL L xs) 1086 [.ref 5001, .ref 0, .ref 271, .int (nI i)] [] K Q) : WP 12 (FCL L xs) 523 [.ref 5001, .ref 0, .ref 271, .int (nI i)] [] I Q := by
  obtain ⟨a, s', h1, h2, h3⟩ := st_strand (x := xs (i + 1)) (y := xs (i + 2)) h hr
  refine WP.run (pc' := 528) (L' := [.ref 5001, .ref 0, .ref 271, .int (nI i)]) (st' := [.int ((nI i) + (nI 1)), .ref 5001, .ref 0]) (I1 := I) 5 rfl ?_
  refine WP.cg (st' := [.int (nI (i + 1)), .ref 5001, .ref 0]) rfl (congrArg (fun z : Int32 => ([.int z, .ref 5001, .ref 0] : List Value)) (nI_add i 1)) rfl ?_
  refine WP.iscr rfl rfl (by omega) (by omega) ?_
  refine WP.run (pc' := 533) (L' := [.ref 5001, .ref 0, .ref 271, .int (nI i)]) (st' := [.int ((nI i) + (nI 2)), .ref 5001, .int (xs (i + 1)), .ref 0]) (I1 := I) 4 rfl ?_
  refine WP.cg (st' := [.int (nI (i + 2)), .ref 5001, .int (xs (i + 1)), .ref 0]) rfl (congrArg (fun z : Int32 => ([.int z, .ref 5001, .int (xs (i + 1)), .ref 0] : List Value)) (nI_add i 2)) rfl ?_
  refine WP.iscr rfl rfl (by omega) (by omega) ?_
  refine WP.callX (rest := []) rfl rfl h1 (fun v K hv => ?_)
  obtain ⟨rfl, hC, hO⟩ := hv
  refine WP.run (pc' := 542) (L' := [.ref 5001, .ref 0, .ref 271, .int (nI i)]) (st' := [.int ((nI i) + (nI 1)), .ref 5001, .ref 271, .int a]) (I1 := K) 5 rfl ?_
  refine WP.cg (st' := [.int (nI (i + 1)), .ref 5001, .ref 271, .int a]) rfl (congrArg (fun z : Int32 => ([.int z, .ref 5001, .ref 271, .int a] : List Value)) (nI_add i 1)) rfl ?_
  refine WP.iscr rfl rfl (by omega) (by omega) ?_
  refine WP.run (pc' := 547) (L' := [.ref 5001, .ref 0, .ref 271, .int (nI i)]) (st' := [.int ((nI i) + (nI 2)), .ref 5001, .int (xs (i + 1)), .ref 271, .int a]) (I1 := K) 4 rfl ?_
  refine WP.cg (st' := [.int (nI (i + 2)), .ref 5001, .int (xs (i + 1)), .ref 271, .int a]) rfl (congrArg (fun z : Int32 => ([.int z, .ref 5001, .int (xs (i + 1)), .ref 271, .int a] : List Value)) (nI_add i 2)) rfl ?_
  refine WP.iscr rfl rfl (by omega) (by omega) ?_
  refine WP.callX (rest := [.int a]) rfl rfl (h2 K (hm.cg hr (fun o k q => hO o k (by unfold clP; omega)))) (fun v K2 hv => ?_)
  obtain ⟨rfl, hM, hO2⟩ := hv
  refine WP.run (pc' := if a = a then 1086 else 554) (L' := [.ref 5001, .ref 0, .ref 271, .int (nI i)]) (st' := []) (I1 := K2) 1 rfl ?_
  refine WP.brT rfl ?_
  exact g K2 s' (hC.cg (fun o k q => hO2 o k (by unfold moP; omega))) hM h3
set_option maxRecDepth 100000 in
theorem law_14 {L i : Nat} {xs : Nat → Int32} {I : Pl} {s : St} {Q : Option Value → Pl → Prop} (hL : L ≤ 3072) (hi : i + 6 ≤ L) (h : RIC I s) (hm : RIM I s) (hr : RII s) (g : ∀ K s', RIC K s' → RIM K s' → RII s' → WP 12 (FCL L xs) 1086 [.ref 5001, .ref 0, .ref 271, .int (nI i)] [] K Q) : WP 12 (FCL L xs) 556 [.ref 5001, .ref 0, .ref 271, .int (nI i)] [] I Q := by
  obtain ⟨a, s', h1, h2, h3⟩ := st_climber (x := xs (i + 1)) (y := xs (i + 2)) h hr
  refine WP.run (pc' := 561) (L' := [.ref 5001, .ref 0, .ref 271, .int (nI i)]) (st' := [.int ((nI i) + (nI 1)), .ref 5001, .ref 0]) (I1 := I) 5 rfl ?_
  refine WP.cg (st' := [.int (nI (i + 1)), .ref 5001, .ref 0]) rfl (congrArg (fun z : Int32 => ([.int z, .ref 5001, .ref 0] : List Value)) (nI_add i 1)) rfl ?_
  refine WP.iscr rfl rfl (by omega) (by omega) ?_
  refine WP.run (pc' := 566) (L' := [.ref 5001, .ref 0, .ref 271, .int (nI i)]) (st' := [.int ((nI i) + (nI 2)), .ref 5001, .int (xs (i + 1)), .ref 0]) (I1 := I) 4 rfl ?_
  refine WP.cg (st' := [.int (nI (i + 2)), .ref 5001, .int (xs (i + 1)), .ref 0]) rfl (congrArg (fun z : Int32 => ([.int z, .ref 5001, .int (xs (i + 1)), .ref 0] : List Value)) (nI_add i 2)) rfl ?_
  refine WP.iscr rfl rfl (by omega) (by omega) ?_
  refine WP.callX (rest := []) rfl rfl h1 (fun v K hv => ?_)
  obtain ⟨rfl, hC, hO⟩ := hv
  refine WP.run (pc' := 575) (L' := [.ref 5001, .ref 0, .ref 271, .int (nI i)]) (st' := [.int ((nI i) + (nI 1)), .ref 5001, .ref 271, .int a]) (I1 := K) 5 rfl ?_
  refine WP.cg (st' := [.int (nI (i + 1)), .ref 5001, .ref 271, .int a]) rfl (congrArg (fun z : Int32 => ([.int z, .ref 5001, .ref 271, .int a] : List Value)) (nI_add i 1)) rfl ?_
  refine WP.iscr rfl rfl (by omega) (by omega) ?_
  refine WP.run (pc' := 580) (L' := [.ref 5001, .ref 0, .ref 271, .int (nI i)]) (st' := [.int ((nI i) + (nI 2)), .ref 5001, .int (xs (i + 1)), .ref 271, .int a]) (I1 := K) 4 rfl ?_
  refine WP.cg (st' := [.int (nI (i + 2)), .ref 5001, .int (xs (i + 1)), .ref 271, .int a]) rfl (congrArg (fun z : Int32 => ([.int z, .ref 5001, .int (xs (i + 1)), .ref 271, .int a] : List Value)) (nI_add i 2)) rfl ?_
  refine WP.iscr rfl rfl (by omega) (by omega) ?_
  refine WP.callX (rest := [.int a]) rfl rfl (h2 K (hm.cg hr (fun o k q => hO o k (by unfold clP; omega)))) (fun v K2 hv => ?_)
  obtain ⟨rfl, hM, hO2⟩ := hv
  refine WP.run (pc' := if a = a then 1086 else 587) (L' := [.ref 5001, .ref 0, .ref 271, .int (nI i)]) (st' := []) (I1 := K2) 1 rfl ?_
  refine WP.brT rfl ?_
  exact g K2 s' (hC.cg (fun o k q => hO2 o k (by unfold moP; omega))) hM h3
set_option maxRecDepth 100000 in
theorem law_15 {L i : Nat} {xs : Nat → Int32} {I : Pl} {s : St} {Q : Option Value → Pl → Prop} (hL : L ≤ 3072) (hi : i + 6 ≤ L) (h : RIC I s) (hm : RIM I s) (hr : RII s) (g : ∀ K s', RIC K s' → RIM K s' → RII s' → WP 12 (FCL L xs) 1086 [.ref 5001, .ref 0, .ref 271, .int (nI i)] [] K Q) : WP 12 (FCL L xs) 589 [.ref 5001, .ref 0, .ref 271, .int (nI i)] [] I Q := by
  obtain ⟨a, s', h1, h2, h3⟩ := st_due (x := xs (i + 1)) h hr
  refine WP.run (pc' := 594) (L' := [.ref 5001, .ref 0, .ref 271, .int (nI i)]) (st' := [.int ((nI i) + (nI 1)), .ref 5001, .ref 0]) (I1 := I) 5 rfl ?_
  refine WP.cg (st' := [.int (nI (i + 1)), .ref 5001, .ref 0]) rfl (congrArg (fun z : Int32 => ([.int z, .ref 5001, .ref 0] : List Value)) (nI_add i 1)) rfl ?_
  refine WP.iscr rfl rfl (by omega) (by omega) ?_
  refine WP.callX (rest := []) rfl rfl h1 (fun v K hv => ?_)
  obtain ⟨rfl, hC, hO⟩ := hv
  refine WP.run (pc' := 603) (L' := [.ref 5001, .ref 0, .ref 271, .int (nI i)]) (st' := [.int ((nI i) + (nI 1)), .ref 5001, .ref 271, .int a]) (I1 := K) 5 rfl ?_
  refine WP.cg (st' := [.int (nI (i + 1)), .ref 5001, .ref 271, .int a]) rfl (congrArg (fun z : Int32 => ([.int z, .ref 5001, .ref 271, .int a] : List Value)) (nI_add i 1)) rfl ?_
  refine WP.iscr rfl rfl (by omega) (by omega) ?_
  refine WP.callX (rest := [.int a]) rfl rfl (h2 K (hm.cg hr (fun o k q => hO o k (by unfold clP; omega)))) (fun v K2 hv => ?_)
  obtain ⟨rfl, hM, hO2⟩ := hv
  refine WP.run (pc' := if a = a then 1086 else 610) (L' := [.ref 5001, .ref 0, .ref 271, .int (nI i)]) (st' := []) (I1 := K2) 1 rfl ?_
  refine WP.brT rfl ?_
  exact g K2 s' (hC.cg (fun o k q => hO2 o k (by unfold moP; omega))) hM h3
set_option maxRecDepth 100000 in
theorem law_16 {L i : Nat} {xs : Nat → Int32} {I : Pl} {s : St} {Q : Option Value → Pl → Prop} (hL : L ≤ 3072) (hi : i + 6 ≤ L) (h : RIC I s) (hm : RIM I s) (hr : RII s) (g : ∀ K s', RIC K s' → RIM K s' → RII s' → WP 12 (FCL L xs) 1086 [.ref 5001, .ref 0, .ref 271, .int (nI i)] [] K Q) : WP 12 (FCL L xs) 612 [.ref 5001, .ref 0, .ref 271, .int (nI i)] [] I Q := by
  obtain ⟨a, s', h1, h2, h3⟩ := st_borne (x := xs (i + 1)) (y := xs (i + 2)) h hr
  refine WP.run (pc' := 617) (L' := [.ref 5001, .ref 0, .ref 271, .int (nI i)]) (st' := [.int ((nI i) + (nI 1)), .ref 5001, .ref 0]) (I1 := I) 5 rfl ?_
  refine WP.cg (st' := [.int (nI (i + 1)), .ref 5001, .ref 0]) rfl (congrArg (fun z : Int32 => ([.int z, .ref 5001, .ref 0] : List Value)) (nI_add i 1)) rfl ?_
  refine WP.iscr rfl rfl (by omega) (by omega) ?_
  refine WP.run (pc' := 622) (L' := [.ref 5001, .ref 0, .ref 271, .int (nI i)]) (st' := [.int ((nI i) + (nI 2)), .ref 5001, .int (xs (i + 1)), .ref 0]) (I1 := I) 4 rfl ?_
  refine WP.cg (st' := [.int (nI (i + 2)), .ref 5001, .int (xs (i + 1)), .ref 0]) rfl (congrArg (fun z : Int32 => ([.int z, .ref 5001, .int (xs (i + 1)), .ref 0] : List Value)) (nI_add i 2)) rfl ?_
  refine WP.iscr rfl rfl (by omega) (by omega) ?_
  refine WP.callX (rest := []) rfl rfl h1 (fun v K hv => ?_)
  obtain ⟨rfl, hC, hO⟩ := hv
  refine WP.run (pc' := 631) (L' := [.ref 5001, .ref 0, .ref 271, .int (nI i)]) (st' := [.int ((nI i) + (nI 1)), .ref 5001, .ref 271, .int a]) (I1 := K) 5 rfl ?_
  refine WP.cg (st' := [.int (nI (i + 1)), .ref 5001, .ref 271, .int a]) rfl (congrArg (fun z : Int32 => ([.int z, .ref 5001, .ref 271, .int a] : List Value)) (nI_add i 1)) rfl ?_
  refine WP.iscr rfl rfl (by omega) (by omega) ?_
  refine WP.run (pc' := 636) (L' := [.ref 5001, .ref 0, .ref 271, .int (nI i)]) (st' := [.int ((nI i) + (nI 2)), .ref 5001, .int (xs (i + 1)), .ref 271, .int a]) (I1 := K) 4 rfl ?_
  refine WP.cg (st' := [.int (nI (i + 2)), .ref 5001, .int (xs (i + 1)), .ref 271, .int a]) rfl (congrArg (fun z : Int32 => ([.int z, .ref 5001, .int (xs (i + 1)), .ref 271, .int a] : List Value)) (nI_add i 2)) rfl ?_
  refine WP.iscr rfl rfl (by omega) (by omega) ?_
  refine WP.callX (rest := [.int a]) rfl rfl (h2 K (hm.cg hr (fun o k q => hO o k (by unfold clP; omega)))) (fun v K2 hv => ?_)
  obtain ⟨rfl, hM, hO2⟩ := hv
  refine WP.run (pc' := if a = a then 1086 else 643) (L' := [.ref 5001, .ref 0, .ref 271, .int (nI i)]) (st' := []) (I1 := K2) 1 rfl ?_
  refine WP.brT rfl ?_
  exact g K2 s' (hC.cg (fun o k q => hO2 o k (by unfold moP; omega))) hM h3
set_option maxRecDepth 100000 in
theorem law_17 {L i : Nat} {xs : Nat → Int32} {I : Pl} {s : St} {Q : Option Value → Pl → Prop} (hL : L ≤ 3072) (hi : i + 6 ≤ L) (h : RIC I s) (hm : RIM I s) (hr : RII s) (g : ∀ K s', RIC K s' → RIM K s' → RII s' → WP 12 (FCL L xs) 1086 [.ref 5001, .ref 0, .ref 271, .int (nI i)] [] K Q) : WP 12 (FCL L xs) 645 [.ref 5001, .ref 0, .ref 271, .int (nI i)] [] I Q := by
  obtain ⟨a, s', h1, h2, h3⟩ := st_plan (x := xs (i + 1)) (y := xs (i + 2)) h hr
  refine WP.run (pc' := 650) (L' := [.ref 5001, .ref 0, .ref 271, .int (nI i)]) (st' := [.int ((nI i) + (nI 1)), .ref 5001, .ref 0]) (I1 := I) 5 rfl ?_
  refine WP.cg (st' := [.int (nI (i + 1)), .ref 5001, .ref 0]) rfl (congrArg (fun z : Int32 => ([.int z, .ref 5001, .ref 0] : List Value)) (nI_add i 1)) rfl ?_
  refine WP.iscr rfl rfl (by omega) (by omega) ?_
  refine WP.run (pc' := 655) (L' := [.ref 5001, .ref 0, .ref 271, .int (nI i)]) (st' := [.int ((nI i) + (nI 2)), .ref 5001, .int (xs (i + 1)), .ref 0]) (I1 := I) 4 rfl ?_
  refine WP.cg (st' := [.int (nI (i + 2)), .ref 5001, .int (xs (i + 1)), .ref 0]) rfl (congrArg (fun z : Int32 => ([.int z, .ref 5001, .int (xs (i + 1)), .ref 0] : List Value)) (nI_add i 2)) rfl ?_
  refine WP.iscr rfl rfl (by omega) (by omega) ?_
  refine WP.callX (rest := []) rfl rfl h1 (fun v K hv => ?_)
  obtain ⟨rfl, hC, hO⟩ := hv
  refine WP.run (pc' := 664) (L' := [.ref 5001, .ref 0, .ref 271, .int (nI i)]) (st' := [.int ((nI i) + (nI 1)), .ref 5001, .ref 271, .int a]) (I1 := K) 5 rfl ?_
  refine WP.cg (st' := [.int (nI (i + 1)), .ref 5001, .ref 271, .int a]) rfl (congrArg (fun z : Int32 => ([.int z, .ref 5001, .ref 271, .int a] : List Value)) (nI_add i 1)) rfl ?_
  refine WP.iscr rfl rfl (by omega) (by omega) ?_
  refine WP.run (pc' := 669) (L' := [.ref 5001, .ref 0, .ref 271, .int (nI i)]) (st' := [.int ((nI i) + (nI 2)), .ref 5001, .int (xs (i + 1)), .ref 271, .int a]) (I1 := K) 4 rfl ?_
  refine WP.cg (st' := [.int (nI (i + 2)), .ref 5001, .int (xs (i + 1)), .ref 271, .int a]) rfl (congrArg (fun z : Int32 => ([.int z, .ref 5001, .int (xs (i + 1)), .ref 271, .int a] : List Value)) (nI_add i 2)) rfl ?_
  refine WP.iscr rfl rfl (by omega) (by omega) ?_
  refine WP.callX (rest := [.int a]) rfl rfl (h2 K (hm.cg hr (fun o k q => hO o k (by unfold clP; omega)))) (fun v K2 hv => ?_)
  obtain ⟨rfl, hM, hO2⟩ := hv
  refine WP.run (pc' := if a = a then 1086 else 676) (L' := [.ref 5001, .ref 0, .ref 271, .int (nI i)]) (st' := []) (I1 := K2) 1 rfl ?_
  refine WP.brT rfl ?_
  exact g K2 s' (hC.cg (fun o k q => hO2 o k (by unfold moP; omega))) hM h3
set_option maxRecDepth 100000 in
theorem law_18 {L i : Nat} {xs : Nat → Int32} {I : Pl} {s : St} {Q : Option Value → Pl → Prop} (hL : L ≤ 3072) (hi : i + 6 ≤ L) (h : RIC I s) (hm : RIM I s) (hr : RII s) (g : ∀ K s', RIC K s' → RIM K s' → RII s' → WP 12 (FCL L xs) 1086 [.ref 5001, .ref 0, .ref 271, .int (nI i)] [] K Q) : WP 12 (FCL L xs) 678 [.ref 5001, .ref 0, .ref 271, .int (nI i)] [] I Q := by
  obtain ⟨a, s', h1, h2, h3⟩ := st_never h hr
  refine WP.run (pc' := 679) (L' := [.ref 5001, .ref 0, .ref 271, .int (nI i)]) (st' := [.ref 0]) (I1 := I) 1 rfl ?_
  refine WP.callX (rest := []) rfl rfl h1 (fun v K hv => ?_)
  obtain ⟨rfl, hC, hO⟩ := hv
  refine WP.run (pc' := 683) (L' := [.ref 5001, .ref 0, .ref 271, .int (nI i)]) (st' := [.ref 271, .int a]) (I1 := K) 1 rfl ?_
  refine WP.callX (rest := [.int a]) rfl rfl (h2 K (hm.cg hr (fun o k q => hO o k (by unfold clP; omega)))) (fun v K2 hv => ?_)
  obtain ⟨rfl, hM, hO2⟩ := hv
  refine WP.run (pc' := if a = a then 1086 else 689) (L' := [.ref 5001, .ref 0, .ref 271, .int (nI i)]) (st' := []) (I1 := K2) 1 rfl ?_
  refine WP.brT rfl ?_
  exact g K2 s' (hC.cg (fun o k q => hO2 o k (by unfold moP; omega))) hM h3
set_option maxRecDepth 100000 in
theorem law_19 {L i : Nat} {xs : Nat → Int32} {I : Pl} {s : St} {Q : Option Value → Pl → Prop} (hL : L ≤ 3072) (hi : i + 6 ≤ L) (h : RIC I s) (hm : RIM I s) (hr : RII s) (g : ∀ K s', RIC K s' → RIM K s' → RII s' → WP 12 (FCL L xs) 1086 [.ref 5001, .ref 0, .ref 271, .int (nI i)] [] K Q) : WP 12 (FCL L xs) 691 [.ref 5001, .ref 0, .ref 271, .int (nI i)] [] I Q := by
  obtain ⟨a, s', h1, h2, h3⟩ := st_needed (x := xs (i + 1)) h hr
  refine WP.run (pc' := 696) (L' := [.ref 5001, .ref 0, .ref 271, .int (nI i)]) (st' := [.int ((nI i) + (nI 1)), .ref 5001, .ref 0]) (I1 := I) 5 rfl ?_
  refine WP.cg (st' := [.int (nI (i + 1)), .ref 5001, .ref 0]) rfl (congrArg (fun z : Int32 => ([.int z, .ref 5001, .ref 0] : List Value)) (nI_add i 1)) rfl ?_
  refine WP.iscr rfl rfl (by omega) (by omega) ?_
  refine WP.callX (rest := []) rfl rfl h1 (fun v K hv => ?_)
  obtain ⟨rfl, hC, hO⟩ := hv
  refine WP.run (pc' := 705) (L' := [.ref 5001, .ref 0, .ref 271, .int (nI i)]) (st' := [.int ((nI i) + (nI 1)), .ref 5001, .ref 271, .int a]) (I1 := K) 5 rfl ?_
  refine WP.cg (st' := [.int (nI (i + 1)), .ref 5001, .ref 271, .int a]) rfl (congrArg (fun z : Int32 => ([.int z, .ref 5001, .ref 271, .int a] : List Value)) (nI_add i 1)) rfl ?_
  refine WP.iscr rfl rfl (by omega) (by omega) ?_
  refine WP.callX (rest := [.int a]) rfl rfl (h2 K (hm.cg hr (fun o k q => hO o k (by unfold clP; omega)))) (fun v K2 hv => ?_)
  obtain ⟨rfl, hM, hO2⟩ := hv
  refine WP.run (pc' := if a = a then 1086 else 712) (L' := [.ref 5001, .ref 0, .ref 271, .int (nI i)]) (st' := []) (I1 := K2) 1 rfl ?_
  refine WP.brT rfl ?_
  exact g K2 s' (hC.cg (fun o k q => hO2 o k (by unfold moP; omega))) hM h3
set_option maxRecDepth 100000 in
theorem law_20 {L i : Nat} {xs : Nat → Int32} {I : Pl} {s : St} {Q : Option Value → Pl → Prop} (hL : L ≤ 3072) (hi : i + 6 ≤ L) (h : RIC I s) (hm : RIM I s) (hr : RII s) (g : ∀ K s', RIC K s' → RIM K s' → RII s' → WP 12 (FCL L xs) 1086 [.ref 5001, .ref 0, .ref 271, .int (nI i)] [] K Q) : WP 12 (FCL L xs) 714 [.ref 5001, .ref 0, .ref 271, .int (nI i)] [] I Q := by
  obtain ⟨a, s', h1, h2, h3⟩ := st_strong (x := xs (i + 1)) h hr
  refine WP.run (pc' := 719) (L' := [.ref 5001, .ref 0, .ref 271, .int (nI i)]) (st' := [.int ((nI i) + (nI 1)), .ref 5001, .ref 0]) (I1 := I) 5 rfl ?_
  refine WP.cg (st' := [.int (nI (i + 1)), .ref 5001, .ref 0]) rfl (congrArg (fun z : Int32 => ([.int z, .ref 5001, .ref 0] : List Value)) (nI_add i 1)) rfl ?_
  refine WP.iscr rfl rfl (by omega) (by omega) ?_
  refine WP.callX (rest := []) rfl rfl h1 (fun v K hv => ?_)
  obtain ⟨rfl, hC, hO⟩ := hv
  refine WP.run (pc' := 728) (L' := [.ref 5001, .ref 0, .ref 271, .int (nI i)]) (st' := [.int ((nI i) + (nI 1)), .ref 5001, .ref 271, .int a]) (I1 := K) 5 rfl ?_
  refine WP.cg (st' := [.int (nI (i + 1)), .ref 5001, .ref 271, .int a]) rfl (congrArg (fun z : Int32 => ([.int z, .ref 5001, .ref 271, .int a] : List Value)) (nI_add i 1)) rfl ?_
  refine WP.iscr rfl rfl (by omega) (by omega) ?_
  refine WP.callX (rest := [.int a]) rfl rfl (h2 K (hm.cg hr (fun o k q => hO o k (by unfold clP; omega)))) (fun v K2 hv => ?_)
  obtain ⟨rfl, hM, hO2⟩ := hv
  refine WP.run (pc' := if a = a then 1086 else 735) (L' := [.ref 5001, .ref 0, .ref 271, .int (nI i)]) (st' := []) (I1 := K2) 1 rfl ?_
  refine WP.brT rfl ?_
  exact g K2 s' (hC.cg (fun o k q => hO2 o k (by unfold moP; omega))) hM h3
set_option maxRecDepth 100000 in
theorem law_21 {L i : Nat} {xs : Nat → Int32} {I : Pl} {s : St} {Q : Option Value → Pl → Prop} (hL : L ≤ 3072) (hi : i + 6 ≤ L) (h : RIC I s) (hm : RIM I s) (hr : RII s) (g : ∀ K s', RIC K s' → RIM K s' → RII s' → WP 12 (FCL L xs) 1086 [.ref 5001, .ref 0, .ref 271, .int (nI i)] [] K Q) : WP 12 (FCL L xs) 737 [.ref 5001, .ref 0, .ref 271, .int (nI i)] [] I Q := by
  obtain ⟨a, s', h1, h2, h3⟩ := st_cutMost h hr
  refine WP.run (pc' := 738) (L' := [.ref 5001, .ref 0, .ref 271, .int (nI i)]) (st' := [.ref 0]) (I1 := I) 1 rfl ?_
  refine WP.callX (rest := []) rfl rfl h1 (fun v K hv => ?_)
  obtain ⟨rfl, hC, hO⟩ := hv
  refine WP.run (pc' := 742) (L' := [.ref 5001, .ref 0, .ref 271, .int (nI i)]) (st' := [.ref 271, .int a]) (I1 := K) 1 rfl ?_
  refine WP.callX (rest := [.int a]) rfl rfl (h2 K (hm.cg hr (fun o k q => hO o k (by unfold clP; omega)))) (fun v K2 hv => ?_)
  obtain ⟨rfl, hM, hO2⟩ := hv
  refine WP.run (pc' := if a = a then 1086 else 748) (L' := [.ref 5001, .ref 0, .ref 271, .int (nI i)]) (st' := []) (I1 := K2) 1 rfl ?_
  refine WP.brT rfl ?_
  exact g K2 s' (hC.cg (fun o k q => hO2 o k (by unfold moP; omega))) hM h3
set_option maxRecDepth 100000 in
theorem law_22 {L i : Nat} {xs : Nat → Int32} {I : Pl} {s : St} {Q : Option Value → Pl → Prop} (hL : L ≤ 3072) (hi : i + 6 ≤ L) (h : RIC I s) (hm : RIM I s) (hr : RII s) (g : ∀ K s', RIC K s' → RIM K s' → RII s' → WP 12 (FCL L xs) 1086 [.ref 5001, .ref 0, .ref 271, .int (nI i)] [] K Q) : WP 12 (FCL L xs) 750 [.ref 5001, .ref 0, .ref 271, .int (nI i)] [] I Q := by
  obtain ⟨a, s', h1, h2, h3⟩ := st_comes (x := xs (i + 1)) (y := xs (i + 2)) h hr
  refine WP.run (pc' := 755) (L' := [.ref 5001, .ref 0, .ref 271, .int (nI i)]) (st' := [.int ((nI i) + (nI 1)), .ref 5001, .ref 0]) (I1 := I) 5 rfl ?_
  refine WP.cg (st' := [.int (nI (i + 1)), .ref 5001, .ref 0]) rfl (congrArg (fun z : Int32 => ([.int z, .ref 5001, .ref 0] : List Value)) (nI_add i 1)) rfl ?_
  refine WP.iscr rfl rfl (by omega) (by omega) ?_
  refine WP.run (pc' := 760) (L' := [.ref 5001, .ref 0, .ref 271, .int (nI i)]) (st' := [.int ((nI i) + (nI 2)), .ref 5001, .int (xs (i + 1)), .ref 0]) (I1 := I) 4 rfl ?_
  refine WP.cg (st' := [.int (nI (i + 2)), .ref 5001, .int (xs (i + 1)), .ref 0]) rfl (congrArg (fun z : Int32 => ([.int z, .ref 5001, .int (xs (i + 1)), .ref 0] : List Value)) (nI_add i 2)) rfl ?_
  refine WP.iscr rfl rfl (by omega) (by omega) ?_
  refine WP.callX (rest := []) rfl rfl h1 (fun v K hv => ?_)
  obtain ⟨rfl, hC, hO⟩ := hv
  refine WP.run (pc' := 769) (L' := [.ref 5001, .ref 0, .ref 271, .int (nI i)]) (st' := [.int ((nI i) + (nI 1)), .ref 5001, .ref 271, .int a]) (I1 := K) 5 rfl ?_
  refine WP.cg (st' := [.int (nI (i + 1)), .ref 5001, .ref 271, .int a]) rfl (congrArg (fun z : Int32 => ([.int z, .ref 5001, .ref 271, .int a] : List Value)) (nI_add i 1)) rfl ?_
  refine WP.iscr rfl rfl (by omega) (by omega) ?_
  refine WP.run (pc' := 774) (L' := [.ref 5001, .ref 0, .ref 271, .int (nI i)]) (st' := [.int ((nI i) + (nI 2)), .ref 5001, .int (xs (i + 1)), .ref 271, .int a]) (I1 := K) 4 rfl ?_
  refine WP.cg (st' := [.int (nI (i + 2)), .ref 5001, .int (xs (i + 1)), .ref 271, .int a]) rfl (congrArg (fun z : Int32 => ([.int z, .ref 5001, .int (xs (i + 1)), .ref 271, .int a] : List Value)) (nI_add i 2)) rfl ?_
  refine WP.iscr rfl rfl (by omega) (by omega) ?_
  refine WP.callX (rest := [.int a]) rfl rfl (h2 K (hm.cg hr (fun o k q => hO o k (by unfold clP; omega)))) (fun v K2 hv => ?_)
  obtain ⟨rfl, hM, hO2⟩ := hv
  refine WP.run (pc' := if a = a then 1086 else 781) (L' := [.ref 5001, .ref 0, .ref 271, .int (nI i)]) (st' := []) (I1 := K2) 1 rfl ?_
  refine WP.brT rfl ?_
  exact g K2 s' (hC.cg (fun o k q => hO2 o k (by unfold moP; omega))) hM h3
set_option maxRecDepth 100000 in
theorem law_23 {L i : Nat} {xs : Nat → Int32} {I : Pl} {s : St} {Q : Option Value → Pl → Prop} (hL : L ≤ 3072) (hi : i + 6 ≤ L) (h : RIC I s) (hm : RIM I s) (hr : RII s) (g : ∀ K s', RIC K s' → RIM K s' → RII s' → WP 12 (FCL L xs) 1086 [.ref 5001, .ref 0, .ref 271, .int (nI i)] [] K Q) : WP 12 (FCL L xs) 783 [.ref 5001, .ref 0, .ref 271, .int (nI i)] [] I Q := by
  obtain ⟨a, s', h1, h2, h3⟩ := st_climbed (x := xs (i + 1)) h hr
  refine WP.run (pc' := 788) (L' := [.ref 5001, .ref 0, .ref 271, .int (nI i)]) (st' := [.int ((nI i) + (nI 1)), .ref 5001, .ref 0]) (I1 := I) 5 rfl ?_
  refine WP.cg (st' := [.int (nI (i + 1)), .ref 5001, .ref 0]) rfl (congrArg (fun z : Int32 => ([.int z, .ref 5001, .ref 0] : List Value)) (nI_add i 1)) rfl ?_
  refine WP.iscr rfl rfl (by omega) (by omega) ?_
  refine WP.callX (rest := []) rfl rfl h1 (fun v K hv => ?_)
  obtain ⟨rfl, hC, hO⟩ := hv
  refine WP.run (pc' := 797) (L' := [.ref 5001, .ref 0, .ref 271, .int (nI i)]) (st' := [.int ((nI i) + (nI 1)), .ref 5001, .ref 271, .int a]) (I1 := K) 5 rfl ?_
  refine WP.cg (st' := [.int (nI (i + 1)), .ref 5001, .ref 271, .int a]) rfl (congrArg (fun z : Int32 => ([.int z, .ref 5001, .ref 271, .int a] : List Value)) (nI_add i 1)) rfl ?_
  refine WP.iscr rfl rfl (by omega) (by omega) ?_
  refine WP.callX (rest := [.int a]) rfl rfl (h2 K (hm.cg hr (fun o k q => hO o k (by unfold clP; omega)))) (fun v K2 hv => ?_)
  obtain ⟨rfl, hM, hO2⟩ := hv
  refine WP.run (pc' := if a = a then 1086 else 804) (L' := [.ref 5001, .ref 0, .ref 271, .int (nI i)]) (st' := []) (I1 := K2) 1 rfl ?_
  refine WP.brT rfl ?_
  exact g K2 s' (hC.cg (fun o k q => hO2 o k (by unfold moP; omega))) hM h3
set_option maxRecDepth 100000 in
theorem law_24 {L i : Nat} {xs : Nat → Int32} {I : Pl} {s : St} {Q : Option Value → Pl → Prop} (hL : L ≤ 3072) (hi : i + 6 ≤ L) (h : RIC I s) (hm : RIM I s) (hr : RII s) (g : ∀ K s', RIC K s' → RIM K s' → RII s' → WP 12 (FCL L xs) 1086 [.ref 5001, .ref 0, .ref 271, .int (nI i)] [] K Q) : WP 12 (FCL L xs) 806 [.ref 5001, .ref 0, .ref 271, .int (nI i)] [] I Q := by
  obtain ⟨a, s', h1, h2, h3⟩ := st_climbers (x := xs (i + 1)) (y := xs (i + 2)) (z := xs (i + 3)) h hr
  refine WP.run (pc' := 811) (L' := [.ref 5001, .ref 0, .ref 271, .int (nI i)]) (st' := [.int ((nI i) + (nI 1)), .ref 5001, .ref 0]) (I1 := I) 5 rfl ?_
  refine WP.cg (st' := [.int (nI (i + 1)), .ref 5001, .ref 0]) rfl (congrArg (fun z : Int32 => ([.int z, .ref 5001, .ref 0] : List Value)) (nI_add i 1)) rfl ?_
  refine WP.iscr rfl rfl (by omega) (by omega) ?_
  refine WP.run (pc' := 816) (L' := [.ref 5001, .ref 0, .ref 271, .int (nI i)]) (st' := [.int ((nI i) + (nI 2)), .ref 5001, .int (xs (i + 1)), .ref 0]) (I1 := I) 4 rfl ?_
  refine WP.cg (st' := [.int (nI (i + 2)), .ref 5001, .int (xs (i + 1)), .ref 0]) rfl (congrArg (fun z : Int32 => ([.int z, .ref 5001, .int (xs (i + 1)), .ref 0] : List Value)) (nI_add i 2)) rfl ?_
  refine WP.iscr rfl rfl (by omega) (by omega) ?_
  refine WP.run (pc' := 821) (L' := [.ref 5001, .ref 0, .ref 271, .int (nI i)]) (st' := [.int ((nI i) + (nI 3)), .ref 5001, .int (xs (i + 2)), .int (xs (i + 1)), .ref 0]) (I1 := I) 4 rfl ?_
  refine WP.cg (st' := [.int (nI (i + 3)), .ref 5001, .int (xs (i + 2)), .int (xs (i + 1)), .ref 0]) rfl (congrArg (fun z : Int32 => ([.int z, .ref 5001, .int (xs (i + 2)), .int (xs (i + 1)), .ref 0] : List Value)) (nI_add i 3)) rfl ?_
  refine WP.iscr rfl rfl (by omega) (by omega) ?_
  refine WP.callX (rest := []) rfl rfl h1 (fun v K hv => ?_)
  obtain ⟨rfl, hC, hO⟩ := hv
  refine WP.run (pc' := 830) (L' := [.ref 5001, .ref 0, .ref 271, .int (nI i)]) (st' := [.int ((nI i) + (nI 1)), .ref 5001, .ref 271, .int a]) (I1 := K) 5 rfl ?_
  refine WP.cg (st' := [.int (nI (i + 1)), .ref 5001, .ref 271, .int a]) rfl (congrArg (fun z : Int32 => ([.int z, .ref 5001, .ref 271, .int a] : List Value)) (nI_add i 1)) rfl ?_
  refine WP.iscr rfl rfl (by omega) (by omega) ?_
  refine WP.run (pc' := 835) (L' := [.ref 5001, .ref 0, .ref 271, .int (nI i)]) (st' := [.int ((nI i) + (nI 2)), .ref 5001, .int (xs (i + 1)), .ref 271, .int a]) (I1 := K) 4 rfl ?_
  refine WP.cg (st' := [.int (nI (i + 2)), .ref 5001, .int (xs (i + 1)), .ref 271, .int a]) rfl (congrArg (fun z : Int32 => ([.int z, .ref 5001, .int (xs (i + 1)), .ref 271, .int a] : List Value)) (nI_add i 2)) rfl ?_
  refine WP.iscr rfl rfl (by omega) (by omega) ?_
  refine WP.run (pc' := 840) (L' := [.ref 5001, .ref 0, .ref 271, .int (nI i)]) (st' := [.int ((nI i) + (nI 3)), .ref 5001, .int (xs (i + 2)), .int (xs (i + 1)), .ref 271, .int a]) (I1 := K) 4 rfl ?_
  refine WP.cg (st' := [.int (nI (i + 3)), .ref 5001, .int (xs (i + 2)), .int (xs (i + 1)), .ref 271, .int a]) rfl (congrArg (fun z : Int32 => ([.int z, .ref 5001, .int (xs (i + 2)), .int (xs (i + 1)), .ref 271, .int a] : List Value)) (nI_add i 3)) rfl ?_
  refine WP.iscr rfl rfl (by omega) (by omega) ?_
  refine WP.callX (rest := [.int a]) rfl rfl (h2 K (hm.cg hr (fun o k q => hO o k (by unfold clP; omega)))) (fun v K2 hv => ?_)
  obtain ⟨rfl, hM, hO2⟩ := hv
  refine WP.run (pc' := if a = a then 1086 else 847) (L' := [.ref 5001, .ref 0, .ref 271, .int (nI i)]) (st' := []) (I1 := K2) 1 rfl ?_
  refine WP.brT rfl ?_
  exact g K2 s' (hC.cg (fun o k q => hO2 o k (by unfold moP; omega))) hM h3
set_option maxRecDepth 100000 in
theorem law_25 {L i : Nat} {xs : Nat → Int32} {I : Pl} {s : St} {Q : Option Value → Pl → Prop} (hL : L ≤ 3072) (hi : i + 6 ≤ L) (h : RIC I s) (hm : RIM I s) (hr : RII s) (g : ∀ K s', RIC K s' → RIM K s' → RII s' → WP 12 (FCL L xs) 1086 [.ref 5001, .ref 0, .ref 271, .int (nI i)] [] K Q) : WP 12 (FCL L xs) 849 [.ref 5001, .ref 0, .ref 271, .int (nI i)] [] I Q := by
  obtain ⟨a, s', h1, h2, h3⟩ := st_storm (x := xs (i + 1)) (y := xs (i + 2)) (z := xs (i + 3)) h hr
  refine WP.run (pc' := 854) (L' := [.ref 5001, .ref 0, .ref 271, .int (nI i)]) (st' := [.int ((nI i) + (nI 1)), .ref 5001, .ref 0]) (I1 := I) 5 rfl ?_
  refine WP.cg (st' := [.int (nI (i + 1)), .ref 5001, .ref 0]) rfl (congrArg (fun z : Int32 => ([.int z, .ref 5001, .ref 0] : List Value)) (nI_add i 1)) rfl ?_
  refine WP.iscr rfl rfl (by omega) (by omega) ?_
  refine WP.run (pc' := 859) (L' := [.ref 5001, .ref 0, .ref 271, .int (nI i)]) (st' := [.int ((nI i) + (nI 2)), .ref 5001, .int (xs (i + 1)), .ref 0]) (I1 := I) 4 rfl ?_
  refine WP.cg (st' := [.int (nI (i + 2)), .ref 5001, .int (xs (i + 1)), .ref 0]) rfl (congrArg (fun z : Int32 => ([.int z, .ref 5001, .int (xs (i + 1)), .ref 0] : List Value)) (nI_add i 2)) rfl ?_
  refine WP.iscr rfl rfl (by omega) (by omega) ?_
  refine WP.run (pc' := 864) (L' := [.ref 5001, .ref 0, .ref 271, .int (nI i)]) (st' := [.int ((nI i) + (nI 3)), .ref 5001, .int (xs (i + 2)), .int (xs (i + 1)), .ref 0]) (I1 := I) 4 rfl ?_
  refine WP.cg (st' := [.int (nI (i + 3)), .ref 5001, .int (xs (i + 2)), .int (xs (i + 1)), .ref 0]) rfl (congrArg (fun z : Int32 => ([.int z, .ref 5001, .int (xs (i + 2)), .int (xs (i + 1)), .ref 0] : List Value)) (nI_add i 3)) rfl ?_
  refine WP.iscr rfl rfl (by omega) (by omega) ?_
  refine WP.callX (rest := []) rfl rfl h1 (fun v K hv => ?_)
  obtain ⟨rfl, hC, hO⟩ := hv
  refine WP.run (pc' := 873) (L' := [.ref 5001, .ref 0, .ref 271, .int (nI i)]) (st' := [.int ((nI i) + (nI 1)), .ref 5001, .ref 271, .int a]) (I1 := K) 5 rfl ?_
  refine WP.cg (st' := [.int (nI (i + 1)), .ref 5001, .ref 271, .int a]) rfl (congrArg (fun z : Int32 => ([.int z, .ref 5001, .ref 271, .int a] : List Value)) (nI_add i 1)) rfl ?_
  refine WP.iscr rfl rfl (by omega) (by omega) ?_
  refine WP.run (pc' := 878) (L' := [.ref 5001, .ref 0, .ref 271, .int (nI i)]) (st' := [.int ((nI i) + (nI 2)), .ref 5001, .int (xs (i + 1)), .ref 271, .int a]) (I1 := K) 4 rfl ?_
  refine WP.cg (st' := [.int (nI (i + 2)), .ref 5001, .int (xs (i + 1)), .ref 271, .int a]) rfl (congrArg (fun z : Int32 => ([.int z, .ref 5001, .int (xs (i + 1)), .ref 271, .int a] : List Value)) (nI_add i 2)) rfl ?_
  refine WP.iscr rfl rfl (by omega) (by omega) ?_
  refine WP.run (pc' := 883) (L' := [.ref 5001, .ref 0, .ref 271, .int (nI i)]) (st' := [.int ((nI i) + (nI 3)), .ref 5001, .int (xs (i + 2)), .int (xs (i + 1)), .ref 271, .int a]) (I1 := K) 4 rfl ?_
  refine WP.cg (st' := [.int (nI (i + 3)), .ref 5001, .int (xs (i + 2)), .int (xs (i + 1)), .ref 271, .int a]) rfl (congrArg (fun z : Int32 => ([.int z, .ref 5001, .int (xs (i + 2)), .int (xs (i + 1)), .ref 271, .int a] : List Value)) (nI_add i 3)) rfl ?_
  refine WP.iscr rfl rfl (by omega) (by omega) ?_
  refine WP.callX (rest := [.int a]) rfl rfl (h2 K (hm.cg hr (fun o k q => hO o k (by unfold clP; omega)))) (fun v K2 hv => ?_)
  obtain ⟨rfl, hM, hO2⟩ := hv
  refine WP.run (pc' := if a = a then 1086 else 890) (L' := [.ref 5001, .ref 0, .ref 271, .int (nI i)]) (st' := []) (I1 := K2) 1 rfl ?_
  refine WP.brT rfl ?_
  exact g K2 s' (hC.cg (fun o k q => hO2 o k (by unfold moP; omega))) hM h3
set_option maxRecDepth 100000 in
theorem law_26 {L i : Nat} {xs : Nat → Int32} {I : Pl} {s : St} {Q : Option Value → Pl → Prop} (hL : L ≤ 3072) (hi : i + 6 ≤ L) (h : RIC I s) (hm : RIM I s) (hr : RII s) (g : ∀ K s', RIC K s' → RIM K s' → RII s' → WP 12 (FCL L xs) 1086 [.ref 5001, .ref 0, .ref 271, .int (nI i)] [] K Q) : WP 12 (FCL L xs) 892 [.ref 5001, .ref 0, .ref 271, .int (nI i)] [] I Q := by
  obtain ⟨a, s', h1, h2, h3⟩ := st_image (x := xs (i + 1)) h hr
  refine WP.run (pc' := 897) (L' := [.ref 5001, .ref 0, .ref 271, .int (nI i)]) (st' := [.int ((nI i) + (nI 1)), .ref 5001, .ref 0]) (I1 := I) 5 rfl ?_
  refine WP.cg (st' := [.int (nI (i + 1)), .ref 5001, .ref 0]) rfl (congrArg (fun z : Int32 => ([.int z, .ref 5001, .ref 0] : List Value)) (nI_add i 1)) rfl ?_
  refine WP.iscr rfl rfl (by omega) (by omega) ?_
  refine WP.callX (rest := []) rfl rfl h1 (fun v K hv => ?_)
  obtain ⟨rfl, hC, hO⟩ := hv
  refine WP.run (pc' := 906) (L' := [.ref 5001, .ref 0, .ref 271, .int (nI i)]) (st' := [.int ((nI i) + (nI 1)), .ref 5001, .ref 271, .int a]) (I1 := K) 5 rfl ?_
  refine WP.cg (st' := [.int (nI (i + 1)), .ref 5001, .ref 271, .int a]) rfl (congrArg (fun z : Int32 => ([.int z, .ref 5001, .ref 271, .int a] : List Value)) (nI_add i 1)) rfl ?_
  refine WP.iscr rfl rfl (by omega) (by omega) ?_
  refine WP.callX (rest := [.int a]) rfl rfl (h2 K (hm.cg hr (fun o k q => hO o k (by unfold clP; omega)))) (fun v K2 hv => ?_)
  obtain ⟨rfl, hM, hO2⟩ := hv
  refine WP.run (pc' := if a = a then 1086 else 913) (L' := [.ref 5001, .ref 0, .ref 271, .int (nI i)]) (st' := []) (I1 := K2) 1 rfl ?_
  refine WP.brT rfl ?_
  exact g K2 s' (hC.cg (fun o k q => hO2 o k (by unfold moP; omega))) hM h3
set_option maxRecDepth 100000 in
theorem law_27 {L i : Nat} {xs : Nat → Int32} {I : Pl} {s : St} {Q : Option Value → Pl → Prop} (hL : L ≤ 3072) (hi : i + 6 ≤ L) (h : RIC I s) (hm : RIM I s) (hr : RII s) (g : ∀ K s', RIC K s' → RIM K s' → RII s' → WP 12 (FCL L xs) 1086 [.ref 5001, .ref 0, .ref 271, .int (nI i)] [] K Q) : WP 12 (FCL L xs) 915 [.ref 5001, .ref 0, .ref 271, .int (nI i)] [] I Q := by
  obtain ⟨a, s', h1, h2, h3⟩ := st_restore (x := xs (i + 1)) h hr
  refine WP.run (pc' := 920) (L' := [.ref 5001, .ref 0, .ref 271, .int (nI i)]) (st' := [.int ((nI i) + (nI 1)), .ref 5001, .ref 0]) (I1 := I) 5 rfl ?_
  refine WP.cg (st' := [.int (nI (i + 1)), .ref 5001, .ref 0]) rfl (congrArg (fun z : Int32 => ([.int z, .ref 5001, .ref 0] : List Value)) (nI_add i 1)) rfl ?_
  refine WP.iscr rfl rfl (by omega) (by omega) ?_
  refine WP.callX (rest := []) rfl rfl h1 (fun v K hv => ?_)
  obtain ⟨rfl, hC, hO⟩ := hv
  refine WP.run (pc' := 929) (L' := [.ref 5001, .ref 0, .ref 271, .int (nI i)]) (st' := [.int ((nI i) + (nI 1)), .ref 5001, .ref 271, .int a]) (I1 := K) 5 rfl ?_
  refine WP.cg (st' := [.int (nI (i + 1)), .ref 5001, .ref 271, .int a]) rfl (congrArg (fun z : Int32 => ([.int z, .ref 5001, .ref 271, .int a] : List Value)) (nI_add i 1)) rfl ?_
  refine WP.iscr rfl rfl (by omega) (by omega) ?_
  refine WP.callX (rest := [.int a]) rfl rfl (h2 K (hm.cg hr (fun o k q => hO o k (by unfold clP; omega)))) (fun v K2 hv => ?_)
  obtain ⟨rfl, hM, hO2⟩ := hv
  refine WP.run (pc' := if a = a then 1086 else 936) (L' := [.ref 5001, .ref 0, .ref 271, .int (nI i)]) (st' := []) (I1 := K2) 1 rfl ?_
  refine WP.brT rfl ?_
  exact g K2 s' (hC.cg (fun o k q => hO2 o k (by unfold moP; omega))) hM h3
set_option maxRecDepth 100000 in
theorem law_28 {L i : Nat} {xs : Nat → Int32} {I : Pl} {s : St} {Q : Option Value → Pl → Prop} (hL : L ≤ 3072) (hi : i + 6 ≤ L) (h : RIC I s) (hm : RIM I s) (hr : RII s) (g : ∀ K s', RIC K s' → RIM K s' → RII s' → WP 12 (FCL L xs) 1086 [.ref 5001, .ref 0, .ref 271, .int (nI i)] [] K Q) : WP 12 (FCL L xs) 938 [.ref 5001, .ref 0, .ref 271, .int (nI i)] [] I Q := by
  obtain ⟨a, s', h1, h2, h3⟩ := st_kind (x := xs (i + 1)) h hr
  refine WP.run (pc' := 943) (L' := [.ref 5001, .ref 0, .ref 271, .int (nI i)]) (st' := [.int ((nI i) + (nI 1)), .ref 5001, .ref 0]) (I1 := I) 5 rfl ?_
  refine WP.cg (st' := [.int (nI (i + 1)), .ref 5001, .ref 0]) rfl (congrArg (fun z : Int32 => ([.int z, .ref 5001, .ref 0] : List Value)) (nI_add i 1)) rfl ?_
  refine WP.iscr rfl rfl (by omega) (by omega) ?_
  refine WP.callX (rest := []) rfl rfl h1 (fun v K hv => ?_)
  obtain ⟨rfl, hC, hO⟩ := hv
  refine WP.run (pc' := 952) (L' := [.ref 5001, .ref 0, .ref 271, .int (nI i)]) (st' := [.int ((nI i) + (nI 1)), .ref 5001, .ref 271, .int a]) (I1 := K) 5 rfl ?_
  refine WP.cg (st' := [.int (nI (i + 1)), .ref 5001, .ref 271, .int a]) rfl (congrArg (fun z : Int32 => ([.int z, .ref 5001, .ref 271, .int a] : List Value)) (nI_add i 1)) rfl ?_
  refine WP.iscr rfl rfl (by omega) (by omega) ?_
  refine WP.callX (rest := [.int a]) rfl rfl (h2 K (hm.cg hr (fun o k q => hO o k (by unfold clP; omega)))) (fun v K2 hv => ?_)
  obtain ⟨rfl, hM, hO2⟩ := hv
  refine WP.run (pc' := if a = a then 1086 else 959) (L' := [.ref 5001, .ref 0, .ref 271, .int (nI i)]) (st' := []) (I1 := K2) 1 rfl ?_
  refine WP.brT rfl ?_
  exact g K2 s' (hC.cg (fun o k q => hO2 o k (by unfold moP; omega))) hM h3
set_option maxRecDepth 100000 in
theorem law_29 {L i : Nat} {xs : Nat → Int32} {I : Pl} {s : St} {Q : Option Value → Pl → Prop} (hL : L ≤ 3072) (hi : i + 6 ≤ L) (h : RIC I s) (hm : RIM I s) (hr : RII s) (g : ∀ K s', RIC K s' → RIM K s' → RII s' → WP 12 (FCL L xs) 1086 [.ref 5001, .ref 0, .ref 271, .int (nI i)] [] K Q) : WP 12 (FCL L xs) 961 [.ref 5001, .ref 0, .ref 271, .int (nI i)] [] I Q := by
  obtain ⟨a, s', h1, h2, h3⟩ := st_as (x := xs (i + 1)) (y := xs (i + 2)) h hr
  refine WP.run (pc' := 966) (L' := [.ref 5001, .ref 0, .ref 271, .int (nI i)]) (st' := [.int ((nI i) + (nI 1)), .ref 5001, .ref 0]) (I1 := I) 5 rfl ?_
  refine WP.cg (st' := [.int (nI (i + 1)), .ref 5001, .ref 0]) rfl (congrArg (fun z : Int32 => ([.int z, .ref 5001, .ref 0] : List Value)) (nI_add i 1)) rfl ?_
  refine WP.iscr rfl rfl (by omega) (by omega) ?_
  refine WP.run (pc' := 971) (L' := [.ref 5001, .ref 0, .ref 271, .int (nI i)]) (st' := [.int ((nI i) + (nI 2)), .ref 5001, .int (xs (i + 1)), .ref 0]) (I1 := I) 4 rfl ?_
  refine WP.cg (st' := [.int (nI (i + 2)), .ref 5001, .int (xs (i + 1)), .ref 0]) rfl (congrArg (fun z : Int32 => ([.int z, .ref 5001, .int (xs (i + 1)), .ref 0] : List Value)) (nI_add i 2)) rfl ?_
  refine WP.iscr rfl rfl (by omega) (by omega) ?_
  refine WP.callX (rest := []) rfl rfl h1 (fun v K hv => ?_)
  obtain ⟨rfl, hC, hO⟩ := hv
  refine WP.run (pc' := 980) (L' := [.ref 5001, .ref 0, .ref 271, .int (nI i)]) (st' := [.int ((nI i) + (nI 1)), .ref 5001, .ref 271, .int a]) (I1 := K) 5 rfl ?_
  refine WP.cg (st' := [.int (nI (i + 1)), .ref 5001, .ref 271, .int a]) rfl (congrArg (fun z : Int32 => ([.int z, .ref 5001, .ref 271, .int a] : List Value)) (nI_add i 1)) rfl ?_
  refine WP.iscr rfl rfl (by omega) (by omega) ?_
  refine WP.run (pc' := 985) (L' := [.ref 5001, .ref 0, .ref 271, .int (nI i)]) (st' := [.int ((nI i) + (nI 2)), .ref 5001, .int (xs (i + 1)), .ref 271, .int a]) (I1 := K) 4 rfl ?_
  refine WP.cg (st' := [.int (nI (i + 2)), .ref 5001, .int (xs (i + 1)), .ref 271, .int a]) rfl (congrArg (fun z : Int32 => ([.int z, .ref 5001, .int (xs (i + 1)), .ref 271, .int a] : List Value)) (nI_add i 2)) rfl ?_
  refine WP.iscr rfl rfl (by omega) (by omega) ?_
  refine WP.callX (rest := [.int a]) rfl rfl (h2 K (hm.cg hr (fun o k q => hO o k (by unfold clP; omega)))) (fun v K2 hv => ?_)
  obtain ⟨rfl, hM, hO2⟩ := hv
  refine WP.run (pc' := if a = a then 1086 else 992) (L' := [.ref 5001, .ref 0, .ref 271, .int (nI i)]) (st' := []) (I1 := K2) 1 rfl ?_
  refine WP.brT rfl ?_
  exact g K2 s' (hC.cg (fun o k q => hO2 o k (by unfold moP; omega))) hM h3
set_option maxRecDepth 100000 in
theorem law_30 {L i : Nat} {xs : Nat → Int32} {I : Pl} {s : St} {Q : Option Value → Pl → Prop} (hL : L ≤ 3072) (hi : i + 6 ≤ L) (h : RIC I s) (hm : RIM I s) (hr : RII s) (g : ∀ K s', RIC K s' → RIM K s' → RII s' → WP 12 (FCL L xs) 1086 [.ref 5001, .ref 0, .ref 271, .int (nI i)] [] K Q) : WP 12 (FCL L xs) 994 [.ref 5001, .ref 0, .ref 271, .int (nI i)] [] I Q := by
  obtain ⟨a, s', h1, h2, h3⟩ := st_ask (x := xs (i + 1)) (y := xs (i + 2)) h hr
  refine WP.run (pc' := 999) (L' := [.ref 5001, .ref 0, .ref 271, .int (nI i)]) (st' := [.int ((nI i) + (nI 1)), .ref 5001, .ref 0]) (I1 := I) 5 rfl ?_
  refine WP.cg (st' := [.int (nI (i + 1)), .ref 5001, .ref 0]) rfl (congrArg (fun z : Int32 => ([.int z, .ref 5001, .ref 0] : List Value)) (nI_add i 1)) rfl ?_
  refine WP.iscr rfl rfl (by omega) (by omega) ?_
  refine WP.run (pc' := 1004) (L' := [.ref 5001, .ref 0, .ref 271, .int (nI i)]) (st' := [.int ((nI i) + (nI 2)), .ref 5001, .int (xs (i + 1)), .ref 0]) (I1 := I) 4 rfl ?_
  refine WP.cg (st' := [.int (nI (i + 2)), .ref 5001, .int (xs (i + 1)), .ref 0]) rfl (congrArg (fun z : Int32 => ([.int z, .ref 5001, .int (xs (i + 1)), .ref 0] : List Value)) (nI_add i 2)) rfl ?_
  refine WP.iscr rfl rfl (by omega) (by omega) ?_
  refine WP.callX (rest := []) rfl rfl h1 (fun v K hv => ?_)
  obtain ⟨rfl, hC, hO⟩ := hv
  refine WP.run (pc' := 1013) (L' := [.ref 5001, .ref 0, .ref 271, .int (nI i)]) (st' := [.int ((nI i) + (nI 1)), .ref 5001, .ref 271, .int a]) (I1 := K) 5 rfl ?_
  refine WP.cg (st' := [.int (nI (i + 1)), .ref 5001, .ref 271, .int a]) rfl (congrArg (fun z : Int32 => ([.int z, .ref 5001, .ref 271, .int a] : List Value)) (nI_add i 1)) rfl ?_
  refine WP.iscr rfl rfl (by omega) (by omega) ?_
  refine WP.run (pc' := 1018) (L' := [.ref 5001, .ref 0, .ref 271, .int (nI i)]) (st' := [.int ((nI i) + (nI 2)), .ref 5001, .int (xs (i + 1)), .ref 271, .int a]) (I1 := K) 4 rfl ?_
  refine WP.cg (st' := [.int (nI (i + 2)), .ref 5001, .int (xs (i + 1)), .ref 271, .int a]) rfl (congrArg (fun z : Int32 => ([.int z, .ref 5001, .int (xs (i + 1)), .ref 271, .int a] : List Value)) (nI_add i 2)) rfl ?_
  refine WP.iscr rfl rfl (by omega) (by omega) ?_
  refine WP.callX (rest := [.int a]) rfl rfl (h2 K (hm.cg hr (fun o k q => hO o k (by unfold clP; omega)))) (fun v K2 hv => ?_)
  obtain ⟨rfl, hM, hO2⟩ := hv
  refine WP.run (pc' := if a = a then 1086 else 1025) (L' := [.ref 5001, .ref 0, .ref 271, .int (nI i)]) (st' := []) (I1 := K2) 1 rfl ?_
  refine WP.brT rfl ?_
  exact g K2 s' (hC.cg (fun o k q => hO2 o k (by unfold moP; omega))) hM h3
set_option maxRecDepth 100000 in
theorem law_31 {L i : Nat} {xs : Nat → Int32} {I : Pl} {s : St} {Q : Option Value → Pl → Prop} (hL : L ≤ 3072) (hi : i + 6 ≤ L) (h : RIC I s) (hm : RIM I s) (hr : RII s) (g : ∀ K s', RIC K s' → RIM K s' → RII s' → WP 12 (FCL L xs) 1086 [.ref 5001, .ref 0, .ref 271, .int (nI i)] [] K Q) : WP 12 (FCL L xs) 1027 [.ref 5001, .ref 0, .ref 271, .int (nI i)] [] I Q := by
  obtain ⟨a, s', h1, h2, h3⟩ := st_trace (x := xs (i + 1)) h hr
  refine WP.run (pc' := 1032) (L' := [.ref 5001, .ref 0, .ref 271, .int (nI i)]) (st' := [.int ((nI i) + (nI 1)), .ref 5001, .ref 0]) (I1 := I) 5 rfl ?_
  refine WP.cg (st' := [.int (nI (i + 1)), .ref 5001, .ref 0]) rfl (congrArg (fun z : Int32 => ([.int z, .ref 5001, .ref 0] : List Value)) (nI_add i 1)) rfl ?_
  refine WP.iscr rfl rfl (by omega) (by omega) ?_
  refine WP.callX (rest := []) rfl rfl h1 (fun v K hv => ?_)
  obtain ⟨rfl, hC, hO⟩ := hv
  refine WP.run (pc' := 1041) (L' := [.ref 5001, .ref 0, .ref 271, .int (nI i)]) (st' := [.int ((nI i) + (nI 1)), .ref 5001, .ref 271, .int a]) (I1 := K) 5 rfl ?_
  refine WP.cg (st' := [.int (nI (i + 1)), .ref 5001, .ref 271, .int a]) rfl (congrArg (fun z : Int32 => ([.int z, .ref 5001, .ref 271, .int a] : List Value)) (nI_add i 1)) rfl ?_
  refine WP.iscr rfl rfl (by omega) (by omega) ?_
  refine WP.callX (rest := [.int a]) rfl rfl (h2 K (hm.cg hr (fun o k q => hO o k (by unfold clP; omega)))) (fun v K2 hv => ?_)
  obtain ⟨rfl, hM, hO2⟩ := hv
  refine WP.run (pc' := if a = a then 1086 else 1048) (L' := [.ref 5001, .ref 0, .ref 271, .int (nI i)]) (st' := []) (I1 := K2) 1 rfl ?_
  refine WP.brT rfl ?_
  exact g K2 s' (hC.cg (fun o k q => hO2 o k (by unfold moP; omega))) hM h3
set_option maxRecDepth 100000 in
theorem law_32 {L i : Nat} {xs : Nat → Int32} {I : Pl} {s : St} {Q : Option Value → Pl → Prop} (hL : L ≤ 3072) (hi : i + 6 ≤ L) (h : RIC I s) (hm : RIM I s) (hr : RII s) (g : ∀ K s', RIC K s' → RIM K s' → RII s' → WP 12 (FCL L xs) 1086 [.ref 5001, .ref 0, .ref 271, .int (nI i)] [] K Q) : WP 12 (FCL L xs) 1050 [.ref 5001, .ref 0, .ref 271, .int (nI i)] [] I Q := by
  obtain ⟨a, s', h1, h2, h3⟩ := st_count (x := xs (i + 1)) h hr
  refine WP.run (pc' := 1055) (L' := [.ref 5001, .ref 0, .ref 271, .int (nI i)]) (st' := [.int ((nI i) + (nI 1)), .ref 5001, .ref 0]) (I1 := I) 5 rfl ?_
  refine WP.cg (st' := [.int (nI (i + 1)), .ref 5001, .ref 0]) rfl (congrArg (fun z : Int32 => ([.int z, .ref 5001, .ref 0] : List Value)) (nI_add i 1)) rfl ?_
  refine WP.iscr rfl rfl (by omega) (by omega) ?_
  refine WP.callX (rest := []) rfl rfl h1 (fun v K hv => ?_)
  obtain ⟨rfl, hC, hO⟩ := hv
  refine WP.run (pc' := 1064) (L' := [.ref 5001, .ref 0, .ref 271, .int (nI i)]) (st' := [.int ((nI i) + (nI 1)), .ref 5001, .ref 271, .int a]) (I1 := K) 5 rfl ?_
  refine WP.cg (st' := [.int (nI (i + 1)), .ref 5001, .ref 271, .int a]) rfl (congrArg (fun z : Int32 => ([.int z, .ref 5001, .ref 271, .int a] : List Value)) (nI_add i 1)) rfl ?_
  refine WP.iscr rfl rfl (by omega) (by omega) ?_
  refine WP.callX (rest := [.int a]) rfl rfl (h2 K (hm.cg hr (fun o k q => hO o k (by unfold clP; omega)))) (fun v K2 hv => ?_)
  obtain ⟨rfl, hM, hO2⟩ := hv
  refine WP.run (pc' := if a = a then 1086 else 1071) (L' := [.ref 5001, .ref 0, .ref 271, .int (nI i)]) (st' := []) (I1 := K2) 1 rfl ?_
  refine WP.brT rfl ?_
  exact g K2 s' (hC.cg (fun o k q => hO2 o k (by unfold moP; omega))) hM h3
set_option maxRecDepth 100000 in
theorem law_33 {L i : Nat} {xs : Nat → Int32} {I : Pl} {s : St} {Q : Option Value → Pl → Prop} (hL : L ≤ 3072) (hi : i + 6 ≤ L) (h : RIC I s) (hm : RIM I s) (hr : RII s) (g : ∀ K s', RIC K s' → RIM K s' → RII s' → WP 12 (FCL L xs) 1086 [.ref 5001, .ref 0, .ref 271, .int (nI i)] [] K Q) : WP 12 (FCL L xs) 1073 [.ref 5001, .ref 0, .ref 271, .int (nI i)] [] I Q := by
  obtain ⟨a, s', h1, h2, h3⟩ := st_status h hr
  refine WP.run (pc' := 1074) (L' := [.ref 5001, .ref 0, .ref 271, .int (nI i)]) (st' := [.ref 0]) (I1 := I) 1 rfl ?_
  refine WP.callX (rest := []) rfl rfl h1 (fun v K hv => ?_)
  obtain ⟨rfl, hC, hO⟩ := hv
  refine WP.run (pc' := 1078) (L' := [.ref 5001, .ref 0, .ref 271, .int (nI i)]) (st' := [.ref 271, .int a]) (I1 := K) 1 rfl ?_
  refine WP.callX (rest := [.int a]) rfl rfl (h2 K (hm.cg hr (fun o k q => hO o k (by unfold clP; omega)))) (fun v K2 hv => ?_)
  obtain ⟨rfl, hM, hO2⟩ := hv
  refine WP.run (pc' := if a = a then 1086 else 1084) (L' := [.ref 5001, .ref 0, .ref 271, .int (nI i)]) (st' := []) (I1 := K2) 1 rfl ?_
  refine WP.brT rfl ?_
  exact g K2 s' (hC.cg (fun o k q => hO2 o k (by unfold moP; omega))) hM h3
set_option maxRecDepth 100000 in
theorem law_sw {L i : Nat} {xs : Nat → Int32} {I : Pl} {s : St} {Q : Option Value → Pl → Prop} (hL : L ≤ 3072) (hi : i + 6 ≤ L) (h : RIC I s) (hm : RIM I s) (hr : RII s) (g : ∀ K s', RIC K s' → RIM K s' → RII s' → WP 12 (FCL L xs) 1086 [.ref 5001, .ref 0, .ref 271, .int (nI i)] [] K Q) (v : Int32) : WP 12 (FCL L xs) 33 [.ref 5001, .ref 0, .ref 271, .int (nI i)] [.int v] I Q := by
  by_cases hw : inA v 34
  · obtain ⟨w1, hw1, rfl⟩ := inA_of hw (by decide)
    have hsw : w1 = 0 ∨ w1 = 1 ∨ w1 = 2 ∨ w1 = 3 ∨ w1 = 4 ∨ w1 = 5 ∨ w1 = 6 ∨ w1 = 7 ∨ w1 = 8 ∨ w1 = 9 ∨ w1 = 10 ∨ w1 = 11 ∨ w1 = 12 ∨ w1 = 13 ∨ w1 = 14 ∨ w1 = 15 ∨ w1 = 16 ∨ w1 = 17 ∨ w1 = 18 ∨ w1 = 19 ∨ w1 = 20 ∨ w1 = 21 ∨ w1 = 22 ∨ w1 = 23 ∨ w1 = 24 ∨ w1 = 25 ∨ w1 = 26 ∨ w1 = 27 ∨ w1 = 28 ∨ w1 = 29 ∨ w1 = 30 ∨ w1 = 31 ∨ w1 = 32 ∨ w1 = 33 := by omega
    rcases hsw with rfl | rfl | rfl | rfl | rfl | rfl | rfl | rfl | rfl | rfl | rfl | rfl | rfl | rfl | rfl | rfl | rfl | rfl | rfl | rfl | rfl | rfl | rfl | rfl | rfl | rfl | rfl | rfl | rfl | rfl | rfl | rfl | rfl | rfl
    · refine WP.run (pc' := 184) (L' := [.ref 5001, .ref 0, .ref 271, .int (nI i)]) (st' := []) (I1 := I) 1 rfl ?_
      exact law_0 hL hi h hm hr g
    · refine WP.run (pc' := 227) (L' := [.ref 5001, .ref 0, .ref 271, .int (nI i)]) (st' := []) (I1 := I) 1 rfl ?_
      exact law_1 hL hi h hm hr g
    · refine WP.run (pc' := 270) (L' := [.ref 5001, .ref 0, .ref 271, .int (nI i)]) (st' := []) (I1 := I) 1 rfl ?_
      exact law_2 hL hi h hm hr g
    · refine WP.run (pc' := 333) (L' := [.ref 5001, .ref 0, .ref 271, .int (nI i)]) (st' := []) (I1 := I) 1 rfl ?_
      exact law_3 hL hi h hm hr g
    · refine WP.run (pc' := 356) (L' := [.ref 5001, .ref 0, .ref 271, .int (nI i)]) (st' := []) (I1 := I) 1 rfl ?_
      exact law_4 hL hi h hm hr g
    · refine WP.run (pc' := 379) (L' := [.ref 5001, .ref 0, .ref 271, .int (nI i)]) (st' := []) (I1 := I) 1 rfl ?_
      exact law_5 hL hi h hm hr g
    · refine WP.run (pc' := 392) (L' := [.ref 5001, .ref 0, .ref 271, .int (nI i)]) (st' := []) (I1 := I) 1 rfl ?_
      exact law_6 hL hi h hm hr g
    · refine WP.run (pc' := 405) (L' := [.ref 5001, .ref 0, .ref 271, .int (nI i)]) (st' := []) (I1 := I) 1 rfl ?_
      exact law_7 hL hi h hm hr g
    · refine WP.run (pc' := 428) (L' := [.ref 5001, .ref 0, .ref 271, .int (nI i)]) (st' := []) (I1 := I) 1 rfl ?_
      exact law_8 hL hi h hm hr g
    · refine WP.run (pc' := 451) (L' := [.ref 5001, .ref 0, .ref 271, .int (nI i)]) (st' := []) (I1 := I) 1 rfl ?_
      exact law_9 hL hi h hm hr g
    · refine WP.run (pc' := 464) (L' := [.ref 5001, .ref 0, .ref 271, .int (nI i)]) (st' := []) (I1 := I) 1 rfl ?_
      exact law_10 hL hi h hm hr g
    · refine WP.run (pc' := 487) (L' := [.ref 5001, .ref 0, .ref 271, .int (nI i)]) (st' := []) (I1 := I) 1 rfl ?_
      exact law_11 hL hi h hm hr g
    · refine WP.run (pc' := 510) (L' := [.ref 5001, .ref 0, .ref 271, .int (nI i)]) (st' := []) (I1 := I) 1 rfl ?_
      exact law_12 hL hi h hm hr g
    · refine WP.run (pc' := 523) (L' := [.ref 5001, .ref 0, .ref 271, .int (nI i)]) (st' := []) (I1 := I) 1 rfl ?_
      exact law_13 hL hi h hm hr g
    · refine WP.run (pc' := 556) (L' := [.ref 5001, .ref 0, .ref 271, .int (nI i)]) (st' := []) (I1 := I) 1 rfl ?_
      exact law_14 hL hi h hm hr g
    · refine WP.run (pc' := 589) (L' := [.ref 5001, .ref 0, .ref 271, .int (nI i)]) (st' := []) (I1 := I) 1 rfl ?_
      exact law_15 hL hi h hm hr g
    · refine WP.run (pc' := 612) (L' := [.ref 5001, .ref 0, .ref 271, .int (nI i)]) (st' := []) (I1 := I) 1 rfl ?_
      exact law_16 hL hi h hm hr g
    · refine WP.run (pc' := 645) (L' := [.ref 5001, .ref 0, .ref 271, .int (nI i)]) (st' := []) (I1 := I) 1 rfl ?_
      exact law_17 hL hi h hm hr g
    · refine WP.run (pc' := 678) (L' := [.ref 5001, .ref 0, .ref 271, .int (nI i)]) (st' := []) (I1 := I) 1 rfl ?_
      exact law_18 hL hi h hm hr g
    · refine WP.run (pc' := 691) (L' := [.ref 5001, .ref 0, .ref 271, .int (nI i)]) (st' := []) (I1 := I) 1 rfl ?_
      exact law_19 hL hi h hm hr g
    · refine WP.run (pc' := 714) (L' := [.ref 5001, .ref 0, .ref 271, .int (nI i)]) (st' := []) (I1 := I) 1 rfl ?_
      exact law_20 hL hi h hm hr g
    · refine WP.run (pc' := 737) (L' := [.ref 5001, .ref 0, .ref 271, .int (nI i)]) (st' := []) (I1 := I) 1 rfl ?_
      exact law_21 hL hi h hm hr g
    · refine WP.run (pc' := 750) (L' := [.ref 5001, .ref 0, .ref 271, .int (nI i)]) (st' := []) (I1 := I) 1 rfl ?_
      exact law_22 hL hi h hm hr g
    · refine WP.run (pc' := 783) (L' := [.ref 5001, .ref 0, .ref 271, .int (nI i)]) (st' := []) (I1 := I) 1 rfl ?_
      exact law_23 hL hi h hm hr g
    · refine WP.run (pc' := 806) (L' := [.ref 5001, .ref 0, .ref 271, .int (nI i)]) (st' := []) (I1 := I) 1 rfl ?_
      exact law_24 hL hi h hm hr g
    · refine WP.run (pc' := 849) (L' := [.ref 5001, .ref 0, .ref 271, .int (nI i)]) (st' := []) (I1 := I) 1 rfl ?_
      exact law_25 hL hi h hm hr g
    · refine WP.run (pc' := 892) (L' := [.ref 5001, .ref 0, .ref 271, .int (nI i)]) (st' := []) (I1 := I) 1 rfl ?_
      exact law_26 hL hi h hm hr g
    · refine WP.run (pc' := 915) (L' := [.ref 5001, .ref 0, .ref 271, .int (nI i)]) (st' := []) (I1 := I) 1 rfl ?_
      exact law_27 hL hi h hm hr g
    · refine WP.run (pc' := 938) (L' := [.ref 5001, .ref 0, .ref 271, .int (nI i)]) (st' := []) (I1 := I) 1 rfl ?_
      exact law_28 hL hi h hm hr g
    · refine WP.run (pc' := 961) (L' := [.ref 5001, .ref 0, .ref 271, .int (nI i)]) (st' := []) (I1 := I) 1 rfl ?_
      exact law_29 hL hi h hm hr g
    · refine WP.run (pc' := 994) (L' := [.ref 5001, .ref 0, .ref 271, .int (nI i)]) (st' := []) (I1 := I) 1 rfl ?_
      exact law_30 hL hi h hm hr g
    · refine WP.run (pc' := 1027) (L' := [.ref 5001, .ref 0, .ref 271, .int (nI i)]) (st' := []) (I1 := I) 1 rfl ?_
      exact law_31 hL hi h hm hr g
    · refine WP.run (pc' := 1050) (L' := [.ref 5001, .ref 0, .ref 271, .int (nI i)]) (st' := []) (I1 := I) 1 rfl ?_
      exact law_32 hL hi h hm hr g
    · refine WP.run (pc' := 1073) (L' := [.ref 5001, .ref 0, .ref 271, .int (nI i)]) (st' := []) (I1 := I) 1 rfl ?_
      exact law_33 hL hi h hm hr g
  · refine WP.swD (pc' := 1086) rfl (notA hw) rfl ?_
    exact g I s h hm hr
set_option maxRecDepth 100000 in
theorem law_loop {L : Nat} {xs : Nat → Int32} (hL : L ≤ 3072) : ∀ (n i : Nat) (I : Pl) (s : St), L < i + 6 * n + 6 → i ≤ 3072 → RIC I s → RIM I s → RII s → WP 12 (FCL L xs) 18 [.ref 5001, .ref 0, .ref 271, .int (nI i)] [] I (fun v _ => v = some (.int (nI 1))) := by
  intro n
  induction n with
  | zero =>
    intro i I s hn hi h hm hr
    refine WP.run (pc' := if (nI L) - (nI 6) < (nI i) then 1092 else 27) (L' := [.ref 5001, .ref 0, .ref 271, .int (nI i)]) (st' := []) (I1 := I) 6 rfl ?_
    refine WP.brT ((lt_sub_ (by omega) (by omega) (by omega)).mpr (by omega)) ?_
    refine WP.run (pc' := 1093) (L' := [.ref 5001, .ref 0, .ref 271, .int (nI i)]) (st' := [.int (nI 1)]) (I1 := I) 1 rfl ?_
    exact WP.ret rfl rfl rfl
  | succ n ih =>
    intro i I s hn hi h hm hr
    refine WP.run (pc' := if (nI L) - (nI 6) < (nI i) then 1092 else 27) (L' := [.ref 5001, .ref 0, .ref 271, .int (nI i)]) (st' := []) (I1 := I) 6 rfl ?_
    refine WP.br (fun h1 => ?_) (fun h1 => ?_)
    · refine WP.run (pc' := 1093) (L' := [.ref 5001, .ref 0, .ref 271, .int (nI i)]) (st' := [.int (nI 1)]) (I1 := I) 1 rfl ?_
      exact WP.ret rfl rfl rfl
    · have h1 : ¬ (L < i + 6) := fun q => h1 ((lt_sub_ (by omega) (by omega) (by omega)).mpr q)
      refine WP.run (pc' := 29) (L' := [.ref 5001, .ref 0, .ref 271, .int (nI i)]) (st' := [.int (nI i), .ref 5001]) (I1 := I) 2 rfl ?_
      refine WP.iscr rfl rfl (by omega) (by omega) ?_
      refine WP.run (pc' := 33) (L' := [.ref 5001, .ref 0, .ref 271, .int (nI i)]) (st' := [.int ((xs i) &&& (nI 63))]) (I1 := I) 2 rfl ?_
      refine law_sw hL (by omega) h hm hr (fun K s' hC hM hI => ?_) _
      refine WP.run (pc' := 18) (L' := [.ref 5001, .ref 0, .ref 271, .int ((nI i) + (nI 6))]) (st' := []) (I1 := K) 2 rfl ?_
      refine WP.cg (L' := [.ref 5001, .ref 0, .ref 271, .int (nI (i + 6))]) (congrArg (fun z : Int32 => ([.ref 5001, .ref 0, .ref 271, .int z] : List Value)) (nI_add i 6)) rfl rfl ?_
      exact ih (i + 6) K s' (by omega) (by omega) hC hM hI
theorem law_run (L : Nat) (xs : Nat → Int32) (hL : L ≤ 3072) : LawRun L xs := by
  have h : WP 12 (FCL L xs) 16 [.ref 5001, .ref 0, .ref 271, UU] [] II0 (fun v _ => v = some (.int (nI 1))) := by
    refine WP.run (pc' := 18) (L' := [.ref 5001, .ref 0, .ref 271, .int (nI 0)]) (st' := []) (I1 := II0) 2 rfl ?_
    exact law_loop hL 600 0 II0 st0 (by omega) (by omega) st0_C st0_M st0_I
  obtain ⟨r, I', ⟨n, g⟩, rfl⟩ := h
  exact ⟨12, n, mem I', by decide, by show NN ≤ 4400; decide, by show SS ≤ 100000; decide, g⟩
