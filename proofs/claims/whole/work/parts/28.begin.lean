/-! an act begins, all begins anew -/
def keepN (I : Pl) (o m : Nat) : Pl := if m < 24 then upN (becN I (33 + 8 * ((o + m) % 24)) 247) 31 2 (nI (m + 1)) else upN (becN I (33 + 8 * ((o + m) % 24)) 247) 31 1 (nI ((o + 1) % 24))
def forgN (I : Pl) : Pl := fgN (upN I 225 8 (nI 0)) 4
def anewN (I : Pl) : Pl := forgN (upN (upN I 31 1 (nI 0)) 31 2 (nI 0))
set_option maxRecDepth 100000 in
theorem sp_beginAct {d : Nat} {I : Pl} {o m : Nat} (ho : I 31 1 = nI o) (hm : I 31 2 = nI m) (ho1 : o < 24) (hm1 : m ≤ 24) (hb : I 247 0 = 0 ∨ I 247 0 = 1) : Ev (d + 3) 90 [.ref 0] (mem I) (none) (mem (forgN (keepN I o m))) := by
  refine Ev.only (EvX.enter rfl rfl rfl ?_)
  refine WP.run (pc' := 8) (L' := [.ref 0]) (st' := [.ref 247, .ref 31]) (I1 := I) 4 rfl ?_
  refine WP.callV (rest := []) rfl rfl (sp_keep (d := d) (o := o) (m := m) ho hm ho1 hm1 hb) ?_
  refine WP.run (pc' := 15) (L' := [.ref 0]) (st' := [.ref 225]) (I1 := (keepN I o m)) 2 rfl ?_
  refine WP.callV (rest := []) rfl rfl (sp_forget (d := d + 1) (I := (keepN I o m))) ?_
  exact WP.ret rfl rfl (⟨rfl, rfl⟩)
set_option maxRecDepth 100000 in
theorem sp_beginAnew {d : Nat} {I : Pl}  : Ev (d + 2) 87 [.ref 0] (mem I) (none) (mem (anewN I)) := by
  refine Ev.only (EvX.enter rfl rfl rfl ?_)
  refine WP.run (pc' := 4) (L' := [.ref 0]) (st' := [.ref 31]) (I1 := I) 2 rfl ?_
  refine WP.callV (rest := []) rfl rfl (sp_actsForget (d := d) (I := I)) ?_
  refine WP.run (pc' := 11) (L' := [.ref 0]) (st' := [.ref 225]) (I1 := (upN (upN I 31 1 (nI 0)) 31 2 (nI 0))) 2 rfl ?_
  refine WP.callV (rest := []) rfl rfl (sp_forget (d := d) (I := (upN (upN I 31 1 (nI 0)) 31 2 (nI 0)))) ?_
  exact WP.ret rfl rfl (⟨rfl, rfl⟩)
