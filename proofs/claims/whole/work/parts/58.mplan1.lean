/-! the reference's plans -/
theorem pm1 {a : Nat} : nI (a + 1) + -1 = nI a := by
  rw [← nI_add, Int32.add_assoc]
  rw [show nI 1 + -1 = 0 from rfl, Int32.add_zero]
theorem sm1 {a : Nat} : nI a - nI 1 + nI 1 = nI a := Int32.sub_add_cancel _ _
def rowP (day o k : Nat) : Prop := o = 279 ∧ 6 * day ≤ k ∧ k < 6 * day + 6
/-- worn, row by row -/
def kwN (I : Pl) (day : Nat) : Nat → Pl
  | 0 => I
  | k + 1 => upN (kwN I day k) 279 (6 * day + k) (kwN I day k 272 (21 + k))
def pbN (I : Pl) (day : Nat) : Nat → Pl
  | 0 => I
  | k + 1 => upN (pbN I day k) 272 (21 + k) (pbN I day k 279 (6 * day + k))
theorem kwN_o {I : Pl} {day : Nat} : ∀ k o x, ¬ (o = 279 ∧ 6 * day ≤ x ∧ x < 6 * day + k) → kwN I day k o x = I o x := by
  intro k
  induction k with
  | zero => intro o x _; rfl
  | succ k ih =>
    intro o x h
    unfold kwN
    rw [upN_ne2 (by omega), ih o x (by omega)]
theorem kwN_v {I : Pl} {day : Nat} : ∀ k x, x < k → kwN I day k 279 (6 * day + x) = I 272 (21 + x) := by
  intro k
  induction k with
  | zero => intro x h; omega
  | succ k ih =>
    intro x h
    unfold kwN
    by_cases q : x = k
    · subst q
      rw [upN_s, kwN_o _ _ _ (by omega)]
    · rw [upN_nk (by omega), ih x (by omega)]
theorem pbN_o {I : Pl} {day : Nat} : ∀ k o x, ¬ (o = 272 ∧ 21 ≤ x ∧ x < 21 + k) → pbN I day k o x = I o x := by
  intro k
  induction k with
  | zero => intro o x _; rfl
  | succ k ih =>
    intro o x h
    unfold pbN
    rw [upN_ne2 (by omega), ih o x (by omega)]
theorem pbN_v {I : Pl} {day : Nat} : ∀ k x, x < k → pbN I day k 272 (21 + x) = I 279 (6 * day + x) := by
  intro k
  induction k with
  | zero => intro x h; omega
  | succ k ih =>
    intro x h
    unfold pbN
    by_cases q : x = k
    · subst q
      rw [upN_s, pbN_o _ _ _ (by omega)]
    · rw [upN_nk (by omega), ih x (by omega)]
def wmP (X N : Nat → Nat) : Nat → Nat
  | 0 => 0
  | k + 1 => wmP X N k + (X (21 + k) - N (21 + k))
theorem wmP_e {X N : Nat → Nat} (hle : ∀ k, k < 6 → N (21 + k) ≤ X (21 + k)) : wmP X N 6 = sumW X - sumW N := by
  have h0 := hle 0 (by decide)
  have h1 := hle 1 (by decide)
  have h2 := hle 2 (by decide)
  have h3 := hle 3 (by decide)
  have h4 := hle 4 (by decide)
  have h5 := hle 5 (by decide)
  simp only [Nat.reduceAdd] at h0 h1 h2 h3 h4 h5
  show 0 + (X 21 - N 21) + (X 22 - N 22) + (X 23 - N 23) + (X 24 - N 24) + (X 25 - N 25) + (X 26 - N 26) = _
  unfold sumW
  omega
set_option maxRecDepth 100000 in
theorem lm_keeps {d : Nat} {I : Pl} {day : Nat} (hday : day < 3) : ∀ k, k ≤ 6 → WP d (173, 7, none, sc0) 2 [.ref 271, .int (nI day), .int (nI k)] [] (kwN I day k) (fun v J => v = none ∧ J = (kwN I day 6)) := by
  refine loopUp (fun k hk ih => ?_)
  refine WP.run (pc' := if (nI 6) ≤ (nI k) then 34 else 8) (L' := [.ref 271, .int (nI day), .int (nI k)]) (st' := []) (I1 := (kwN I day k)) 3 rfl ?_
  refine WP.br (fun h1 => ?_) (fun h1 => ?_)
  · have h1 : 6 ≤ k := nI_le_ (by omega) (by omega) h1
    exact WP.ret rfl rfl (⟨rfl, by rw [show 6 = k by omega]⟩)
  · have h1 : ¬ 6 ≤ k := fun q => h1 (nI_le_r (by omega) q)
    refine WP.run (pc' := 16) (L' := [.ref 271, .int (nI day), .int (nI k)]) (st' := [.int ((nI 6) * (nI day)), .ref 279]) (I1 := (kwN I day k)) 5 rfl ?_
    refine WP.cg (st' := [.int (nI (6 * day)), .ref 279]) rfl (congrArg (fun z : Int32 => (.int z :: [.ref 279] : List Value)) (pk_mul 6 day)) rfl ?_
    refine WP.run (pc' := 18) (L' := [.ref 271, .int (nI day), .int (nI k)]) (st' := [.int ((nI (6 * day)) + (nI k)), .ref 279]) (I1 := (kwN I day k)) 2 rfl ?_
    refine WP.cg (st' := [.int (nI ((6 * day) + k)), .ref 279]) rfl (congrArg (fun z : Int32 => (.int z :: [.ref 279] : List Value)) (nI_add (6 * day) k)) rfl ?_
    refine WP.run (pc' := 26) (L' := [.ref 271, .int (nI day), .int (nI k)]) (st' := [.int ((nI 21) + (nI k)), .ref 272, .int (nI ((6 * day) + k)), .ref 279]) (I1 := (kwN I day k)) 5 rfl ?_
    refine WP.cg (st' := [.int (nI (21 + k)), .ref 272, .int (nI ((6 * day) + k)), .ref 279]) rfl (congrArg (fun z : Int32 => (.int z :: [.ref 272, .int (nI ((6 * day) + k)), .ref 279] : List Value)) (nI_add 21 k)) rfl ?_
    refine WP.iald rfl rfl rfl (by omega) (by decide) ?_
    refine WP.iast rfl rfl rfl (by omega) (by decide) ?_
    refine WP.run (pc' := 31) (L' := [.ref 271, .int (nI day), .int ((nI k) + nI 1)]) (st' := []) (I1 := (upN (kwN I day k) 279 ((6 * day) + k) ((kwN I day k) 272 (21 + k)))) 1 rfl ?_
    refine WP.cg (L' := [.ref 271, .int (nI day), .int (nI (k + 1))]) (congrArg (fun z : Int32 => ([.ref 271, .int (nI day), .int z] : List Value)) (nI_add k 1)) rfl rfl ?_
    refine WP.run (pc' := 2) (L' := [.ref 271, .int (nI day), .int (nI (k + 1))]) (st' := []) (I1 := (upN (kwN I day k) 279 ((6 * day) + k) ((kwN I day k) 272 (21 + k)))) 1 rfl ?_
    refine WP.cg (L' := [.ref 271, .int (nI day), .int (nI (k + 1))]) rfl rfl rfl (ih (by omega))
set_option maxRecDepth 100000 in
theorem ms_keeps {d : Nat} {I : Pl} {day : Nat} (hday : day < 3) : Ev (d + 1) 173 [.ref 271, .int (nI day)] (mem I) (none) (mem (kwN I day 6)) := by
  refine Ev.only (EvX.enter rfl rfl rfl ?_)
  refine WP.run (pc' := 2) (L' := [.ref 271, .int (nI day), .int (nI 0)]) (st' := []) (I1 := I) 2 rfl ?_
  exact lm_keeps hday 0 (Nat.zero_le _)
set_option maxRecDepth 100000 in
theorem lm_puts {d : Nat} {I : Pl} {day : Nat} (hday : day < 3) : ∀ k, k ≤ 6 → WP d (174, 7, none, sc0) 2 [.ref 271, .int (nI day), .int (nI k)] [] (pbN I day k) (fun v J => v = none ∧ J = (pbN I day 6)) := by
  refine loopUp (fun k hk ih => ?_)
  refine WP.run (pc' := if (nI 6) ≤ (nI k) then 34 else 8) (L' := [.ref 271, .int (nI day), .int (nI k)]) (st' := []) (I1 := (pbN I day k)) 3 rfl ?_
  refine WP.br (fun h1 => ?_) (fun h1 => ?_)
  · have h1 : 6 ≤ k := nI_le_ (by omega) (by omega) h1
    exact WP.ret rfl rfl (⟨rfl, by rw [show 6 = k by omega]⟩)
  · have h1 : ¬ 6 ≤ k := fun q => h1 (nI_le_r (by omega) q)
    refine WP.run (pc' := 16) (L' := [.ref 271, .int (nI day), .int (nI k)]) (st' := [.int ((nI 21) + (nI k)), .ref 272]) (I1 := (pbN I day k)) 5 rfl ?_
    refine WP.cg (st' := [.int (nI (21 + k)), .ref 272]) rfl (congrArg (fun z : Int32 => (.int z :: [.ref 272] : List Value)) (nI_add 21 k)) rfl ?_
    refine WP.run (pc' := 24) (L' := [.ref 271, .int (nI day), .int (nI k)]) (st' := [.int ((nI 6) * (nI day)), .ref 279, .int (nI (21 + k)), .ref 272]) (I1 := (pbN I day k)) 5 rfl ?_
    refine WP.cg (st' := [.int (nI (6 * day)), .ref 279, .int (nI (21 + k)), .ref 272]) rfl (congrArg (fun z : Int32 => (.int z :: [.ref 279, .int (nI (21 + k)), .ref 272] : List Value)) (pk_mul 6 day)) rfl ?_
    refine WP.run (pc' := 26) (L' := [.ref 271, .int (nI day), .int (nI k)]) (st' := [.int ((nI (6 * day)) + (nI k)), .ref 279, .int (nI (21 + k)), .ref 272]) (I1 := (pbN I day k)) 2 rfl ?_
    refine WP.cg (st' := [.int (nI ((6 * day) + k)), .ref 279, .int (nI (21 + k)), .ref 272]) rfl (congrArg (fun z : Int32 => (.int z :: [.ref 279, .int (nI (21 + k)), .ref 272] : List Value)) (nI_add (6 * day) k)) rfl ?_
    refine WP.iald rfl rfl rfl (by omega) (by decide) ?_
    refine WP.iast rfl rfl rfl (by omega) (by decide) ?_
    refine WP.run (pc' := 31) (L' := [.ref 271, .int (nI day), .int ((nI k) + nI 1)]) (st' := []) (I1 := (upN (pbN I day k) 272 (21 + k) ((pbN I day k) 279 ((6 * day) + k)))) 1 rfl ?_
    refine WP.cg (L' := [.ref 271, .int (nI day), .int (nI (k + 1))]) (congrArg (fun z : Int32 => ([.ref 271, .int (nI day), .int z] : List Value)) (nI_add k 1)) rfl rfl ?_
    refine WP.run (pc' := 2) (L' := [.ref 271, .int (nI day), .int (nI (k + 1))]) (st' := []) (I1 := (upN (pbN I day k) 272 (21 + k) ((pbN I day k) 279 ((6 * day) + k)))) 1 rfl ?_
    refine WP.cg (L' := [.ref 271, .int (nI day), .int (nI (k + 1))]) rfl rfl rfl (ih (by omega))
set_option maxRecDepth 100000 in
theorem ms_puts {d : Nat} {I : Pl} {day : Nat} (hday : day < 3) : Ev (d + 1) 174 [.ref 271, .int (nI day)] (mem I) (none) (mem (pbN I day 6)) := by
  refine Ev.only (EvX.enter rfl rfl rfl ?_)
  refine WP.run (pc' := 2) (L' := [.ref 271, .int (nI day), .int (nI 0)]) (st' := []) (I1 := I) 2 rfl ?_
  exact lm_puts hday 0 (Nat.zero_le _)
set_option maxRecDepth 100000 in
theorem lm_wornMore {d : Nat} {I : Pl} {N X : Nat → Nat} (hM : T0 I X) (hX : TI X) (hle : ∀ k, k < 6 → N (21 + k) ≤ X (21 + k)) (hA : ∀ k, k < 6 → I 279 k = nI (N (21 + k))) : ∀ k, k ≤ 6 → WP d (176, 7, (some .int), sc0) 4 [.ref 271, .int (nI (wmP X N k)), .int (nI k)] [] I (fun v J => v = some (.int (nI (sumW X - sumW N))) ∧ J = I) := by
  refine loopUp (fun k hk ih => ?_)
  have hq : k < 6 → N (21 + k) ≤ X (21 + k) ∧ X (21 + k) ≤ 198 := fun q => ⟨hle k q, (hX.2.2.2.2.2.2.2.2.2.1 k q).2.2⟩
  refine WP.run (pc' := if (nI 6) ≤ (nI k) then 35 else 10) (L' := [.ref 271, .int (nI (wmP X N k)), .int (nI k)]) (st' := []) (I1 := I) 3 rfl ?_
  refine WP.br (fun h1 => ?_) (fun h1 => ?_)
  · have h1 : 6 ≤ k := nI_le_ (by omega) (by omega) h1
    refine WP.run (pc' := 36) (L' := [.ref 271, .int (nI (wmP X N k)), .int (nI k)]) (st' := [.int (nI (wmP X N k))]) (I1 := I) 1 rfl ?_
    exact WP.ret rfl rfl (⟨by rw [← wmP_e hle, show 6 = k by omega], rfl⟩)
  · have h1 : ¬ 6 ≤ k := fun q => h1 (nI_le_r (by omega) q)
    refine WP.run (pc' := 19) (L' := [.ref 271, .int (nI (wmP X N k)), .int (nI k)]) (st' := [.int ((nI 21) + (nI k)), .ref 272, .int (nI (wmP X N k))]) (I1 := I) 6 rfl ?_
    refine WP.cg (st' := [.int (nI (21 + k)), .ref 272, .int (nI (wmP X N k))]) rfl (congrArg (fun z : Int32 => (.int z :: [.ref 272, .int (nI (wmP X N k))] : List Value)) (nI_add 21 k)) rfl ?_
    refine WP.iald rfl rfl rfl (by omega) (by decide) ?_
    refine WP.cg (st' := [.int (nI (X (21 + k))), .int (nI (wmP X N k))]) rfl (congrArg (fun z : Int32 => (.int z :: [.int (nI (wmP X N k))] : List Value)) (hM (21 + k) (by omega))) rfl ?_
    refine WP.run (pc' := 25) (L' := [.ref 271, .int (nI (wmP X N k)), .int (nI k)]) (st' := [.int (nI k), .ref 279, .int (nI (X (21 + k))), .int (nI (wmP X N k))]) (I1 := I) 3 rfl ?_
    refine WP.iald rfl rfl rfl (by omega) (by decide) ?_
    refine WP.cg (st' := [.int (nI (N (21 + k))), .int (nI (X (21 + k))), .int (nI (wmP X N k))]) rfl (congrArg (fun z : Int32 => (.int z :: [.int (nI (X (21 + k))), .int (nI (wmP X N k))] : List Value)) (hA k (by omega))) rfl ?_
    refine WP.run (pc' := 27) (L' := [.ref 271, .int (nI (wmP X N k)), .int (nI k)]) (st' := [.int ((nI (X (21 + k))) - (nI (N (21 + k)))), .int (nI (wmP X N k))]) (I1 := I) 1 rfl ?_
    refine WP.cg (st' := [.int (nI ((X (21 + k)) - (N (21 + k)))), .int (nI (wmP X N k))]) rfl (congrArg (fun z : Int32 => (.int z :: [.int (nI (wmP X N k))] : List Value)) (pk_sub (a := X (21 + k)) (b := N (21 + k)) (by omega))) rfl ?_
    refine WP.run (pc' := 28) (L' := [.ref 271, .int (nI (wmP X N k)), .int (nI k)]) (st' := [.int ((nI (wmP X N k)) + (nI ((X (21 + k)) - (N (21 + k)))))]) (I1 := I) 1 rfl ?_
    refine WP.cg (st' := [.int (nI ((wmP X N k) + ((X (21 + k)) - (N (21 + k)))))]) rfl (congrArg (fun z : Int32 => (.int z :: [] : List Value)) (nI_add (wmP X N k) ((X (21 + k)) - (N (21 + k))))) rfl ?_
    refine WP.run (pc' := 32) (L' := [.ref 271, .int (nI ((wmP X N k) + ((X (21 + k)) - (N (21 + k))))), .int ((nI k) + nI 1)]) (st' := []) (I1 := I) 2 rfl ?_
    refine WP.cg (L' := [.ref 271, .int (nI ((wmP X N k) + ((X (21 + k)) - (N (21 + k))))), .int (nI (k + 1))]) (congrArg (fun z : Int32 => ([.ref 271, .int (nI ((wmP X N k) + ((X (21 + k)) - (N (21 + k))))), .int z] : List Value)) (nI_add k 1)) rfl rfl ?_
    refine WP.run (pc' := 4) (L' := [.ref 271, .int (nI ((wmP X N k) + ((X (21 + k)) - (N (21 + k))))), .int (nI (k + 1))]) (st' := []) (I1 := I) 1 rfl ?_
    refine WP.cg (L' := [.ref 271, .int (nI (wmP X N (k + 1))), .int (nI (k + 1))]) rfl rfl rfl (ih (by omega))
set_option maxRecDepth 100000 in
theorem ms_wornMore {d : Nat} {I : Pl} {N X : Nat → Nat} (hM : T0 I X) (hX : TI X) (hle : ∀ k, k < 6 → N (21 + k) ≤ X (21 + k)) (hA : ∀ k, k < 6 → I 279 k = nI (N (21 + k))) : Ev (d + 1) 176 [.ref 271] (mem I) (some (.int (nI (sumW X - sumW N)))) (mem I) := by
  refine Ev.only (EvX.enter rfl rfl rfl ?_)
  refine WP.run (pc' := 4) (L' := [.ref 271, .int (nI 0), .int (nI 0)]) (st' := []) (I1 := I) 4 rfl ?_
  exact lm_wornMore hM hX hle hA 0 (Nat.zero_le _)
set_option maxRecDepth 100000 in
theorem lm_climbAll {d : Nat} {I : Pl} {X : Nat → Nat} {due m : Nat} (hX : TI X) (hm : m < 64) (hdu : due < 32) : ∀ c, c ≤ X 3 → (clA X due m c).2 = true → ∀ J, T0 J (clA X due m c).1 → Only I J wP → WP (d + 3) (172, 7, (some .boolean), sc0) 2 [.ref 271, .int (nI due), .int (nI m), .int (nI c)] [] J (fun v K => v = some (.int (b2i ((clA X due m (X 3)).2 = true))) ∧ ((clA X due m (X 3)).2 = true → T0 K (clA X due m (X 3)).1) ∧ Only I K wP) := by
  refine loopUp (fun c hc ih => ?_)
  intro hok J hJ hO
  have hX3 : X 3 ≤ 5 := hX.2.2.2.1
  obtain ⟨y1, y2, y3⟩ := clA_I (due := due) hX hm c hc
  have e3 : (clA X due m c).1 3 = X 3 := y2 3 (by omega)
  have hbl := bitN_lt due c
  have hwt : c < X 3 → 1 ≤ (clA X due m c).1 (27 + c) ∧ (clA X due m c).1 (27 + c) ≤ 99 := fun q => ⟨(y1.2.2.2.2.2.2.2.2.2.2.2.2.1 c (by omega)).1, (y1.2.2.2.2.2.2.2.2.2.2.1 c (by omega)).1⟩
  refine WP.run (pc' := 8) (L' := [.ref 271, .int (nI due), .int (nI m), .int (nI c)]) (st' := [.int (nI 3), .ref 272, .int (nI c)]) (I1 := J) 4 rfl ?_
  refine WP.iald rfl rfl rfl (by omega) (by decide) ?_
  refine WP.cg (st' := [.int (nI (X 3)), .int (nI c)]) rfl (congrArg (fun z : Int32 => (.int z :: [.int (nI c)] : List Value)) ((hJ 3 (by omega)).trans (congrArg nI e3))) rfl ?_
  refine WP.run (pc' := if (nI (X 3)) ≤ (nI c) then 56 else 12) (L' := [.ref 271, .int (nI due), .int (nI m), .int (nI c)]) (st' := []) (I1 := J) 1 rfl ?_
  refine WP.br (fun h1 => ?_) (fun h1 => ?_)
  · have h1 : X 3 ≤ c := nI_le_ (by omega) (by omega) h1
    refine WP.run (pc' := 57) (L' := [.ref 271, .int (nI due), .int (nI m), .int (nI c)]) (st' := [.int (nI 1)]) (I1 := J) 1 rfl ?_
    exact WP.ret rfl rfl (by
          have hcN : X 3 = c := by omega
          rw [hcN]
          exact ⟨congrArg (fun z : Int32 => some (Value.int z)) (b2iT hok).symm, fun _ => hJ, hO⟩)
  · have h1 : ¬ X 3 ≤ c := fun q => h1 (nI_le_r (by omega) q)
    refine WP.run (pc' := 14) (L' := [.ref 271, .int (nI due), .int (nI m), .int (nI c)]) (st' := [.int (nI c), .int (nI due)]) (I1 := J) 2 rfl ?_
    refine WP.callB (rest := []) rfl rfl (ms_has (d := d + 2) (m := due) (k := c) (by omega) (by omega)) (fun h2 => ?_) (fun h2 => ?_)
    · refine WP.run (pc' := 29) (L' := [.ref 271, .int (nI due), .int (nI m), .int (nI c)]) (st' := [.int ((nI 27) + (nI c)), .ref 272, .ref 271]) (I1 := J) 7 rfl ?_
      refine WP.cg (st' := [.int (nI (27 + c)), .ref 272, .ref 271]) rfl (congrArg (fun z : Int32 => (.int z :: [.ref 272, .ref 271] : List Value)) (nI_add 27 c)) rfl ?_
      refine WP.iald rfl rfl rfl (by omega) (by decide) ?_
      refine WP.cg (st' := [.int (nI ((clA X due m c).1 (27 + c))), .ref 271]) rfl (congrArg (fun z : Int32 => (.int z :: [.ref 271] : List Value)) (hJ (27 + c) (by omega))) rfl ?_
      refine WP.run (pc' := 31) (L' := [.ref 271, .int (nI due), .int (nI m), .int (nI c)]) (st' := [.int (nI m), .int (nI ((clA X due m c).1 (27 + c))), .ref 271]) (I1 := J) 1 rfl ?_
      refine WP.callB (rest := []) rfl rfl (ms_isBorne (d := d) (w := (clA X due m c).1 (27 + c)) (m := m) hJ y1 (by omega) hm) (fun h3 => ?_) (fun h3 => ?_)
      · refine WP.run (pc' := 39) (L' := [.ref 271, .int (nI due), .int (nI m), .int (nI c)]) (st' := []) (I1 := J) 1 rfl ?_
        have hb : bornN (clA X due m c).1 ((clA X due m c).1 (27 + c)) m = true := by assumption
        have hm0 : ¬ m = 0 := fun q => bornF1 q hb
        have hbk : brkN (clA X due m c).1 m (shA (clA X due m c).1 m c) = 0 := by
          by_cases q : brkN (clA X due m c).1 m (shA (clA X due m c).1 m c) = 0
          · exact q
          · exact absurd hb (bornF2 q)
        have hs1 : 1 ≤ shA (clA X due m c).1 m c := shareN_pos hm hm0 (pullN_pos (hwt (by omega)).1)
        have hy := clA_y hok (by assumption) hb
        refine WP.run (pc' := 44) (L' := [.ref 271, .int (nI due), .int (nI m), .int (nI c)]) (st' := [.int (nI m), .int (nI c), .ref 271, .int (nI m), .ref 271]) (I1 := J) 5 rfl ?_
        refine WP.callV (rest := [.int (nI m), .ref 271]) rfl rfl (ms_strainOf (d := d) (c := c) (m := m) hJ y1 (by omega) hm) ?_
        refine WP.callX (rest := []) rfl rfl (ms_wears (d := d + 1) (I := J) (m := m) (sh := shA (clA X due m c).1 m c) hJ Only.rfl_ y1 hm (by have := shareN_le (p := pullN (clA X due m c).1 ((clA X due m c).1 (27 + c))) (m := m); have h9 := pullN_le (N := (clA X due m c).1) (hwt (by omega)).2; unfold shA; omega) (wear_ok2 y1 hs1 hbk)) (fun v J2 hv => ?_)
        obtain ⟨rfl, hT2, hO2⟩ := hv
        refine WP.run (pc' := 53) (L' := [.ref 271, .int (nI due), .int (nI m), .int ((nI c) + nI 1)]) (st' := []) (I1 := J2) 1 rfl ?_
        refine WP.cg (L' := [.ref 271, .int (nI due), .int (nI m), .int (nI (c + 1))]) (congrArg (fun z : Int32 => ([.ref 271, .int (nI due), .int (nI m), .int z] : List Value)) (nI_add c 1)) rfl rfl ?_
        refine WP.run (pc' := 2) (L' := [.ref 271, .int (nI due), .int (nI m), .int (nI (c + 1))]) (st' := []) (I1 := J2) 1 rfl ?_
        refine WP.cg (L' := [.ref 271, .int (nI due), .int (nI m), .int (nI (c + 1))]) rfl rfl rfl (ih (by omega) (by rw [hy]) J2 (by rw [hy]; exact hT2) (hO.tr hO2))
      · refine WP.run (pc' := 38) (L' := [.ref 271, .int (nI due), .int (nI m), .int (nI c)]) (st' := [.int (nI 0)]) (I1 := J) 2 rfl ?_
        exact WP.ret rfl rfl (by
                  have hf := clA_stay (clA_f hok (by assumption) (by assumption)) (X 3 - (c + 1))
                  rw [show c + 1 + (X 3 - (c + 1)) = X 3 by omega] at hf
                  exact ⟨congrArg (fun z : Int32 => some (Value.int z)) (b2iF (by rw [hf]; decide)).symm, (fun q => by rw [hf] at q; cases q), hO⟩)
    · refine WP.run (pc' := 53) (L' := [.ref 271, .int (nI due), .int (nI m), .int ((nI c) + nI 1)]) (st' := []) (I1 := J) 2 rfl ?_
      refine WP.cg (L' := [.ref 271, .int (nI due), .int (nI m), .int (nI (c + 1))]) (congrArg (fun z : Int32 => ([.ref 271, .int (nI due), .int (nI m), .int z] : List Value)) (nI_add c 1)) rfl rfl ?_
      refine WP.run (pc' := 2) (L' := [.ref 271, .int (nI due), .int (nI m), .int (nI (c + 1))]) (st' := []) (I1 := J) 1 rfl ?_
      have hn := clA_n hok (by assumption)
      refine WP.cg (L' := [.ref 271, .int (nI due), .int (nI m), .int (nI (c + 1))]) rfl rfl rfl (ih (by omega) (by rw [hn]; exact hok) J (by rw [hn]; exact hJ) hO)
set_option maxRecDepth 100000 in
theorem ms_climbAll {d : Nat} {I : Pl} {X : Nat → Nat} {due m : Nat} (hX : TI X) (hm : m < 64) (hdu : due < 32) (hM : T0 I X) : EvX (d + 4) 172 [.ref 271, .int (nI due), .int (nI m)] I (fun v K => v = some (.int (b2i ((clA X due m (X 3)).2 = true))) ∧ ((clA X due m (X 3)).2 = true → T0 K (clA X due m (X 3)).1) ∧ Only I K wP) := by
  refine EvX.enter rfl rfl rfl ?_
  refine WP.run (pc' := 2) (L' := [.ref 271, .int (nI due), .int (nI m), .int (nI 0)]) (st' := []) (I1 := I) 2 rfl ?_
  exact lm_climbAll hX hm hdu 0 (Nat.zero_le _) rfl I hM Only.rfl_
set_option maxRecDepth 100000 in
theorem ms_goesDay {d : Nat} {I : Pl} {X : Nat → Nat} {day m : Nat} (hM : T0 I X) (hX : TI X) (hday : day < 3) (hm : m < 64) (hS : I 280 day = nI m) : EvX (d + 5) 175 [.ref 271, .int (nI day)] I (fun v K => v = some (.int (b2i ((gd X day m).2 = true))) ∧ ((gd X day m).2 = true → T0 K (gd X day m).1) ∧ Only I K wP) := by
  obtain ⟨b0, b1, b2, b3, b4, b5, b6, b7, b8, bS, bC, bS1, bC1, bZ, bG⟩ := id hX
  obtain ⟨s6, s7, s64⟩ := hX.set64
  have hdl := dueN_lt (n := X 4 + day) hX
  have hand := Nat.and_le_left (n := m) (m := X 7)
  refine EvX.enter rfl rfl rfl ?_
  refine WP.run (pc' := 5) (L' := [.ref 271, .int (nI day), UU, UU, UU]) (st' := [.int (nI day), .ref 280]) (I1 := I) 3 rfl ?_
  refine WP.iald rfl rfl rfl (by omega) (by decide) ?_
  refine WP.cg (st' := [.int (nI m)]) rfl (congrArg (fun z : Int32 => (.int z :: [] : List Value)) (hS)) rfl ?_
  refine WP.run (pc' := 13) (L' := [.ref 271, .int (nI day), .int (nI m), UU, UU]) (st' := [.int (nI 4), .ref 272, .ref 271]) (I1 := I) 5 rfl ?_
  refine WP.iald rfl rfl rfl (by omega) (by decide) ?_
  refine WP.cg (st' := [.int (nI (X 4)), .ref 271]) rfl (congrArg (fun z : Int32 => (.int z :: [.ref 271] : List Value)) (hM 4 (by omega))) rfl ?_
  refine WP.run (pc' := 16) (L' := [.ref 271, .int (nI day), .int (nI m), UU, UU]) (st' := [.int ((nI (X 4)) + (nI day)), .ref 271]) (I1 := I) 2 rfl ?_
  refine WP.cg (st' := [.int (nI ((X 4) + day)), .ref 271]) rfl (congrArg (fun z : Int32 => (.int z :: [.ref 271] : List Value)) (nI_add (X 4) day)) rfl ?_
  refine WP.callV (rest := []) rfl rfl (ms_dueOn (d := d + 3) (n := (X 4) + day) hM hX (by omega)) ?_
  refine WP.run (pc' := 25) (L' := [.ref 271, .int (nI day), .int (nI m), .int (nI (dueN X (X 4 + day))), UU]) (st' := [.int (nI 1), .ref 272]) (I1 := I) 4 rfl ?_
  refine WP.iald rfl rfl rfl (by omega) (by decide) ?_
  refine WP.cg (st' := [.int (nI (X 1))]) rfl (congrArg (fun z : Int32 => (.int z :: [] : List Value)) (hM 1 (by omega))) rfl ?_
  refine WP.run (pc' := 28) (L' := [.ref 271, .int (nI day), .int (nI m), .int (nI (dueN X (X 4 + day))), UU]) (st' := [.int ((nI (X 1)) + (nI day))]) (I1 := I) 2 rfl ?_
  refine WP.cg (st' := [.int (nI ((X 1) + day))]) rfl (congrArg (fun z : Int32 => (.int z :: [] : List Value)) (nI_add (X 1) day)) rfl ?_
  refine WP.run (pc' := if (nI ((X 1) + day)) ≤ (nI 99) then 38 else 33) (L' := [.ref 271, .int (nI day), .int (nI m), .int (nI (dueN X (X 4 + day))), UU]) (st' := []) (I1 := I) 2 rfl ?_
  refine WP.br (fun h1 => ?_) (fun h1 => ?_)
  · have h1 : (X 1) + day ≤ 99 := nI_le_ (by omega) (by omega) h1
    refine WP.run (pc' := 43) (L' := [.ref 271, .int (nI day), .int (nI m), .int (nI (dueN X (X 4 + day))), UU]) (st' := [.int (nI 1), .ref 272]) (I1 := I) 3 rfl ?_
    refine WP.iald rfl rfl rfl (by omega) (by decide) ?_
    refine WP.cg (st' := [.int (nI (X 1))]) rfl (congrArg (fun z : Int32 => (.int z :: [] : List Value)) (hM 1 (by omega))) rfl ?_
    refine WP.run (pc' := 46) (L' := [.ref 271, .int (nI day), .int (nI m), .int (nI (dueN X (X 4 + day))), UU]) (st' := [.int ((nI (X 1)) + (nI day))]) (I1 := I) 2 rfl ?_
    refine WP.cg (st' := [.int (nI ((X 1) + day))]) rfl (congrArg (fun z : Int32 => (.int z :: [] : List Value)) (nI_add (X 1) day)) rfl ?_
    refine WP.run (pc' := if ¬ (nI (dueN X (X 4 + day))) = 0 then 64 else 52) (L' := [.ref 271, .int (nI day), .int (nI m), .int (nI (dueN X (X 4 + day))), .int (nI ((X 1) + day))]) (st' := []) (I1 := I) 3 rfl ?_
    refine WP.br (fun h2 => ?_) (fun h2 => ?_)
    · have h2 : ¬ dueN X (X 4 + day) = 0 := fun q => h2 (nI_eq_r q)
      refine WP.run (pc' := 71) (L' := [.ref 271, .int (nI day), .int (nI m), .int (nI (dueN X (X 4 + day))), .int (nI ((X 1) + day))]) (st' := [.int (nI 7), .ref 272, .int (nI m)]) (I1 := I) 4 rfl ?_
      refine WP.iald rfl rfl rfl (by omega) (by decide) ?_
      refine WP.cg (st' := [.int (nI (X 7)), .int (nI m)]) rfl (congrArg (fun z : Int32 => (.int z :: [.int (nI m)] : List Value)) (hM 7 (by omega))) rfl ?_
      refine WP.run (pc' := 73) (L' := [.ref 271, .int (nI day), .int (nI m), .int (nI (dueN X (X 4 + day))), .int (nI ((X 1) + day))]) (st' := [.int ((nI m) &&& (nI (X 7)))]) (I1 := I) 1 rfl ?_
      refine WP.cg (st' := [.int (nI (m &&& (X 7)))]) rfl (congrArg (fun z : Int32 => (.int z :: [] : List Value)) (nI_and m (X 7))) rfl ?_
      refine WP.run (pc' := if ¬ (nI (m &&& (X 7))) = 0 then 100 else 76) (L' := [.ref 271, .int (nI day), .int (nI m), .int (nI (dueN X (X 4 + day))), .int (nI ((X 1) + day))]) (st' := []) (I1 := I) 1 rfl ?_
      refine WP.br (fun h3 => ?_) (fun h3 => ?_)
      · have h3 : ¬ m &&& (X 7) = 0 := fun q => h3 (nI_eq_r q)
        refine WP.run (pc' := 101) (L' := [.ref 271, .int (nI day), .int (nI m), .int (nI (dueN X (X 4 + day))), .int (nI ((X 1) + day))]) (st' := [.int (nI 0)]) (I1 := I) 1 rfl ?_
        exact WP.ret rfl rfl (by
                  have hg : (gd X day m).2 = false := by
                    unfold gd
                    first
                    | (rw [if_pos (by assumption)]; exact beqF (by assumption))
                    | (rw [if_neg (by assumption), if_neg (fun q => by have q1 := q.1; have q2 := q.2; omega)])
                  exact ⟨(congrArg (fun z : Int32 => some (Value.int z)) (b2iF (by rw [hg]; decide)).symm), (fun q => by rw [hg] at q; cases q), Only.rfl_⟩)
      · have h3 : m &&& (X 7) = 0 := nI_eq_ (by omega) (by omega) (Decidable.byContradiction h3)
        refine WP.run (pc' := 83) (L' := [.ref 271, .int (nI day), .int (nI m), .int (nI (dueN X (X 4 + day))), .int (nI ((X 1) + day))]) (st' := [.int (nI 0), .ref 272, .int (nI ((X 1) + day))]) (I1 := I) 4 rfl ?_
        refine WP.iald rfl rfl rfl (by omega) (by decide) ?_
        refine WP.cg (st' := [.int (nI (X 0)), .int (nI ((X 1) + day))]) rfl (congrArg (fun z : Int32 => (.int z :: [.int (nI ((X 1) + day))] : List Value)) (hM 0 (by omega))) rfl ?_
        refine WP.run (pc' := if (nI ((X 1) + day)) < (nI (X 0)) then 100 else 87) (L' := [.ref 271, .int (nI day), .int (nI m), .int (nI (dueN X (X 4 + day))), .int (nI ((X 1) + day))]) (st' := []) (I1 := I) 1 rfl ?_
        refine WP.br (fun h4 => ?_) (fun h4 => ?_)
        · have h4 : (X 1) + day < X 0 := nI_lt_ (by omega) (by omega) h4
          refine WP.run (pc' := 101) (L' := [.ref 271, .int (nI day), .int (nI m), .int (nI (dueN X (X 4 + day))), .int (nI ((X 1) + day))]) (st' := [.int (nI 0)]) (I1 := I) 1 rfl ?_
          exact WP.ret rfl rfl (by
                      have hg : (gd X day m).2 = false := by
                        unfold gd
                        first
                        | (rw [if_pos (by assumption)]; exact beqF (by assumption))
                        | (rw [if_neg (by assumption), if_neg (fun q => by have q1 := q.1; have q2 := q.2; omega)])
                      exact ⟨(congrArg (fun z : Int32 => some (Value.int z)) (b2iF (by rw [hg]; decide)).symm), (fun q => by rw [hg] at q; cases q), Only.rfl_⟩)
        · have h4 : ¬ (X 1) + day < X 0 := fun q => h4 (nI_lt_r (by omega) q)
          refine WP.run (pc' := 90) (L' := [.ref 271, .int (nI day), .int (nI m), .int (nI (dueN X (X 4 + day))), .int (nI ((X 1) + day))]) (st' := [.int (nI m), .int (nI (dueN X (X 4 + day))), .ref 271]) (I1 := I) 3 rfl ?_
          refine WP.callX (rest := []) rfl rfl (ms_climbAll (d := d) (due := dueN X (X 4 + day)) (m := m) hX hm (by omega) hM) (fun v J1 hv => ?_)
          obtain ⟨rfl, hv2, hO1⟩ := hv
          by_cases hok : (clA X (dueN X (X 4 + day)) m (X 3)).2 = true
          · refine WP.cg (st' := [.int (nI 1)]) rfl (by rw [b2iT hok]; rfl) rfl ?_
            refine WP.run (pc' := 101) (L' := [.ref 271, .int (nI day), .int (nI m), .int (nI (dueN X (X 4 + day))), .int (nI ((X 1) + day))]) (st' := [.int (nI 1)]) (I1 := J1) 3 rfl ?_
            exact WP.ret rfl rfl (by
                          have hg : gd X day m = clA X (dueN X (X 4 + day)) m (X 3) := by
                            unfold gd
                            rw [if_neg (by assumption), if_pos ⟨by omega, by omega⟩]
                          rw [hg]
                          exact ⟨(congrArg (fun z : Int32 => some (Value.int z)) (b2iT hok).symm), hv2, hO1⟩)
          · refine WP.cg (st' := [.int (nI 0)]) rfl (by rw [b2iF hok]; rfl) rfl ?_
            refine WP.run (pc' := 101) (L' := [.ref 271, .int (nI day), .int (nI m), .int (nI (dueN X (X 4 + day))), .int (nI ((X 1) + day))]) (st' := [.int (nI 0)]) (I1 := J1) 2 rfl ?_
            exact WP.ret rfl rfl (by
                          have hg : gd X day m = clA X (dueN X (X 4 + day)) m (X 3) := by
                            unfold gd
                            rw [if_neg (by assumption), if_pos ⟨by omega, by omega⟩]
                          rw [hg]
                          exact ⟨(congrArg (fun z : Int32 => some (Value.int z)) (b2iF hok).symm), hv2, hO1⟩)
    · have h2 : dueN X (X 4 + day) = 0 := nI_eq_ (by omega) (by omega) (Decidable.byContradiction h2)
      refine WP.run (pc' := if ¬ (nI m) = 0 then 60 else 56) (L' := [.ref 271, .int (nI day), .int (nI m), .int (nI (dueN X (X 4 + day))), .int (nI ((X 1) + day))]) (st' := []) (I1 := I) 2 rfl ?_
      refine WP.br (fun h5 => ?_) (fun h5 => ?_)
      · have h5 : ¬ m = 0 := fun q => h5 (nI_eq_r q)
        refine WP.run (pc' := 101) (L' := [.ref 271, .int (nI day), .int (nI m), .int (nI (dueN X (X 4 + day))), .int (nI ((X 1) + day))]) (st' := [.int (nI 0)]) (I1 := I) 2 rfl ?_
        exact WP.ret rfl rfl (by
                  have hg : (gd X day m).2 = false := by
                    unfold gd
                    first
                    | (rw [if_pos (by assumption)]; exact beqF (by assumption))
                    | (rw [if_neg (by assumption), if_neg (fun q => by have q1 := q.1; have q2 := q.2; omega)])
                  exact ⟨(congrArg (fun z : Int32 => some (Value.int z)) (b2iF (by rw [hg]; decide)).symm), (fun q => by rw [hg] at q; cases q), Only.rfl_⟩)
      · have h5 : m = 0 := nI_eq_ (by omega) (by omega) (Decidable.byContradiction h5)
        refine WP.run (pc' := 101) (L' := [.ref 271, .int (nI day), .int (nI m), .int (nI (dueN X (X 4 + day))), .int (nI ((X 1) + day))]) (st' := [.int (nI 1)]) (I1 := I) 2 rfl ?_
        exact WP.ret rfl rfl (by
                  have hg : gd X day m = (X, true) := by
                    unfold gd
                    rw [if_pos (by assumption), show m = 0 by omega]
                    rfl
                  rw [hg]
                  exact ⟨(congrArg (fun z : Int32 => some (Value.int z)) (b2iT rfl).symm), fun _ => hM, Only.rfl_⟩)
  · have h1 : ¬ (X 1) + day ≤ 99 := fun q => h1 (nI_le_r (by omega) q)
    refine WP.run (pc' := if ¬ (nI (dueN X (X 4 + day))) = 0 then 64 else 52) (L' := [.ref 271, .int (nI day), .int (nI m), .int (nI (dueN X (X 4 + day))), .int (nI 99)]) (st' := []) (I1 := I) 5 rfl ?_
    refine WP.br (fun h6 => ?_) (fun h6 => ?_)
    · have h6 : ¬ dueN X (X 4 + day) = 0 := fun q => h6 (nI_eq_r q)
      refine WP.run (pc' := 71) (L' := [.ref 271, .int (nI day), .int (nI m), .int (nI (dueN X (X 4 + day))), .int (nI 99)]) (st' := [.int (nI 7), .ref 272, .int (nI m)]) (I1 := I) 4 rfl ?_
      refine WP.iald rfl rfl rfl (by omega) (by decide) ?_
      refine WP.cg (st' := [.int (nI (X 7)), .int (nI m)]) rfl (congrArg (fun z : Int32 => (.int z :: [.int (nI m)] : List Value)) (hM 7 (by omega))) rfl ?_
      refine WP.run (pc' := 73) (L' := [.ref 271, .int (nI day), .int (nI m), .int (nI (dueN X (X 4 + day))), .int (nI 99)]) (st' := [.int ((nI m) &&& (nI (X 7)))]) (I1 := I) 1 rfl ?_
      refine WP.cg (st' := [.int (nI (m &&& (X 7)))]) rfl (congrArg (fun z : Int32 => (.int z :: [] : List Value)) (nI_and m (X 7))) rfl ?_
      refine WP.run (pc' := if ¬ (nI (m &&& (X 7))) = 0 then 100 else 76) (L' := [.ref 271, .int (nI day), .int (nI m), .int (nI (dueN X (X 4 + day))), .int (nI 99)]) (st' := []) (I1 := I) 1 rfl ?_
      refine WP.br (fun h7 => ?_) (fun h7 => ?_)
      · have h7 : ¬ m &&& (X 7) = 0 := fun q => h7 (nI_eq_r q)
        refine WP.run (pc' := 101) (L' := [.ref 271, .int (nI day), .int (nI m), .int (nI (dueN X (X 4 + day))), .int (nI 99)]) (st' := [.int (nI 0)]) (I1 := I) 1 rfl ?_
        exact WP.ret rfl rfl (by
                  have hg : (gd X day m).2 = false := by
                    unfold gd
                    first
                    | (rw [if_pos (by assumption)]; exact beqF (by assumption))
                    | (rw [if_neg (by assumption), if_neg (fun q => by have q1 := q.1; have q2 := q.2; omega)])
                  exact ⟨(congrArg (fun z : Int32 => some (Value.int z)) (b2iF (by rw [hg]; decide)).symm), (fun q => by rw [hg] at q; cases q), Only.rfl_⟩)
      · have h7 : m &&& (X 7) = 0 := nI_eq_ (by omega) (by omega) (Decidable.byContradiction h7)
        refine WP.run (pc' := 83) (L' := [.ref 271, .int (nI day), .int (nI m), .int (nI (dueN X (X 4 + day))), .int (nI 99)]) (st' := [.int (nI 0), .ref 272, .int (nI 99)]) (I1 := I) 4 rfl ?_
        refine WP.iald rfl rfl rfl (by omega) (by decide) ?_
        refine WP.cg (st' := [.int (nI (X 0)), .int (nI 99)]) rfl (congrArg (fun z : Int32 => (.int z :: [.int (nI 99)] : List Value)) (hM 0 (by omega))) rfl ?_
        refine WP.run (pc' := if (nI 99) < (nI (X 0)) then 100 else 87) (L' := [.ref 271, .int (nI day), .int (nI m), .int (nI (dueN X (X 4 + day))), .int (nI 99)]) (st' := []) (I1 := I) 1 rfl ?_
        refine WP.br (fun h8 => ?_) (fun h8 => ?_)
        · have h8 : 99 < X 0 := nI_lt_ (by omega) (by omega) h8
          refine WP.run (pc' := 101) (L' := [.ref 271, .int (nI day), .int (nI m), .int (nI (dueN X (X 4 + day))), .int (nI 99)]) (st' := [.int (nI 0)]) (I1 := I) 1 rfl ?_
          exact WP.ret rfl rfl (by
                      have hg : (gd X day m).2 = false := by
                        unfold gd
                        first
                        | (rw [if_pos (by assumption)]; exact beqF (by assumption))
                        | (rw [if_neg (by assumption), if_neg (fun q => by have q1 := q.1; have q2 := q.2; omega)])
                      exact ⟨(congrArg (fun z : Int32 => some (Value.int z)) (b2iF (by rw [hg]; decide)).symm), (fun q => by rw [hg] at q; cases q), Only.rfl_⟩)
        · have h8 : ¬ 99 < X 0 := fun q => h8 (nI_lt_r (by omega) q)
          refine WP.run (pc' := 90) (L' := [.ref 271, .int (nI day), .int (nI m), .int (nI (dueN X (X 4 + day))), .int (nI 99)]) (st' := [.int (nI m), .int (nI (dueN X (X 4 + day))), .ref 271]) (I1 := I) 3 rfl ?_
          refine WP.callX (rest := []) rfl rfl (ms_climbAll (d := d) (due := dueN X (X 4 + day)) (m := m) hX hm (by omega) hM) (fun v J1 hv => ?_)
          obtain ⟨rfl, hv2, hO1⟩ := hv
          by_cases hok : (clA X (dueN X (X 4 + day)) m (X 3)).2 = true
          · refine WP.cg (st' := [.int (nI 1)]) rfl (by rw [b2iT hok]; rfl) rfl ?_
            refine WP.run (pc' := 101) (L' := [.ref 271, .int (nI day), .int (nI m), .int (nI (dueN X (X 4 + day))), .int (nI 99)]) (st' := [.int (nI 1)]) (I1 := J1) 3 rfl ?_
            exact WP.ret rfl rfl (by
                          have hg : gd X day m = clA X (dueN X (X 4 + day)) m (X 3) := by
                            unfold gd
                            rw [if_neg (by assumption), if_pos ⟨by omega, by omega⟩]
                          rw [hg]
                          exact ⟨(congrArg (fun z : Int32 => some (Value.int z)) (b2iT hok).symm), hv2, hO1⟩)
          · refine WP.cg (st' := [.int (nI 0)]) rfl (by rw [b2iF hok]; rfl) rfl ?_
            refine WP.run (pc' := 101) (L' := [.ref 271, .int (nI day), .int (nI m), .int (nI (dueN X (X 4 + day))), .int (nI 99)]) (st' := [.int (nI 0)]) (I1 := J1) 2 rfl ?_
            exact WP.ret rfl rfl (by
                          have hg : gd X day m = clA X (dueN X (X 4 + day)) m (X 3) := by
                            unfold gd
                            rw [if_neg (by assumption), if_pos ⟨by omega, by omega⟩]
                          rw [hg]
                          exact ⟨(congrArg (fun z : Int32 => some (Value.int z)) (b2iF hok).symm), hv2, hO1⟩)
    · have h6 : dueN X (X 4 + day) = 0 := nI_eq_ (by omega) (by omega) (Decidable.byContradiction h6)
      refine WP.run (pc' := if ¬ (nI m) = 0 then 60 else 56) (L' := [.ref 271, .int (nI day), .int (nI m), .int (nI (dueN X (X 4 + day))), .int (nI 99)]) (st' := []) (I1 := I) 2 rfl ?_
      refine WP.br (fun h9 => ?_) (fun h9 => ?_)
      · have h9 : ¬ m = 0 := fun q => h9 (nI_eq_r q)
        refine WP.run (pc' := 101) (L' := [.ref 271, .int (nI day), .int (nI m), .int (nI (dueN X (X 4 + day))), .int (nI 99)]) (st' := [.int (nI 0)]) (I1 := I) 2 rfl ?_
        exact WP.ret rfl rfl (by
                  have hg : (gd X day m).2 = false := by
                    unfold gd
                    first
                    | (rw [if_pos (by assumption)]; exact beqF (by assumption))
                    | (rw [if_neg (by assumption), if_neg (fun q => by have q1 := q.1; have q2 := q.2; omega)])
                  exact ⟨(congrArg (fun z : Int32 => some (Value.int z)) (b2iF (by rw [hg]; decide)).symm), (fun q => by rw [hg] at q; cases q), Only.rfl_⟩)
      · have h9 : m = 0 := nI_eq_ (by omega) (by omega) (Decidable.byContradiction h9)
        refine WP.run (pc' := 101) (L' := [.ref 271, .int (nI day), .int (nI m), .int (nI (dueN X (X 4 + day))), .int (nI 99)]) (st' := [.int (nI 1)]) (I1 := I) 2 rfl ?_
        exact WP.ret rfl rfl (by
                  have hg : gd X day m = (X, true) := by
                    unfold gd
                    rw [if_pos (by assumption), show m = 0 by omega]
                    rfl
                  rw [hg]
                  exact ⟨(congrArg (fun z : Int32 => some (Value.int z)) (b2iT rfl).symm), fun _ => hM, Only.rfl_⟩)
