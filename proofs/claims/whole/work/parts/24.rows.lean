/-! rows -/
theorem RR2 : ∀ r, r < 8 → RR 2 r = some (3 + r) := by decide +kernel
theorem KdR : ∀ r, r < 8 → Kd (3 + r) = (10, 40) := by decide +kernel
theorem NNR : ∀ r, r < 8 → Nat.blt (3 + r) NN = true := by decide +kernel
def laneV (l : Nat) (v : Int32) : Int32 := if l = 0 then v.toInt8.toInt32 else if l = 1 then v.toInt16.toInt32 else v
/-- the first k places of row r nought -/
def zrN (I : Pl) (r : Nat) : Nat → Pl
  | 0 => I
  | k + 1 => upN (zrN I r k) (3 + r) k (nI 0)
set_option maxRecDepth 100000 in
theorem sp_item {d : Nat} {I : Pl} {r i : Nat} (hr : r < 8) (hi : i < 40) : Ev (d + 1) 62 [.ref 1, .int (nI r), .int (nI i)] (mem I) (some (.int (I (3 + r) i))) (mem I) := by
  refine Ev.only (EvX.enter rfl rfl rfl ?_)
  refine WP.run (pc' := 5) (L' := [.ref 1, .int (nI r), .int (nI i)]) (st' := [.int (nI r), .ref 2]) (I1 := I) 3 rfl ?_
  refine WP.aald rfl rfl (by decide) rfl (by omega) (by decide) (RR2 r (by omega)) ?_
  refine WP.run (pc' := 7) (L' := [.ref 1, .int (nI r), .int (nI i)]) (st' := [.int (nI i), .ref (3 + r)]) (I1 := I) 1 rfl ?_
  refine WP.iald rfl (KdR r (by omega)) (NNR r (by omega)) (by omega) (by decide) ?_
  exact WP.ret rfl rfl (⟨rfl, rfl⟩)
set_option maxRecDepth 100000 in
theorem sp_put {d : Nat} {I : Pl} {r i l : Nat} {v : Int32} (hr : r < 8) (hi : i < 40) (hl : I 11 r = nI l) (hl3 : l < 3) : Ev (d + 1) 61 [.ref 1, .int (nI r), .int (nI i), .int v] (mem I) (some (.int (laneV l v))) (mem (upN I (3 + r) i (laneV l v))) := by
  refine Ev.only (EvX.enter rfl rfl rfl ?_)
  refine WP.run (pc' := 5) (L' := [.ref 1, .int (nI r), .int (nI i), .int v]) (st' := [.int (nI r), .ref 2]) (I1 := I) 3 rfl ?_
  refine WP.aald rfl rfl (by decide) rfl (by omega) (by decide) (RR2 r (by omega)) ?_
  refine WP.run (pc' := 12) (L' := [.ref 1, .int (nI r), .int (nI i), .int v]) (st' := [.int (nI r), .ref 11, .int (nI i), .ref (3 + r)]) (I1 := I) 4 rfl ?_
  refine WP.iald rfl rfl rfl (by omega) (by decide) ?_
  refine WP.cg (st' := [.int (nI l), .int (nI i), .ref (3 + r)]) rfl (congrArg (fun z : Int32 => (.int z :: [.int (nI i), .ref (3 + r)] : List Value)) (hl)) rfl ?_
  refine WP.run (pc' := if ¬ (nI l) = 0 then 21 else 16) (L' := [.ref 1, .int (nI r), .int (nI i), .int v]) (st' := [.int (nI i), .ref (3 + r)]) (I1 := I) 1 rfl ?_
  refine WP.br (fun h1 => ?_) (fun h1 => ?_)
  · have h1 : ¬ l = 0 := fun q => h1 (nI_eq_r q)
    refine WP.run (pc' := 26) (L' := [.ref 1, .int (nI r), .int (nI i), .int v]) (st' := [.int (nI r), .ref 11, .int (nI i), .ref (3 + r)]) (I1 := I) 3 rfl ?_
    refine WP.iald rfl rfl rfl (by omega) (by decide) ?_
    refine WP.cg (st' := [.int (nI l), .int (nI i), .ref (3 + r)]) rfl (congrArg (fun z : Int32 => (.int z :: [.int (nI i), .ref (3 + r)] : List Value)) (hl)) rfl ?_
    refine WP.run (pc' := if ¬ (nI l) = (nI 1) then 36 else 31) (L' := [.ref 1, .int (nI r), .int (nI i), .int v]) (st' := [.int (nI i), .ref (3 + r)]) (I1 := I) 2 rfl ?_
    refine WP.br (fun h2 => ?_) (fun h2 => ?_)
    · have h2 : ¬ l = 1 := fun q => h2 (nI_eq_r q)
      refine WP.run (pc' := 37) (L' := [.ref 1, .int (nI r), .int (nI i), .int v]) (st' := [.int v, .int (nI i), .ref (3 + r)]) (I1 := I) 1 rfl ?_
      refine WP.iast rfl (KdR r (by omega)) (NNR r (by omega)) (by omega) (by decide) ?_
      refine WP.run (pc' := 43) (L' := [.ref 1, .int (nI r), .int (nI i), .int v]) (st' := [.int (nI r), .ref 2]) (I1 := (upN I (3 + r) i v)) 3 rfl ?_
      refine WP.aald rfl rfl (by decide) rfl (by omega) (by decide) (RR2 r (by omega)) ?_
      refine WP.run (pc' := 45) (L' := [.ref 1, .int (nI r), .int (nI i), .int v]) (st' := [.int (nI i), .ref (3 + r)]) (I1 := (upN I (3 + r) i v)) 1 rfl ?_
      refine WP.iald rfl (KdR r (by omega)) (NNR r (by omega)) (by omega) (by decide) ?_
      exact WP.ret rfl rfl (⟨by rw [upN_s]; unfold laneV; first | rw [if_pos (by assumption)] | rw [if_neg (by assumption), if_pos (by assumption)] | rw [if_neg (by assumption), if_neg (by assumption)], by unfold laneV; first | rw [if_pos (by assumption)] | rw [if_neg (by assumption), if_pos (by assumption)] | rw [if_neg (by assumption), if_neg (by assumption)]⟩)
    · have h2 : l = 1 := nI_eq_ (by omega) (by omega) (Decidable.byContradiction h2)
      refine WP.run (pc' := 37) (L' := [.ref 1, .int (nI r), .int (nI i), .int v]) (st' := [.int v.toInt16.toInt32, .int (nI i), .ref (3 + r)]) (I1 := I) 3 rfl ?_
      refine WP.iast rfl (KdR r (by omega)) (NNR r (by omega)) (by omega) (by decide) ?_
      refine WP.run (pc' := 43) (L' := [.ref 1, .int (nI r), .int (nI i), .int v]) (st' := [.int (nI r), .ref 2]) (I1 := (upN I (3 + r) i v.toInt16.toInt32)) 3 rfl ?_
      refine WP.aald rfl rfl (by decide) rfl (by omega) (by decide) (RR2 r (by omega)) ?_
      refine WP.run (pc' := 45) (L' := [.ref 1, .int (nI r), .int (nI i), .int v]) (st' := [.int (nI i), .ref (3 + r)]) (I1 := (upN I (3 + r) i v.toInt16.toInt32)) 1 rfl ?_
      refine WP.iald rfl (KdR r (by omega)) (NNR r (by omega)) (by omega) (by decide) ?_
      exact WP.ret rfl rfl (⟨by rw [upN_s]; unfold laneV; first | rw [if_pos (by assumption)] | rw [if_neg (by assumption), if_pos (by assumption)] | rw [if_neg (by assumption), if_neg (by assumption)], by unfold laneV; first | rw [if_pos (by assumption)] | rw [if_neg (by assumption), if_pos (by assumption)] | rw [if_neg (by assumption), if_neg (by assumption)]⟩)
  · have h1 : l = 0 := nI_eq_ (by omega) (by omega) (Decidable.byContradiction h1)
    refine WP.run (pc' := 37) (L' := [.ref 1, .int (nI r), .int (nI i), .int v]) (st' := [.int v.toInt8.toInt32, .int (nI i), .ref (3 + r)]) (I1 := I) 3 rfl ?_
    refine WP.iast rfl (KdR r (by omega)) (NNR r (by omega)) (by omega) (by decide) ?_
    refine WP.run (pc' := 43) (L' := [.ref 1, .int (nI r), .int (nI i), .int v]) (st' := [.int (nI r), .ref 2]) (I1 := (upN I (3 + r) i v.toInt8.toInt32)) 3 rfl ?_
    refine WP.aald rfl rfl (by decide) rfl (by omega) (by decide) (RR2 r (by omega)) ?_
    refine WP.run (pc' := 45) (L' := [.ref 1, .int (nI r), .int (nI i), .int v]) (st' := [.int (nI i), .ref (3 + r)]) (I1 := (upN I (3 + r) i v.toInt8.toInt32)) 1 rfl ?_
    refine WP.iald rfl (KdR r (by omega)) (NNR r (by omega)) (by omega) (by decide) ?_
    exact WP.ret rfl rfl (⟨by rw [upN_s]; unfold laneV; first | rw [if_pos (by assumption)] | rw [if_neg (by assumption), if_pos (by assumption)] | rw [if_neg (by assumption), if_neg (by assumption)], by unfold laneV; first | rw [if_pos (by assumption)] | rw [if_neg (by assumption), if_pos (by assumption)] | rw [if_neg (by assumption), if_neg (by assumption)]⟩)
set_option maxRecDepth 100000 in
theorem sp_move {d : Nat} {I : Pl} {a i b j n : Nat} (ha : a < 8) (hb : b < 8) (hi : i + n ≤ 40) (hj : j + n ≤ 40) : Ev (d + 1) 63 [.ref 1, .int (nI a), .int (nI i), .int (nI b), .int (nI j), .int (nI n)] (mem I) (none) (mem (cpy I (3 + a) (3 + b) i j n)) := by
  refine Ev.only (EvX.enter rfl rfl rfl ?_)
  refine WP.run (pc' := 5) (L' := [.ref 1, .int (nI a), .int (nI i), .int (nI b), .int (nI j), .int (nI n)]) (st' := [.int (nI a), .ref 2]) (I1 := I) 3 rfl ?_
  refine WP.aald rfl rfl (by decide) rfl (by omega) (by decide) (RR2 a (by omega)) ?_
  refine WP.run (pc' := 12) (L' := [.ref 1, .int (nI a), .int (nI i), .int (nI b), .int (nI j), .int (nI n)]) (st' := [.int (nI b), .ref 2, .int (nI i), .ref (3 + a)]) (I1 := I) 4 rfl ?_
  refine WP.aald rfl rfl (by decide) rfl (by omega) (by decide) (RR2 b (by omega)) ?_
  refine WP.run (pc' := 17) (L' := [.ref 1, .int (nI a), .int (nI i), .int (nI b), .int (nI j), .int (nI n)]) (st' := [.int (nI n), .int (nI j), .ref (3 + b), .int (nI i), .ref (3 + a)]) (I1 := I) 2 rfl ?_
  refine WP.copy rfl rfl (KdR a (by omega)) (KdR b (by omega)) (NNR a (by omega)) (NNR b (by omega)) (by omega) (by omega) (by decide) (by decide) ?_
  exact WP.ret rfl rfl (⟨rfl, rfl⟩)
set_option maxRecDepth 100000 in
theorem sp_lose {d : Nat} {I : Pl} {r : Nat} (hr : r < 8) : Ev (d + 1) 64 [.ref 1, .int (nI r)] (mem I) (some (.int (I 12 r))) (mem (upN I 12 r (-1))) := by
  refine Ev.only (EvX.enter rfl rfl rfl ?_)
  refine WP.run (pc' := 5) (L' := [.ref 1, .int (nI r), UU]) (st' := [.int (nI r), .ref 12]) (I1 := I) 3 rfl ?_
  refine WP.iald rfl rfl rfl (by omega) (by decide) ?_
  refine WP.run (pc' := 13) (L' := [.ref 1, .int (nI r), .int (I 12 r)]) (st' := [.int (-1), .int (nI r), .ref 12]) (I1 := I) 5 rfl ?_
  refine WP.iast rfl rfl rfl (by omega) (by decide) ?_
  refine WP.run (pc' := 15) (L' := [.ref 1, .int (nI r), .int (I 12 r)]) (st' := [.int (I 12 r)]) (I1 := (upN I 12 r (-1))) 1 rfl ?_
  exact WP.ret rfl rfl (⟨rfl, rfl⟩)
set_option maxRecDepth 100000 in
theorem sp_isMissing {d : Nat} {I : Pl} {r : Nat} (hr : r < 8) : Ev (d + 1) 57 [.ref 1, .int (nI r)] (mem I) (some (.int (b2i (I 12 r = -1)))) (mem I) := by
  refine Ev.only (EvX.enter rfl rfl rfl ?_)
  refine WP.run (pc' := 5) (L' := [.ref 1, .int (nI r)]) (st' := [.int (nI r), .ref 12]) (I1 := I) 3 rfl ?_
  refine WP.iald rfl rfl rfl (by omega) (by decide) ?_
  refine WP.run (pc' := if ¬ (I 12 r) = (-1) then 14 else 10) (L' := [.ref 1, .int (nI r)]) (st' := []) (I1 := I) 2 rfl ?_
  refine WP.br (fun h1 => ?_) (fun h1 => ?_)
  · refine WP.run (pc' := 15) (L' := [.ref 1, .int (nI r)]) (st' := [.int (nI 0)]) (I1 := I) 1 rfl ?_
    exact WP.ret rfl rfl (⟨congrArg (fun z : Int32 => some (Value.int z)) (b2iF (by assumption)).symm, rfl⟩)
  · have h1 : (I 12 r) = (-1) := Decidable.byContradiction h1
    refine WP.run (pc' := 15) (L' := [.ref 1, .int (nI r)]) (st' := [.int (nI 1)]) (I1 := I) 2 rfl ?_
    exact WP.ret rfl rfl (⟨congrArg (fun z : Int32 => some (Value.int z)) (b2iT (by assumption)).symm, rfl⟩)
set_option maxRecDepth 100000 in
theorem sp_oneLane {d : Nat} {I : Pl} {a b : Nat} (ha : a < 8) (hb : b < 8) : Ev (d + 1) 58 [.ref 1, .int (nI a), .int (nI b)] (mem I) (some (.int (b2i (I 11 a = I 11 b)))) (mem I) := by
  refine Ev.only (EvX.enter rfl rfl rfl ?_)
  refine WP.run (pc' := 5) (L' := [.ref 1, .int (nI a), .int (nI b)]) (st' := [.int (nI a), .ref 11]) (I1 := I) 3 rfl ?_
  refine WP.iald rfl rfl rfl (by omega) (by decide) ?_
  refine WP.run (pc' := 11) (L' := [.ref 1, .int (nI a), .int (nI b)]) (st' := [.int (nI b), .ref 11, .int (I 11 a)]) (I1 := I) 3 rfl ?_
  refine WP.iald rfl rfl rfl (by omega) (by decide) ?_
  refine WP.run (pc' := if ¬ (I 11 a) = (I 11 b) then 19 else 15) (L' := [.ref 1, .int (nI a), .int (nI b)]) (st' := []) (I1 := I) 1 rfl ?_
  refine WP.br (fun h1 => ?_) (fun h1 => ?_)
  · refine WP.run (pc' := 20) (L' := [.ref 1, .int (nI a), .int (nI b)]) (st' := [.int (nI 0)]) (I1 := I) 1 rfl ?_
    exact WP.ret rfl rfl (⟨congrArg (fun z : Int32 => some (Value.int z)) (b2iF (by assumption)).symm, rfl⟩)
  · have h1 : (I 11 a) = (I 11 b) := Decidable.byContradiction h1
    refine WP.run (pc' := 20) (L' := [.ref 1, .int (nI a), .int (nI b)]) (st' := [.int (nI 1)]) (I1 := I) 2 rfl ?_
    exact WP.ret rfl rfl (⟨congrArg (fun z : Int32 => some (Value.int z)) (b2iT (by assumption)).symm, rfl⟩)
set_option maxRecDepth 100000 in
theorem lp_make {d : Nat} {I : Pl} {r : Nat} {x y : Int32} (hr : r < 8) : ∀ k, k ≤ 40 → WP d (60, 4, none, sc0) 17 [.ref 1, .int (nI r), .int x, .int y, .int (nI k)] [] (zrN I r k) (fun v J => v = none ∧ J = zrN I r 40) := by
  refine loopUp (fun k hk ih => ?_)
  refine WP.run (pc' := if (nI 40) ≤ (nI k) then 40 else 24) (L' := [.ref 1, .int (nI r), .int x, .int y, .int (nI k)]) (st' := []) (I1 := (zrN I r k)) 3 rfl ?_
  refine WP.br (fun h1 => ?_) (fun h1 => ?_)
  · have h1 : 40 ≤ k := nI_le_ (by omega) (by omega) h1
    exact WP.ret rfl rfl (⟨rfl, by rw [show k = 40 by omega]⟩)
  · have h1 : ¬ 40 ≤ k := fun q => h1 (nI_le_r (by omega) q)
    refine WP.run (pc' := 29) (L' := [.ref 1, .int (nI r), .int x, .int y, .int (nI k)]) (st' := [.int (nI r), .ref 2]) (I1 := (zrN I r k)) 3 rfl ?_
    refine WP.aald rfl rfl (by decide) rfl (by omega) (by decide) (RR2 r (by omega)) ?_
    refine WP.run (pc' := 33) (L' := [.ref 1, .int (nI r), .int x, .int y, .int (nI k)]) (st' := [.int (nI 0), .int (nI k), .ref (3 + r)]) (I1 := (zrN I r k)) 2 rfl ?_
    refine WP.iast rfl (KdR r (by omega)) (NNR r (by omega)) (by omega) (by decide) ?_
    refine WP.run (pc' := 37) (L' := [.ref 1, .int (nI r), .int x, .int y, .int ((nI k) + nI 1)]) (st' := []) (I1 := (upN (zrN I r k) (3 + r) k (nI 0))) 1 rfl ?_
    refine WP.cg (L' := [.ref 1, .int (nI r), .int x, .int y, .int (nI (k + 1))]) (congrArg (fun z : Int32 => ([.ref 1, .int (nI r), .int x, .int y, .int z] : List Value)) (nI_add k 1)) rfl rfl ?_
    refine WP.run (pc' := 17) (L' := [.ref 1, .int (nI r), .int x, .int y, .int (nI (k + 1))]) (st' := []) (I1 := (upN (zrN I r k) (3 + r) k (nI 0))) 1 rfl ?_
    refine WP.cg (L' := [.ref 1, .int (nI r), .int x, .int y, .int (nI (k + 1))]) rfl rfl rfl (ih (by omega))
set_option maxRecDepth 100000 in
theorem sp_make {d : Nat} {I : Pl} {r : Nat} {x y : Int32} (hr : r < 8) : Ev (d + 1) 60 [.ref 1, .int (nI r), .int x, .int y] (mem I) (none) (mem (zrN (upN (upN I 11 r x) 12 r y) r 40)) := by
  refine Ev.only (EvX.enter rfl rfl rfl ?_)
  refine WP.run (pc' := 6) (L' := [.ref 1, .int (nI r), .int x, .int y, UU]) (st' := [.int x, .int (nI r), .ref 11]) (I1 := I) 4 rfl ?_
  refine WP.iast rfl rfl rfl (by omega) (by decide) ?_
  refine WP.run (pc' := 13) (L' := [.ref 1, .int (nI r), .int x, .int y, UU]) (st' := [.int y, .int (nI r), .ref 12]) (I1 := (upN I 11 r x)) 4 rfl ?_
  refine WP.iast rfl rfl rfl (by omega) (by decide) ?_
  refine WP.run (pc' := 17) (L' := [.ref 1, .int (nI r), .int x, .int y, .int (nI 0)]) (st' := []) (I1 := (upN (upN I 11 r x) 12 r y)) 2 rfl ?_
  exact lp_make (I := (upN (upN I 11 r x) 12 r y)) hr 0 (Nat.zero_le _)
/-- how many of the first k rows are there -/
def hmN (I : Pl) : Nat → Nat
  | 0 => 0
  | k + 1 => if I 12 k = -1 then hmN I k + 0 else hmN I k + 1
theorem hmN_le (I : Pl) : ∀ k, hmN I k ≤ k := by
  intro k
  induction k with
  | zero => exact Nat.le_refl _
  | succ k ih => unfold hmN; split <;> omega
set_option maxRecDepth 100000 in
theorem lp_howMany {d : Nat} {I : Pl}  : ∀ k, k ≤ 8 → WP d (65, 4, (some .int), sc0) 4 [.ref 1, .int (nI (hmN I k)), .int (nI k)] [] I (fun v J => v = some (.int (nI (hmN I 8))) ∧ J = I) := by
  refine loopUp (fun k hk ih => ?_)
  refine WP.run (pc' := if (nI 8) ≤ (nI k) then 34 else 10) (L' := [.ref 1, .int (nI (hmN I k)), .int (nI k)]) (st' := []) (I1 := I) 3 rfl ?_
  refine WP.br (fun h1 => ?_) (fun h1 => ?_)
  · have h1 : 8 ≤ k := nI_le_ (by omega) (by omega) h1
    refine WP.run (pc' := 35) (L' := [.ref 1, .int (nI (hmN I k)), .int (nI k)]) (st' := [.int (nI (hmN I k))]) (I1 := I) 1 rfl ?_
    exact WP.ret rfl rfl (⟨by rw [show k = 8 by omega], rfl⟩)
  · have h1 : ¬ 8 ≤ k := fun q => h1 (nI_le_r (by omega) q)
    refine WP.run (pc' := 16) (L' := [.ref 1, .int (nI (hmN I k)), .int (nI k)]) (st' := [.int (nI k), .ref 12, .int (nI (hmN I k))]) (I1 := I) 4 rfl ?_
    refine WP.iald rfl rfl rfl (by omega) (by decide) ?_
    refine WP.run (pc' := if ¬ (I 12 k) = (-1) then 25 else 21) (L' := [.ref 1, .int (nI (hmN I k)), .int (nI k)]) (st' := [.int (nI (hmN I k))]) (I1 := I) 2 rfl ?_
    refine WP.br (fun h2 => ?_) (fun h2 => ?_)
    · refine WP.run (pc' := 27) (L' := [.ref 1, .int (nI (hmN I k)), .int (nI k)]) (st' := [.int ((nI (hmN I k)) + (nI 1))]) (I1 := I) 2 rfl ?_
      refine WP.cg (st' := [.int (nI ((hmN I k) + 1))]) rfl (congrArg (fun z : Int32 => (.int z :: [] : List Value)) (nI_add (hmN I k) 1)) rfl ?_
      refine WP.run (pc' := 31) (L' := [.ref 1, .int (nI ((hmN I k) + 1)), .int ((nI k) + nI 1)]) (st' := []) (I1 := I) 2 rfl ?_
      refine WP.cg (L' := [.ref 1, .int (nI ((hmN I k) + 1)), .int (nI (k + 1))]) (congrArg (fun z : Int32 => ([.ref 1, .int (nI ((hmN I k) + 1)), .int z] : List Value)) (nI_add k 1)) rfl rfl ?_
      refine WP.run (pc' := 4) (L' := [.ref 1, .int (nI ((hmN I k) + 1)), .int (nI (k + 1))]) (st' := []) (I1 := I) 1 rfl ?_
      refine WP.cg (L' := [.ref 1, .int (nI (hmN I (k + 1))), .int (nI (k + 1))]) (by first | rw [show hmN I (k + 1) = _ from if_pos (by assumption)] | rw [show hmN I (k + 1) = _ from if_neg (by assumption)]) rfl rfl (ih (by omega))
    · have h2 : (I 12 k) = (-1) := Decidable.byContradiction h2
      refine WP.run (pc' := 27) (L' := [.ref 1, .int (nI (hmN I k)), .int (nI k)]) (st' := [.int ((nI (hmN I k)) + (nI 0))]) (I1 := I) 3 rfl ?_
      refine WP.cg (st' := [.int (nI ((hmN I k) + 0))]) rfl (congrArg (fun z : Int32 => (.int z :: [] : List Value)) (nI_add (hmN I k) 0)) rfl ?_
      refine WP.run (pc' := 31) (L' := [.ref 1, .int (nI ((hmN I k) + 0)), .int ((nI k) + nI 1)]) (st' := []) (I1 := I) 2 rfl ?_
      refine WP.cg (L' := [.ref 1, .int (nI ((hmN I k) + 0)), .int (nI (k + 1))]) (congrArg (fun z : Int32 => ([.ref 1, .int (nI ((hmN I k) + 0)), .int z] : List Value)) (nI_add k 1)) rfl rfl ?_
      refine WP.run (pc' := 4) (L' := [.ref 1, .int (nI ((hmN I k) + 0)), .int (nI (k + 1))]) (st' := []) (I1 := I) 1 rfl ?_
      refine WP.cg (L' := [.ref 1, .int (nI (hmN I (k + 1))), .int (nI (k + 1))]) (by first | rw [show hmN I (k + 1) = _ from if_pos (by assumption)] | rw [show hmN I (k + 1) = _ from if_neg (by assumption)]) rfl rfl (ih (by omega))
set_option maxRecDepth 100000 in
theorem sp_howMany {d : Nat} {I : Pl}  : Ev (d + 1) 65 [.ref 1] (mem I) (some (.int (nI (hmN I 8)))) (mem I) := by
  refine Ev.only (EvX.enter rfl rfl rfl ?_)
  refine WP.run (pc' := 4) (L' := [.ref 1, .int (nI 0), .int (nI 0)]) (st' := []) (I1 := I) 4 rfl ?_
  exact lp_howMany 0 (Nat.zero_le _)
