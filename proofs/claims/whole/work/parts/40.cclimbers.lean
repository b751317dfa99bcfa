/-! climbers, asked by the class -/
theorem clB_fall {N : Nat → Nat} {f : Nat → Int32} {k : Nat} (h : clB N f k = false) : ∀ j, clB N f (k + j) = false := by
  intro j
  induction j with
  | zero => exact h
  | succ j ih =>
    show (clB N f (k + j) && _) = false
    rw [ih]
    rfl
theorem clB_no {N : Nat → Nat} {f : Nat → Int32} {k n : Nat} (hk : k < n) (h : ¬ (inA (f (2 * k)) (2 ^ N 2) ∧ ¬ f (2 * k) = 0 ∧ inA (f (2 * k + 1)) 100)) : clB N f n = false := by
  have e : clB N f (k + 1) = false := by
    show (clB N f k && (decide (inA (f (2 * k)) (2 ^ N 2)) && !decide (f (2 * k) = 0) && decide (inA (f (2 * k + 1)) 100))) = false
    by_cases h1 : inA (f (2 * k)) (2 ^ N 2)
    · by_cases h2 : f (2 * k) = 0
      · rw [decide_eq_true h2, Bool.not_true, Bool.and_false, Bool.false_and, Bool.and_false]
      · by_cases h3 : inA (f (2 * k + 1)) 100
        · exact absurd ⟨h1, h2, h3⟩ h
        · rw [decide_eq_false h3, Bool.and_false, Bool.and_false]
    · rw [decide_eq_false h1, Bool.false_and, Bool.false_and, Bool.and_false]
  have := clB_fall e (n - (k + 1))
  rw [show k + 1 + (n - (k + 1)) = n by omega] at this
  exact this
theorem clB_yes {N : Nat → Nat} {f : Nat → Int32} {k : Nat} (hb : clB N f k = true) (h1 : inA (f (2 * k)) (2 ^ N 2)) (h2 : ¬ f (2 * k) = 0) (h3 : inA (f (2 * k + 1)) 100) : clB N f (k + 1) = true := by
  show (clB N f k && (decide (inA (f (2 * k)) (2 ^ N 2)) && !decide (f (2 * k) = 0) && decide (inA (f (2 * k + 1)) 100))) = true
  rw [hb, decide_eq_true h1, decide_eq_false h2, decide_eq_true h3]
  rfl
theorem clW_lt {N : Nat → Nat} {f : Nat → Int32} : ∀ k, clW N f k < 2 ^ N 3 := by
  intro k
  induction k with
  | zero =>
    have := Nat.two_pow_pos (N 3)
    show 2 ^ N 3 - 1 < _
    omega
  | succ k ih => exact Nat.lt_of_le_of_lt Nat.and_le_left ih
set_option maxRecDepth 100000 in
theorem lc_whoAll {d : Nat} {I : Pl} {j i n : Nat} {f : Nat → Int32} {N : Nat → Nat} (hT : Tw I 247 N) (hN : TI N) (hj : j < 8) (hn : n ≤ 8) (hi : i + 2 * n ≤ 40) (hf : ∀ k, k < 2 * n → I (3 + j) (i + k) = f k) : ∀ k, k ≤ n → clB N f k = true → ∀ y1 y2 : Value, WP (d + 3) (109, 6, (some .int), sc0) 16 ([.ref 0, .int (nI j), .int (nI i), .int (nI n), .int (nI (clW N f k)), .int (nI k), y1, y2]) [] I (fun v J => v = some (.int (if clB N f n = true then nI (clW N f n) else -1000001)) ∧ J = I) := by
  refine loopUp (fun k hk ih => ?_)
  intro hb y1 y2
  obtain ⟨b0, b1, b2, b3, b4, b5, b6, b7, b8, bS, bC, bS1, bC1, bZ, bG⟩ := id hN
  obtain ⟨s6, s7, s64⟩ := hN.set64
  have hcl := clW_lt (N := N) (f := f) k
  have hc5 : 2 ^ N 3 ≤ 2 ^ 5 := Nat.pow_le_pow_right (by decide) b3
  refine WP.run (pc' := if (nI n) ≤ (nI k) then 106 else 22) (L' := [.ref 0, .int (nI j), .int (nI i), .int (nI n), .int (nI (clW N f k)), .int (nI k), y1, y2]) (st' := []) (I1 := I) 3 rfl ?_
  refine WP.br (fun h1 => ?_) (fun h1 => ?_)
  · have h1 : n ≤ k := nI_le_ (by omega) (by omega) h1
    refine WP.run (pc' := 108) (L' := [.ref 0, .int (nI j), .int (nI i), .int (nI n), .int (nI (clW N f k)), .int (nI k), y1, y2]) (st' := [.int (nI (clW N f k))]) (I1 := I) 1 rfl ?_
    exact WP.ret rfl rfl (⟨by rw [show n = k by omega, if_pos hb], rfl⟩)
  · have h1 : ¬ n ≤ k := fun q => h1 (nI_le_r (by omega) q)
    refine WP.run (pc' := 32) (L' := [.ref 0, .int (nI j), .int (nI i), .int (nI n), .int (nI (clW N f k)), .int (nI k), y1, y2]) (st' := [.int ((nI 2) * (nI k)), .int (nI i), .int (nI j), .ref 1]) (I1 := I) 7 rfl ?_
    refine WP.cg (st' := [.int (nI (2 * k)), .int (nI i), .int (nI j), .ref 1]) rfl (congrArg (fun z : Int32 => (.int z :: [.int (nI i), .int (nI j), .ref 1] : List Value)) (pk_mul 2 k)) rfl ?_
    refine WP.run (pc' := 33) (L' := [.ref 0, .int (nI j), .int (nI i), .int (nI n), .int (nI (clW N f k)), .int (nI k), y1, y2]) (st' := [.int ((nI i) + (nI (2 * k))), .int (nI j), .ref 1]) (I1 := I) 1 rfl ?_
    refine WP.cg (st' := [.int (nI (i + (2 * k))), .int (nI j), .ref 1]) rfl (congrArg (fun z : Int32 => (.int z :: [.int (nI j), .ref 1] : List Value)) (nI_add i (2 * k))) rfl ?_
    refine WP.callV (rest := []) rfl rfl (sp_item (d := d + 2) (r := j) (i := i + (2 * k)) (by omega) (by omega)) ?_
    refine WP.cg (st' := [.int (f (2 * k))]) rfl (congrArg (fun z : Int32 => ([.int z] : List Value)) (hf (2 * k) (by omega))) rfl ?_
    refine WP.run (pc' := 48) (L' := [.ref 0, .int (nI j), .int (nI i), .int (nI n), .int (nI (clW N f k)), .int (nI k), .int (f (2 * k)), y2]) (st' := [.int ((nI 2) * (nI k)), .int (nI i), .int (nI j), .ref 1]) (I1 := I) 8 rfl ?_
    refine WP.cg (st' := [.int (nI (2 * k)), .int (nI i), .int (nI j), .ref 1]) rfl (congrArg (fun z : Int32 => (.int z :: [.int (nI i), .int (nI j), .ref 1] : List Value)) (pk_mul 2 k)) rfl ?_
    refine WP.run (pc' := 49) (L' := [.ref 0, .int (nI j), .int (nI i), .int (nI n), .int (nI (clW N f k)), .int (nI k), .int (f (2 * k)), y2]) (st' := [.int ((nI i) + (nI (2 * k))), .int (nI j), .ref 1]) (I1 := I) 1 rfl ?_
    refine WP.cg (st' := [.int (nI (i + (2 * k))), .int (nI j), .ref 1]) rfl (congrArg (fun z : Int32 => (.int z :: [.int (nI j), .ref 1] : List Value)) (nI_add i (2 * k))) rfl ?_
    refine WP.run (pc' := 51) (L' := [.ref 0, .int (nI j), .int (nI i), .int (nI n), .int (nI (clW N f k)), .int (nI k), .int (f (2 * k)), y2]) (st' := [.int ((nI (i + (2 * k))) + (nI 1)), .int (nI j), .ref 1]) (I1 := I) 2 rfl ?_
    refine WP.cg (st' := [.int (nI ((i + (2 * k)) + 1)), .int (nI j), .ref 1]) rfl (congrArg (fun z : Int32 => (.int z :: [.int (nI j), .ref 1] : List Value)) (nI_add (i + (2 * k)) 1)) rfl ?_
    refine WP.callV (rest := []) rfl rfl (sp_item (d := d + 2) (r := j) (i := (i + (2 * k)) + 1) (by omega) (by omega)) ?_
    refine WP.cg (st' := [.int (f (2 * k + 1))]) rfl (congrArg (fun z : Int32 => ([.int z] : List Value)) (hf (2 * k + 1) (by omega))) rfl ?_
    refine WP.run (pc' := if (f (2 * k)) = 0 then 81 else 61) (L' := [.ref 0, .int (nI j), .int (nI i), .int (nI n), .int (nI (clW N f k)), .int (nI k), .int (f (2 * k)), .int (f (2 * k + 1))]) (st' := []) (I1 := I) 3 rfl ?_
    refine WP.br (fun h2 => ?_) (fun h2 => ?_)
    · have h2 : (f (2 * k)).toInt = 0 := (iEqZ).mp h2
      refine WP.run (pc' := 83) (L' := [.ref 0, .int (nI j), .int (nI i), .int (nI n), .int (nI (clW N f k)), .int (nI k), .int (f (2 * k)), .int (f (2 * k + 1))]) (st' := [.int (-1000001)]) (I1 := I) 1 rfl ?_
      exact WP.ret rfl rfl (⟨by rw [clB_no (k := k) (n := n) (by omega) (fun q => by first | exact absurd q.1 (by assumption) | exact absurd q.2.2 (by assumption) | exact q.2.1 (iEqZ.mpr (by assumption)))]; rfl, rfl⟩)
    · have h2 : ¬ ((f (2 * k)).toInt = 0) := fun q => h2 ((iEqZ).mpr q)
      refine WP.run (pc' := 67) (L' := [.ref 0, .int (nI j), .int (nI i), .int (nI n), .int (nI (clW N f k)), .int (nI k), .int (f (2 * k)), .int (f (2 * k + 1))]) (st' := [.int (f (2 * k)), .ref 247]) (I1 := I) 3 rfl ?_
      refine WP.callB (rest := []) rfl rfl (sp_isSet (d := d + 2) (x := (f (2 * k))) hT hN) (fun h3 => ?_) (fun h3 => ?_)
      · refine WP.run (pc' := 75) (L' := [.ref 0, .int (nI j), .int (nI i), .int (nI n), .int (nI (clW N f k)), .int (nI k), .int (f (2 * k)), .int (f (2 * k + 1))]) (st' := [.int (f (2 * k + 1))]) (I1 := I) 2 rfl ?_
        refine WP.callB (rest := []) rfl rfl (sp_isStrain (d := d + 2) (x := (f (2 * k + 1)))) (fun h4 => ?_) (fun h4 => ?_)
        · refine WP.run (pc' := 84) (L' := [.ref 0, .int (nI j), .int (nI i), .int (nI n), .int (nI (clW N f k)), .int (nI k), .int (f (2 * k)), .int (f (2 * k + 1))]) (st' := []) (I1 := I) 1 rfl ?_
          have hA1 : inA (f (2 * k)) (2 ^ N 2) := (by assumption)
          have hA2 : inA (f (2 * k + 1)) 100 := (by assumption)
          have hA0 : ¬ f (2 * k) = 0 := fun q => absurd (show (f (2 * k)).toInt = 0 by rw [q]; rfl) (by assumption)
          obtain ⟨m, hm, em⟩ := inA_of hA1 (by omega)
          obtain ⟨r, hr, er⟩ := inA_of hA2 (by omega)
          refine WP.cg (L' := [.ref 0, .int (nI j), .int (nI i), .int (nI n), .int (nI (clW N f k)), .int (nI k), .int (nI m), .int (nI r)]) (by rw [em, er]) rfl rfl ?_
          refine WP.run (pc' := 94) (L' := [.ref 0, .int (nI j), .int (nI i), .int (nI n), .int (nI (clW N f k)), .int (nI k), .int (nI m), .int (nI r)]) (st' := [.int (nI r), .int (nI m), .ref 247, .int (nI (clW N f k))]) (I1 := I) 5 rfl ?_
          refine WP.callV (rest := [.int (nI (clW N f k))]) rfl rfl (sp_whoStrain (d := d) (m := m) (x := r) hT hN (by omega) (by omega)) ?_
          refine WP.run (pc' := 98) (L' := [.ref 0, .int (nI j), .int (nI i), .int (nI n), .int (nI (clW N f k)), .int (nI k), .int (nI m), .int (nI r)]) (st' := [.int ((nI (clW N f k)) &&& (nI (whoN N m r)))]) (I1 := I) 1 rfl ?_
          refine WP.cg (st' := [.int (nI ((clW N f k) &&& (whoN N m r)))]) rfl (congrArg (fun z : Int32 => (.int z :: [] : List Value)) (nI_and (clW N f k) (whoN N m r))) rfl ?_
          refine WP.run (pc' := 103) (L' := [.ref 0, .int (nI j), .int (nI i), .int (nI n), .int (nI ((clW N f k) &&& (whoN N m r))), .int ((nI k) + nI 1), .int (nI m), .int (nI r)]) (st' := []) (I1 := I) 2 rfl ?_
          refine WP.cg (L' := [.ref 0, .int (nI j), .int (nI i), .int (nI n), .int (nI ((clW N f k) &&& (whoN N m r))), .int (nI (k + 1)), .int (nI m), .int (nI r)]) (congrArg (fun z : Int32 => ([.ref 0, .int (nI j), .int (nI i), .int (nI n), .int (nI ((clW N f k) &&& (whoN N m r))), .int z, .int (nI m), .int (nI r)] : List Value)) (nI_add k 1)) rfl rfl ?_
          refine WP.run (pc' := 16) (L' := [.ref 0, .int (nI j), .int (nI i), .int (nI n), .int (nI ((clW N f k) &&& (whoN N m r))), .int (nI (k + 1)), .int (nI m), .int (nI r)]) (st' := []) (I1 := I) 1 rfl ?_
          refine WP.cg (L' := [.ref 0, .int (nI j), .int (nI i), .int (nI n), .int (nI (clW N f (k + 1))), .int (nI (k + 1)), .int (nI m), .int (nI r)]) (by rw [show clW N f (k + 1) = clW N f k &&& whoN N (nOf (f (2 * k))) (nOf (f (2 * k + 1))) from rfl, em, er, nOf_nI (by omega), nOf_nI (by omega)]) rfl rfl (ih (by omega) (clB_yes hb hA1 hA0 hA2) _ _)
        · refine WP.run (pc' := 83) (L' := [.ref 0, .int (nI j), .int (nI i), .int (nI n), .int (nI (clW N f k)), .int (nI k), .int (f (2 * k)), .int (f (2 * k + 1))]) (st' := [.int (-1000001)]) (I1 := I) 2 rfl ?_
          exact WP.ret rfl rfl (⟨by rw [clB_no (k := k) (n := n) (by omega) (fun q => by first | exact absurd q.1 (by assumption) | exact absurd q.2.2 (by assumption) | exact q.2.1 (iEqZ.mpr (by assumption)))]; rfl, rfl⟩)
      · refine WP.run (pc' := 83) (L' := [.ref 0, .int (nI j), .int (nI i), .int (nI n), .int (nI (clW N f k)), .int (nI k), .int (f (2 * k)), .int (f (2 * k + 1))]) (st' := [.int (-1000001)]) (I1 := I) 2 rfl ?_
        exact WP.ret rfl rfl (⟨by rw [clB_no (k := k) (n := n) (by omega) (fun q => by first | exact absurd q.1 (by assumption) | exact absurd q.2.2 (by assumption) | exact q.2.1 (iEqZ.mpr (by assumption)))]; rfl, rfl⟩)
set_option maxRecDepth 100000 in
theorem sp_whoAll {d : Nat} {I : Pl} {j i n : Nat} {f : Nat → Int32} {N : Nat → Nat} (hT : Tw I 247 N) (hN : TI N) (hj : j < 8) (hn : n ≤ 8) (hi : i + 2 * n ≤ 40) (hf : ∀ k, k < 2 * n → I (3 + j) (i + k) = f k) : Ev (d + 4) 109 [.ref 0, .int (nI j), .int (nI i), .int (nI n)] (mem I) (some (.int (if clB N f n = true then nI (clW N f n) else -1000001))) (mem I) := by
  obtain ⟨b0, b1, b2, b3, b4, b5, b6, b7, b8, bS, bC, bS1, bC1, bZ, bG⟩ := id hN
  obtain ⟨s6, s7, s64⟩ := hN.set64
  have hc5 : 2 ^ N 3 ≤ 2 ^ 5 := Nat.pow_le_pow_right (by decide) b3
  have hc6 := Nat.two_pow_pos (N 3)
  refine Ev.only (EvX.enter rfl rfl rfl ?_)
  refine WP.run (pc' := 8) (L' := [.ref 0, .int (nI j), .int (nI i), .int (nI n), UU, UU, UU, UU]) (st' := [.int (I 247 8), .int (nI 1)]) (I1 := I) 4 rfl ?_
  refine WP.cg (st' := [.int (nI (N 3)), .int (nI 1)]) rfl (congrArg (fun z : Int32 => (.int z :: [.int (nI 1)] : List Value)) (hT.f8)) rfl ?_
  refine WP.run (pc' := 9) (L' := [.ref 0, .int (nI j), .int (nI i), .int (nI n), UU, UU, UU, UU]) (st' := [.int ((nI 1) <<< ((nI (N 3)) &&& 31))]) (I1 := I) 1 rfl ?_
  refine WP.cg (st' := [.int (nI (2 ^ (N 3)))]) rfl (congrArg (fun z : Int32 => (.int z :: [] : List Value)) (nI_shl1 (N 3) (by omega))) rfl ?_
  refine WP.run (pc' := 11) (L' := [.ref 0, .int (nI j), .int (nI i), .int (nI n), UU, UU, UU, UU]) (st' := [.int ((nI (2 ^ (N 3))) - (nI 1))]) (I1 := I) 2 rfl ?_
  refine WP.cg (st' := [.int (nI ((2 ^ (N 3)) - 1))]) rfl (congrArg (fun z : Int32 => (.int z :: [] : List Value)) (pk_sub (a := 2 ^ (N 3)) (b := 1) (by omega))) rfl ?_
  refine WP.run (pc' := 16) (L' := [.ref 0, .int (nI j), .int (nI i), .int (nI n), .int (nI ((2 ^ (N 3)) - 1)), .int (nI 0), UU, UU]) (st' := []) (I1 := I) 3 rfl ?_
  refine WP.cg (L' := [.ref 0, .int (nI j), .int (nI i), .int (nI n), .int (nI (clW N f 0)), .int (nI 0), UU, UU]) rfl rfl rfl ?_
  exact lc_whoAll hT hN hj hn hi hf 0 (Nat.zero_le _) rfl _ _
set_option maxRecDepth 100000 in
theorem cs_climbers {d : Nat} {I : Pl} {R : RS} {x i n : Int32} {N : Nat → Nat} (hT : Tw I 247 N) (hN : TI N) (hR : RowsC I R) : EvX (d + 5) 110 [.ref 0, .int x, .int i, .int n] I (fun v K => v = some (.int (nClimbers N R x i n).1) ∧ RowsC K (nClimbers N R x i n).2 ∧ Only I K rcP) := by
  obtain ⟨b0, b1, b2, b3, b4, b5, b6, b7, b8, bS, bC, bS1, bC1, bZ, bG⟩ := id hN
  obtain ⟨s6, s7, s64⟩ := hN.set64
  have hc5 : 2 ^ N 3 ≤ 2 ^ 5 := Nat.pow_le_pow_right (by decide) b3
  refine EvX.enter rfl rfl rfl ?_
  refine WP.run (pc' := 7) (L' := [.ref 0, .int x, .int i, .int n, UU]) (st' := [.int (I 247 0)]) (I1 := I) 3 rfl ?_
  refine WP.cg (st' := [.int (nI (N 8))]) rfl (congrArg (fun z : Int32 => (.int z :: [] : List Value)) (hT.f0)) rfl ?_
  refine WP.run (pc' := if ¬ (nI (N 8)) = 0 then 13 else 10) (L' := [.ref 0, .int x, .int i, .int n, UU]) (st' := []) (I1 := I) 1 rfl ?_
  refine WP.br (fun h1 => ?_) (fun h1 => ?_)
  · have h1 : ¬ N 8 = 0 := fun q => h1 (nI_eq_r q)
    refine WP.run (pc' := 18) (L' := [.ref 0, .int x, .int i, .int n, UU]) (st' := [.int x, .ref 1]) (I1 := I) 3 rfl ?_
    refine WP.callB (rest := []) rfl rfl (sp_isRow (d := d + 3) (x := x)) (fun h2 => ?_) (fun h2 => ?_)
    · refine WP.run (pc' := 24) (L' := [.ref 0, .int x, .int i, .int n, UU]) (st' := []) (I1 := I) 1 rfl ?_
      have hx_j : inA x 8 := (by assumption)
      obtain ⟨j, hj, rfl⟩ := inA_of hx_j (by omega)
      refine WP.run (pc' := if n < (nI 1) then 35 else 29) (L' := [.ref 0, .int (nI j), .int i, .int n, UU]) (st' := []) (I1 := I) 3 rfl ?_
      refine WP.br (fun h3 => ?_) (fun h3 => ?_)
      · have h3 : n.toInt < 1 := (iLtL (n := 1) (by omega)).mp h3
        refine WP.run (pc' := 37) (L' := [.ref 0, .int (nI j), .int i, .int n, UU]) (st' := [.int (-1000001)]) (I1 := I) 1 rfl ?_
        exact WP.ret rfl rfl (by
                  have e : nClimbers N R (nI j) i n = ((-1000001), R) := by (unfold nClimbers; (repeat rw [nOf_nI (by omega)]); (repeat first | rw [if_pos (by first | assumption | omega | (refine inA_iff.mpr ?_; omega) | (intro q; have q2 := inA_iff.mp q; omega) | (intro q; omega) | (refine ⟨?_, ?_⟩ <;> rw [nI_int (by omega)] <;> omega) | (rw [nI_int (by omega)]; omega) | (intro q; rw [nI_int (by omega)] at q; omega) | (refine ⟨?_, ?_, ?_⟩ <;> omega) | (intro q; obtain ⟨q1, q2, q3⟩ := q; omega) | fail)] | rw [if_neg (by first | assumption | omega | (refine inA_iff.mpr ?_; omega) | (intro q; have q2 := inA_iff.mp q; omega) | (intro q; omega) | (refine ⟨?_, ?_⟩ <;> rw [nI_int (by omega)] <;> omega) | (rw [nI_int (by omega)]; omega) | (intro q; rw [nI_int (by omega)] at q; omega) | (refine ⟨?_, ?_, ?_⟩ <;> omega) | (intro q; obtain ⟨q1, q2, q3⟩ := q; omega) | fail)])) <;> rfl
                  rw [e]
                  exact ⟨rfl, hR, Only.rfl_⟩)
      · have h3 : ¬ (n.toInt < 1) := fun q => h3 ((iLtL (n := 1) (by omega)).mpr q)
        refine WP.run (pc' := if n ≤ (nI 8) then 38 else 35) (L' := [.ref 0, .int (nI j), .int i, .int n, UU]) (st' := []) (I1 := I) 3 rfl ?_
        refine WP.br (fun h4 => ?_) (fun h4 => ?_)
        · have h4 : n.toInt ≤ 8 := (iLeL (n := 8) (by omega)).mp h4
          have hx_n1 : inA n 9 := (by refine inA_iff.mpr ?_; omega)
          obtain ⟨n1, hn1, rfl⟩ := inA_of hx_n1 (by omega)
          rw [nI_int (by omega)] at *
          refine WP.run (pc' := 43) (L' := [.ref 0, .int (nI j), .int i, .int (nI n1), UU]) (st' := [.int (nI j), .ref 1]) (I1 := I) 3 rfl ?_
          refine WP.callB (rest := []) rfl rfl (sp_missR (d := d + 3) (r := j) hR (by omega)) (fun h5 => ?_) (fun h5 => ?_)
          · refine WP.run (pc' := 51) (L' := [.ref 0, .int (nI j), .int i, .int (nI n1), UU]) (st' := [.int (nI 1), .ref 0]) (I1 := I) 3 rfl ?_
            refine WP.callV (rest := []) rfl rfl (sp_found (d := d + 3) (I := I) (x := 1)) ?_
            exact WP.ret rfl rfl (by
                          have e : nClimbers N R (nI j) i (nI n1) = ((-1000010 - nI 1), stR R (nI 1)) := by (unfold nClimbers; (repeat rw [nOf_nI (by omega)]); (repeat first | rw [if_pos (by first | assumption | omega | (refine inA_iff.mpr ?_; omega) | (intro q; have q2 := inA_iff.mp q; omega) | (intro q; omega) | (refine ⟨?_, ?_⟩ <;> rw [nI_int (by omega)] <;> omega) | (rw [nI_int (by omega)]; omega) | (intro q; rw [nI_int (by omega)] at q; omega) | (refine ⟨?_, ?_, ?_⟩ <;> omega) | (intro q; obtain ⟨q1, q2, q3⟩ := q; omega) | fail)] | rw [if_neg (by first | assumption | omega | (refine inA_iff.mpr ?_; omega) | (intro q; have q2 := inA_iff.mp q; omega) | (intro q; omega) | (refine ⟨?_, ?_⟩ <;> rw [nI_int (by omega)] <;> omega) | (rw [nI_int (by omega)]; omega) | (intro q; rw [nI_int (by omega)] at q; omega) | (refine ⟨?_, ?_, ?_⟩ <;> omega) | (intro q; obtain ⟨q1, q2, q3⟩ := q; omega) | fail)])) <;> rfl
                          rw [e]
                          exact ⟨rfl, (RowsC.stat hR), (Only.up Only.rfl_ (Or.inl ⟨rfl, rfl⟩))⟩)
          · refine WP.run (pc' := 64) (L' := [.ref 0, .int (nI j), .int i, .int (nI n1), UU]) (st' := [.int ((nI 2) * (nI n1)), .int i, .int (nI j), .ref 1]) (I1 := I) 8 rfl ?_
            refine WP.cg (st' := [.int (nI (2 * n1)), .int i, .int (nI j), .ref 1]) rfl (congrArg (fun z : Int32 => (.int z :: [.int i, .int (nI j), .ref 1] : List Value)) (pk_mul 2 n1)) rfl ?_
            refine WP.callB (rest := []) rfl rfl (sp_placeR (d := d + 3) (r := j) (i := i) (n := (nI (2 * n1))) hR (by omega) (by assumption)) (fun h6 => ?_) (fun h6 => ?_)
            · refine WP.run (pc' := 76) (L' := [.ref 0, .int (nI j), .int i, .int (nI n1), UU]) (st' := []) (I1 := I) 1 rfl ?_
              have hz_j := (RowsC.size hR hj (by assumption)).2.1
              have hx_i1 : inA i 41 := (by refine inA_iff.mpr ?_; have hp : plP i (nI (2 * n1)) (R.2.1 j) := (by assumption); obtain ⟨p1, p2, p3⟩ := hp; rw [nI_int (by omega)] at p3; omega)
              obtain ⟨i1, hi1, rfl⟩ := inA_of hx_i1 (by omega)
              have hp1 : plP (nI i1) (nI (2 * n1)) (R.2.1 j) := (by assumption)
              have hq1 := hp1.2.2
              rw [nI_int (by omega), nI_int (by omega)] at hq1
              refine WP.run (pc' := 80) (L' := [.ref 0, .int (nI j), .int (nI i1), .int (nI n1), UU]) (st' := [.int (nI n1), .int (nI i1), .int (nI j), .ref 0]) (I1 := I) 4 rfl ?_
              refine WP.callV (rest := []) rfl rfl (sp_whoAll (d := d) (j := j) (i := i1) (n := n1) (f := (fun k => R.2.2.1 j (i1 + k))) hT hN (by omega) (by omega) (by omega) (fun k hk => ((hR.2 j hj).2.2 (RowsC.size hR hj (by assumption)).2.2.2).2.2.2 (i1 + k) (by omega))) ?_
              refine WP.run (pc' := 85) (L' := [.ref 0, .int (nI j), .int (nI i1), .int (nI n1), .int (if clB N (fun k => R.2.2.1 j (i1 + k)) n1 = true then nI (clW N (fun k => R.2.2.1 j (i1 + k)) n1) else -1000001)]) (st' := []) (I1 := I) 1 rfl ?_
              have hcw := clW_lt (N := N) (f := (fun k => R.2.2.1 j (i1 + k))) n1
              by_cases hcb : clB N (fun k => R.2.2.1 j (i1 + k)) n1 = true
              · refine WP.cg (L' := [.ref 0, .int (nI j), .int (nI i1), .int (nI n1), .int (nI (clW N (fun k => R.2.2.1 j (i1 + k)) n1))]) (by rw [if_pos hcb]) rfl rfl ?_
                refine WP.run (pc' := if ¬ (nI (clW N (fun k => R.2.2.1 j (i1 + k)) n1)) = -1000001 then 97 else 92) (L' := [.ref 0, .int (nI j), .int (nI i1), .int (nI n1), .int (nI (clW N (fun k => R.2.2.1 j (i1 + k)) n1))]) (st' := []) (I1 := I) 3 rfl ?_
                refine WP.brT (fun q => by
                  rw [eq_iff_, nI_int (by omega), show ((-1000001 : Int32)).toInt = -1000001 from rfl] at q
                  omega) ?_
                refine WP.run (pc' := 100) (L' := [.ref 0, .int (nI j), .int (nI i1), .int (nI n1), .int (nI (clW N (fun k => R.2.2.1 j (i1 + k)) n1))]) (st' := [.int (nI (clW N (fun k => R.2.2.1 j (i1 + k)) n1)), .ref 0]) (I1 := I) 2 rfl ?_
                refine WP.callV (rest := []) rfl rfl (sp_fine (d := d + 3) (I := I) (x := (nI (clW N (fun k => R.2.2.1 j (i1 + k)) n1)))) ?_
                exact WP.ret rfl rfl (by
                                  have e : nClimbers N R (nI j) (nI i1) (nI n1) = ((nI (clW N (fun k => R.2.2.1 j (i1 + k)) n1)), stR R (nI 0)) := by (unfold nClimbers; (repeat rw [nOf_nI (by omega)]); (repeat first | rw [if_pos (by first | assumption | omega | (refine inA_iff.mpr ?_; omega) | (intro q; have q2 := inA_iff.mp q; omega) | (intro q; omega) | (refine ⟨?_, ?_⟩ <;> rw [nI_int (by omega)] <;> omega) | (rw [nI_int (by omega)]; omega) | (intro q; rw [nI_int (by omega)] at q; omega) | (refine ⟨?_, ?_, ?_⟩ <;> omega) | (intro q; obtain ⟨q1, q2, q3⟩ := q; omega) | fail)] | rw [if_neg (by first | assumption | omega | (refine inA_iff.mpr ?_; omega) | (intro q; have q2 := inA_iff.mp q; omega) | (intro q; omega) | (refine ⟨?_, ?_⟩ <;> rw [nI_int (by omega)] <;> omega) | (rw [nI_int (by omega)]; omega) | (intro q; rw [nI_int (by omega)] at q; omega) | (refine ⟨?_, ?_, ?_⟩ <;> omega) | (intro q; obtain ⟨q1, q2, q3⟩ := q; omega) | fail)])) <;> rfl
                                  rw [e]
                                  exact ⟨rfl, (RowsC.stat hR), (Only.up Only.rfl_ (Or.inl ⟨rfl, rfl⟩))⟩)
              · refine WP.cg (L' := [.ref 0, .int (nI j), .int (nI i1), .int (nI n1), .int (-1000001)]) (by rw [if_neg hcb]) rfl rfl ?_
                refine WP.run (pc' := if ¬ (-1000001) = -1000001 then 97 else 92) (L' := [.ref 0, .int (nI j), .int (nI i1), .int (nI n1), .int (-1000001)]) (st' := []) (I1 := I) 3 rfl ?_
                refine WP.brF (fun q => q rfl) ?_
                refine WP.run (pc' := 103) (L' := [.ref 0, .int (nI j), .int (nI i1), .int (nI n1), .int (-1000001)]) (st' := [.int (-1000001)]) (I1 := I) 2 rfl ?_
                exact WP.ret rfl rfl (by
                                  have e : nClimbers N R (nI j) (nI i1) (nI n1) = ((-1000001), R) := by (unfold nClimbers; (repeat rw [nOf_nI (by omega)]); (repeat first | rw [if_pos (by first | assumption | omega | (refine inA_iff.mpr ?_; omega) | (intro q; have q2 := inA_iff.mp q; omega) | (intro q; omega) | (refine ⟨?_, ?_⟩ <;> rw [nI_int (by omega)] <;> omega) | (rw [nI_int (by omega)]; omega) | (intro q; rw [nI_int (by omega)] at q; omega) | (refine ⟨?_, ?_, ?_⟩ <;> omega) | (intro q; obtain ⟨q1, q2, q3⟩ := q; omega) | fail)] | rw [if_neg (by first | assumption | omega | (refine inA_iff.mpr ?_; omega) | (intro q; have q2 := inA_iff.mp q; omega) | (intro q; omega) | (refine ⟨?_, ?_⟩ <;> rw [nI_int (by omega)] <;> omega) | (rw [nI_int (by omega)]; omega) | (intro q; rw [nI_int (by omega)] at q; omega) | (refine ⟨?_, ?_, ?_⟩ <;> omega) | (intro q; obtain ⟨q1, q2, q3⟩ := q; omega) | fail)])) <;> rfl
                                  rw [e]
                                  exact ⟨rfl, hR, Only.rfl_⟩)
            · refine WP.run (pc' := 72) (L' := [.ref 0, .int (nI j), .int i, .int (nI n1), UU]) (st' := [.int (nI 2), .ref 0]) (I1 := I) 3 rfl ?_
              refine WP.callV (rest := []) rfl rfl (sp_found (d := d + 3) (I := I) (x := 2)) ?_
              exact WP.ret rfl rfl (by
                              have e : nClimbers N R (nI j) i (nI n1) = ((-1000010 - nI 2), stR R (nI 2)) := by (unfold nClimbers; (repeat rw [nOf_nI (by omega)]); (repeat first | rw [if_pos (by first | assumption | omega | (refine inA_iff.mpr ?_; omega) | (intro q; have q2 := inA_iff.mp q; omega) | (intro q; omega) | (refine ⟨?_, ?_⟩ <;> rw [nI_int (by omega)] <;> omega) | (rw [nI_int (by omega)]; omega) | (intro q; rw [nI_int (by omega)] at q; omega) | (refine ⟨?_, ?_, ?_⟩ <;> omega) | (intro q; obtain ⟨q1, q2, q3⟩ := q; omega) | fail)] | rw [if_neg (by first | assumption | omega | (refine inA_iff.mpr ?_; omega) | (intro q; have q2 := inA_iff.mp q; omega) | (intro q; omega) | (refine ⟨?_, ?_⟩ <;> rw [nI_int (by omega)] <;> omega) | (rw [nI_int (by omega)]; omega) | (intro q; rw [nI_int (by omega)] at q; omega) | (refine ⟨?_, ?_, ?_⟩ <;> omega) | (intro q; obtain ⟨q1, q2, q3⟩ := q; omega) | fail)])) <;> rfl
                              rw [e]
                              exact ⟨rfl, (RowsC.stat hR), (Only.up Only.rfl_ (Or.inl ⟨rfl, rfl⟩))⟩)
        · have h4 : ¬ (n.toInt ≤ 8) := fun q => h4 ((iLeL (n := 8) (by omega)).mpr q)
          refine WP.run (pc' := 37) (L' := [.ref 0, .int (nI j), .int i, .int n, UU]) (st' := [.int (-1000001)]) (I1 := I) 1 rfl ?_
          exact WP.ret rfl rfl (by
                      have e : nClimbers N R (nI j) i n = ((-1000001), R) := by (unfold nClimbers; (repeat rw [nOf_nI (by omega)]); (repeat first | rw [if_pos (by first | assumption | omega | (refine inA_iff.mpr ?_; omega) | (intro q; have q2 := inA_iff.mp q; omega) | (intro q; omega) | (refine ⟨?_, ?_⟩ <;> rw [nI_int (by omega)] <;> omega) | (rw [nI_int (by omega)]; omega) | (intro q; rw [nI_int (by omega)] at q; omega) | (refine ⟨?_, ?_, ?_⟩ <;> omega) | (intro q; obtain ⟨q1, q2, q3⟩ := q; omega) | fail)] | rw [if_neg (by first | assumption | omega | (refine inA_iff.mpr ?_; omega) | (intro q; have q2 := inA_iff.mp q; omega) | (intro q; omega) | (refine ⟨?_, ?_⟩ <;> rw [nI_int (by omega)] <;> omega) | (rw [nI_int (by omega)]; omega) | (intro q; rw [nI_int (by omega)] at q; omega) | (refine ⟨?_, ?_, ?_⟩ <;> omega) | (intro q; obtain ⟨q1, q2, q3⟩ := q; omega) | fail)])) <;> rfl
                      rw [e]
                      exact ⟨rfl, hR, Only.rfl_⟩)
    · refine WP.run (pc' := 37) (L' := [.ref 0, .int x, .int i, .int n, UU]) (st' := [.int (-1000001)]) (I1 := I) 2 rfl ?_
      exact WP.ret rfl rfl (by
              have e : nClimbers N R x i n = ((-1000001), R) := by (unfold nClimbers; (repeat rw [nOf_nI (by omega)]); (repeat first | rw [if_pos (by first | assumption | omega | (refine inA_iff.mpr ?_; omega) | (intro q; have q2 := inA_iff.mp q; omega) | (intro q; omega) | (refine ⟨?_, ?_⟩ <;> rw [nI_int (by omega)] <;> omega) | (rw [nI_int (by omega)]; omega) | (intro q; rw [nI_int (by omega)] at q; omega) | (refine ⟨?_, ?_, ?_⟩ <;> omega) | (intro q; obtain ⟨q1, q2, q3⟩ := q; omega) | fail)] | rw [if_neg (by first | assumption | omega | (refine inA_iff.mpr ?_; omega) | (intro q; have q2 := inA_iff.mp q; omega) | (intro q; omega) | (refine ⟨?_, ?_⟩ <;> rw [nI_int (by omega)] <;> omega) | (rw [nI_int (by omega)]; omega) | (intro q; rw [nI_int (by omega)] at q; omega) | (refine ⟨?_, ?_, ?_⟩ <;> omega) | (intro q; obtain ⟨q1, q2, q3⟩ := q; omega) | fail)])) <;> rfl
              rw [e]
              exact ⟨rfl, hR, Only.rfl_⟩)
  · have h1 : N 8 = 0 := nI_eq_ (by omega) (by omega) (Decidable.byContradiction h1)
    refine WP.run (pc' := 12) (L' := [.ref 0, .int x, .int i, .int n, UU]) (st' := [.int (-1000002)]) (I1 := I) 1 rfl ?_
    exact WP.ret rfl rfl (by
          have e : nClimbers N R x i n = ((-1000002), R) := by (unfold nClimbers; (repeat rw [nOf_nI (by omega)]); (repeat first | rw [if_pos (by first | assumption | omega | (refine inA_iff.mpr ?_; omega) | (intro q; have q2 := inA_iff.mp q; omega) | (intro q; omega) | (refine ⟨?_, ?_⟩ <;> rw [nI_int (by omega)] <;> omega) | (rw [nI_int (by omega)]; omega) | (intro q; rw [nI_int (by omega)] at q; omega) | (refine ⟨?_, ?_, ?_⟩ <;> omega) | (intro q; obtain ⟨q1, q2, q3⟩ := q; omega) | fail)] | rw [if_neg (by first | assumption | omega | (refine inA_iff.mpr ?_; omega) | (intro q; have q2 := inA_iff.mp q; omega) | (intro q; omega) | (refine ⟨?_, ?_⟩ <;> rw [nI_int (by omega)] <;> omega) | (rw [nI_int (by omega)]; omega) | (intro q; rw [nI_int (by omega)] at q; omega) | (refine ⟨?_, ?_, ?_⟩ <;> omega) | (intro q; obtain ⟨q1, q2, q3⟩ := q; omega) | fail)])) <;> rfl
          rw [e]
          exact ⟨rfl, hR, Only.rfl_⟩)
