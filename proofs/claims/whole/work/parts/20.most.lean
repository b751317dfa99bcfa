/-! the most weight -/
theorem dI_ {c w : Nat} (hc : c < 1000) (hw : w ≤ 200) : nI c - nI w = nI (c + 200 - w) - nI 200 := by
  rw [eq_iff_, pk_sub_toInt (by omega) (by omega), pk_sub_toInt (by omega) (by omega)]
  omega
theorem dLt_ {a b : Nat} (ha : a < 2000) (hb : b < 2000) : nI a - nI 200 < nI b - nI 200 ↔ a < b := by
  rw [lt_iff_, pk_sub_toInt (by omega) (by omega), pk_sub_toInt (by omega) (by omega)]
  omega
theorem minD1 {p c w : Nat} (hp : p < 1000) (hc : c < 1000) (hw : w ≤ 200) (h : ¬ nI c - nI w < nI p - nI 200) : nI p - nI 200 = nI (min p (c + 200 - w)) - nI 200 := by
  rw [dI_ hc hw, dLt_ (by omega) (by omega)] at h
  rw [Nat.min_eq_left (by omega)]
theorem minD2 {p c w : Nat} (hp : p < 1000) (hc : c < 1000) (hw : w ≤ 200) (h : nI c - nI w < nI p - nI 200) : nI c - nI w = nI (min p (c + 200 - w)) - nI 200 := by
  rw [dI_ hc hw, dLt_ (by omega) (by omega)] at h
  rw [Nat.min_eq_right (by omega)]
  exact dI_ hc hw
theorem maxD1 {p : Nat} (hp : p < 1000) (h : ¬ nI 0 < nI p - nI 200) : nI 0 = nI (p - 200) := by
  rw [lt_iff_, pk_sub_toInt (by omega) (by omega), nI_int (by omega)] at h
  rw [show p - 200 = 0 by omega]
theorem maxD2 {p : Nat} (hp : p < 1000) (h : nI 0 < nI p - nI 200) : nI p - nI 200 = nI (p - 200) := by
  rw [lt_iff_, pk_sub_toInt (by omega) (by omega), nI_int (by omega)] at h
  exact pk_sub (by omega)
/-- 200 more than the largest share by which all of m under k hold -/
def shP (N : Nat → Nat) (m : Nat) : Nat → Nat
  | 0 => 299
  | k + 1 => if bitN m k = 1 then min (shP N m k) (capN N k (popc m) + 200 - N (21 + k)) else shP N m k
theorem shP_le (N : Nat → Nat) (m : Nat) : ∀ k, shP N m k ≤ 299 := by
  intro k
  induction k with
  | zero => exact Nat.le_refl _
  | succ k ih =>
    unfold shP
    split
    · exact Nat.le_trans (Nat.min_le_left _ _) ih
    · exact ih
def mwN (N : Nat → Nat) (m : Nat) : Nat := min 99 (if N 5 = 1 then 2 * ((shP N m (N 2) - 200) * popc m) else (shP N m (N 2) - 200) * popc m)
set_option maxRecDepth 100000 in
theorem sp_minD {d : Nat} {I : Pl} {p c w : Nat} (hp : p < 1000) (hc : c < 1000) (hw : w ≤ 200) : Ev (d + 1) 208 [.int ((nI p) - (nI 200)), .int ((nI c) - (nI w))] (mem I) (some (.int (nI (min p (c + 200 - w)) - nI 200))) (mem I) := by
  refine Ev.only (EvX.enter rfl rfl rfl ?_)
  refine WP.run (pc' := if ((nI c) - (nI w)) < ((nI p) - (nI 200)) then 9 else 5) (L' := [.int ((nI p) - (nI 200)), .int ((nI c) - (nI w))]) (st' := []) (I1 := I) 3 rfl ?_
  refine WP.br (fun h1 => ?_) (fun h1 => ?_)
  · refine WP.run (pc' := 10) (L' := [.int ((nI p) - (nI 200)), .int ((nI c) - (nI w))]) (st' := [.int ((nI c) - (nI w))]) (I1 := I) 1 rfl ?_
    exact WP.ret rfl rfl (⟨congrArg (fun z : Int32 => some (Value.int z)) (by first | exact minD1 hp hc hw (by assumption) | exact minD2 hp hc hw (by assumption)), rfl⟩)
  · refine WP.run (pc' := 10) (L' := [.int ((nI p) - (nI 200)), .int ((nI c) - (nI w))]) (st' := [.int ((nI p) - (nI 200))]) (I1 := I) 2 rfl ?_
    exact WP.ret rfl rfl (⟨congrArg (fun z : Int32 => some (Value.int z)) (by first | exact minD1 hp hc hw (by assumption) | exact minD2 hp hc hw (by assumption)), rfl⟩)
set_option maxRecDepth 100000 in
theorem sp_maxD {d : Nat} {I : Pl} {p : Nat} (hp : p < 1000) : Ev (d + 1) 207 [.int (nI 0), .int ((nI p) - (nI 200))] (mem I) (some (.int (nI (p - 200)))) (mem I) := by
  refine Ev.only (EvX.enter rfl rfl rfl ?_)
  refine WP.run (pc' := if (nI 0) < ((nI p) - (nI 200)) then 9 else 5) (L' := [.int (nI 0), .int ((nI p) - (nI 200))]) (st' := []) (I1 := I) 3 rfl ?_
  refine WP.br (fun h1 => ?_) (fun h1 => ?_)
  · refine WP.run (pc' := 10) (L' := [.int (nI 0), .int ((nI p) - (nI 200))]) (st' := [.int ((nI p) - (nI 200))]) (I1 := I) 1 rfl ?_
    exact WP.ret rfl rfl (⟨congrArg (fun z : Int32 => some (Value.int z)) (by first | exact maxD1 hp (by assumption) | exact maxD2 hp (by assumption)), rfl⟩)
  · refine WP.run (pc' := 10) (L' := [.int (nI 0), .int ((nI p) - (nI 200))]) (st' := [.int (nI 0)]) (I1 := I) 2 rfl ?_
    exact WP.ret rfl rfl (⟨congrArg (fun z : Int32 => some (Value.int z)) (by first | exact maxD1 hp (by assumption) | exact maxD2 hp (by assumption)), rfl⟩)
set_option maxRecDepth 100000 in
theorem lp_mostWeight {d : Nat} {I : Pl} {m : Nat} {N : Nat → Nat} (hT : Tw I 247 N) (hN : TI N) (hm : m < 64) : ∀ k, k ≤ N 2 → WP (d + 1) (74, 5, (some .int), sc0) 11 [.ref 247, .int (nI m), .int (nI (popc m)), .int ((nI (shP N m k)) - (nI 200)), .int (nI k)] [] I (fun v J => v = some (.int (nI (mwN N m))) ∧ J = I) := by
  refine loopUp (fun k hk ih => ?_)
  obtain ⟨b0, b1, b2, b3, b4, b5, b6, b7, b8, bS, bC, bS1, bC1, bZ, bG⟩ := id hN
  have hbl := bitN_lt m k
  have hpc := popc_le m
  have hsh := shP_le N m k
  have hcap : k < 6 → capN N k (popc m) ≤ 198 ∧ N (21 + k) ≤ 198 := fun q => by
    obtain ⟨z1, z2, z3⟩ := bS k q
    unfold capN
    split <;> omega
  have hpr : (shP N m k - 200) * popc m ≤ 99 * 6 := Nat.mul_le_mul (by omega) hpc
  refine WP.run (pc' := 17) (L' := [.ref 247, .int (nI m), .int (nI (popc m)), .int ((nI (shP N m k)) - (nI 200)), .int (nI k)]) (st' := [.int (I 247 7), .int (nI k)]) (I1 := I) 3 rfl ?_
  refine WP.cg (st' := [.int (nI (N 2)), .int (nI k)]) rfl (congrArg (fun z : Int32 => (.int z :: [.int (nI k)] : List Value)) (hT.f7)) rfl ?_
  refine WP.run (pc' := if (nI (N 2)) ≤ (nI k) then 55 else 20) (L' := [.ref 247, .int (nI m), .int (nI (popc m)), .int ((nI (shP N m k)) - (nI 200)), .int (nI k)]) (st' := []) (I1 := I) 1 rfl ?_
  refine WP.br (fun h1 => ?_) (fun h1 => ?_)
  · have h1 : N 2 ≤ k := nI_le_ (by omega) (by omega) h1
    refine WP.run (pc' := 57) (L' := [.ref 247, .int (nI m), .int (nI (popc m)), .int ((nI (shP N m k)) - (nI 200)), .int (nI k)]) (st' := [.int ((nI (shP N m k)) - (nI 200)), .int (nI 0)]) (I1 := I) 2 rfl ?_
    refine WP.callV (rest := []) rfl rfl (sp_maxD (d := d) (p := shP N m k) (by omega)) ?_
    refine WP.run (pc' := 62) (L' := [.ref 247, .int (nI m), .int (nI (popc m)), .int ((nI (shP N m k)) - (nI 200)), .int (nI k)]) (st' := [.int ((nI ((shP N m k) - 200)) * (nI (popc m)))]) (I1 := I) 2 rfl ?_
    refine WP.cg (st' := [.int (nI (((shP N m k) - 200) * (popc m)))]) rfl (congrArg (fun z : Int32 => (.int z :: [] : List Value)) (pk_mul ((shP N m k) - 200) (popc m))) rfl ?_
    refine WP.run (pc' := 70) (L' := [.ref 247, .int (nI m), .int (nI (popc m)), .int ((nI (shP N m k)) - (nI 200)), .int (nI (((shP N m k) - 200) * (popc m)))]) (st' := [.int (I 247 4), .int (nI 99)]) (I1 := I) 4 rfl ?_
    refine WP.cg (st' := [.int (nI (N 5)), .int (nI 99)]) rfl (congrArg (fun z : Int32 => (.int z :: [.int (nI 99)] : List Value)) (hT.f4)) rfl ?_
    refine WP.run (pc' := if ¬ (nI (N 5)) = (nI 1) then 81 else 74) (L' := [.ref 247, .int (nI m), .int (nI (popc m)), .int ((nI (shP N m k)) - (nI 200)), .int (nI (((shP N m k) - 200) * (popc m)))]) (st' := [.int (nI 99)]) (I1 := I) 2 rfl ?_
    refine WP.br (fun h2 => ?_) (fun h2 => ?_)
    · have h2 : ¬ N 5 = 1 := fun q => h2 (nI_eq_r q)
      refine WP.run (pc' := 83) (L' := [.ref 247, .int (nI m), .int (nI (popc m)), .int ((nI (shP N m k)) - (nI 200)), .int (nI (((shP N m k) - 200) * (popc m)))]) (st' := [.int (nI (((shP N m k) - 200) * (popc m))), .int (nI 99)]) (I1 := I) 1 rfl ?_
      refine WP.callV (rest := []) rfl rfl (sp_min (d := d) (a := 99) (b := ((shP N m k) - 200) * (popc m)) (by omega) (by omega)) ?_
      exact WP.ret rfl rfl (⟨by unfold mwN; rw [show N 2 = k by omega]; first | rw [if_pos (by assumption)] | rw [if_neg (by assumption)], rfl⟩)
    · have h2 : N 5 = 1 := nI_eq_ (by omega) (by omega) (Decidable.byContradiction h2)
      refine WP.run (pc' := 78) (L' := [.ref 247, .int (nI m), .int (nI (popc m)), .int ((nI (shP N m k)) - (nI 200)), .int (nI (((shP N m k) - 200) * (popc m)))]) (st' := [.int ((nI 2) * (nI (((shP N m k) - 200) * (popc m)))), .int (nI 99)]) (I1 := I) 3 rfl ?_
      refine WP.cg (st' := [.int (nI (2 * (((shP N m k) - 200) * (popc m)))), .int (nI 99)]) rfl (congrArg (fun z : Int32 => (.int z :: [.int (nI 99)] : List Value)) (pk_mul 2 (((shP N m k) - 200) * (popc m)))) rfl ?_
      refine WP.run (pc' := 83) (L' := [.ref 247, .int (nI m), .int (nI (popc m)), .int ((nI (shP N m k)) - (nI 200)), .int (nI (((shP N m k) - 200) * (popc m)))]) (st' := [.int (nI (2 * (((shP N m k) - 200) * (popc m)))), .int (nI 99)]) (I1 := I) 1 rfl ?_
      refine WP.callV (rest := []) rfl rfl (sp_min (d := d) (a := 99) (b := 2 * (((shP N m k) - 200) * (popc m))) (by omega) (by omega)) ?_
      exact WP.ret rfl rfl (⟨by unfold mwN; rw [show N 2 = k by omega]; first | rw [if_pos (by assumption)] | rw [if_neg (by assumption)], rfl⟩)
  · have h1 : ¬ N 2 ≤ k := fun q => h1 (nI_le_r (by omega) q)
    refine WP.run (pc' := 23) (L' := [.ref 247, .int (nI m), .int (nI (popc m)), .int ((nI (shP N m k)) - (nI 200)), .int (nI k)]) (st' := [.int (nI k), .int (nI m)]) (I1 := I) 2 rfl ?_
    refine WP.callV (rest := []) rfl rfl (sp_bit (d := d) (m := m) (i := k) (by omega) (by omega)) ?_
    refine WP.run (pc' := if ¬ (nI (bitN m k)) = (nI 1) then 49 else 30) (L' := [.ref 247, .int (nI m), .int (nI (popc m)), .int ((nI (shP N m k)) - (nI 200)), .int (nI k)]) (st' := []) (I1 := I) 2 rfl ?_
    refine WP.br (fun h3 => ?_) (fun h3 => ?_)
    · have h3 : ¬ bitN m k = 1 := fun q => h3 (nI_eq_r q)
      refine WP.run (pc' := 52) (L' := [.ref 247, .int (nI m), .int (nI (popc m)), .int ((nI (shP N m k)) - (nI 200)), .int ((nI k) + nI 1)]) (st' := []) (I1 := I) 1 rfl ?_
      refine WP.cg (L' := [.ref 247, .int (nI m), .int (nI (popc m)), .int ((nI (shP N m k)) - (nI 200)), .int (nI (k + 1))]) (congrArg (fun z : Int32 => ([.ref 247, .int (nI m), .int (nI (popc m)), .int ((nI (shP N m k)) - (nI 200)), .int z] : List Value)) (nI_add k 1)) rfl rfl ?_
      refine WP.run (pc' := 11) (L' := [.ref 247, .int (nI m), .int (nI (popc m)), .int ((nI (shP N m k)) - (nI 200)), .int (nI (k + 1))]) (st' := []) (I1 := I) 1 rfl ?_
      refine WP.cg (L' := [.ref 247, .int (nI m), .int (nI (popc m)), .int ((nI (shP N m (k + 1))) - (nI 200)), .int (nI (k + 1))]) (congrArg (fun z : Nat => ([.ref 247, .int (nI m), .int (nI (popc m)), .int ((nI z) - (nI 200)), .int (nI (k + 1))] : List Value)) (by show _ = (if bitN m k = 1 then _ else _); rw [if_neg (by assumption)])) rfl rfl (ih (by omega))
    · have h3 : bitN m k = 1 := nI_eq_ (by omega) (by omega) (Decidable.byContradiction h3)
      refine WP.run (pc' := 40) (L' := [.ref 247, .int (nI m), .int (nI (popc m)), .int ((nI (shP N m k)) - (nI 200)), .int (nI k)]) (st' := [.int (nI k), .ref 250, .int (nI k), .ref 247, .int ((nI (shP N m k)) - (nI 200))]) (I1 := I) 6 rfl ?_
      refine WP.iald rfl rfl rfl (by omega) (by decide) ?_
      refine WP.cg (st' := [.int (nI (N (21 + k))), .int (nI k), .ref 247, .int ((nI (shP N m k)) - (nI 200))]) rfl (congrArg (fun z : Int32 => (.int z :: [.int (nI k), .ref 247, .int ((nI (shP N m k)) - (nI 200))] : List Value)) (hT.a3 (k := k) (by omega))) rfl ?_
      refine WP.run (pc' := 42) (L' := [.ref 247, .int (nI m), .int (nI (popc m)), .int ((nI (shP N m k)) - (nI 200)), .int (nI k)]) (st' := [.int (nI (popc m)), .int (nI (N (21 + k))), .int (nI k), .ref 247, .int ((nI (shP N m k)) - (nI 200))]) (I1 := I) 1 rfl ?_
      refine WP.callV (rest := [.int ((nI (shP N m k)) - (nI 200))]) rfl rfl (sp_holds (d := d) (s := k) (w := N (21 + k)) (many := popc m) hT hN (by omega) (by omega) (by omega)) ?_
      refine WP.callV (rest := []) rfl rfl (sp_minD (d := d) (p := shP N m k) (c := capN N k (popc m)) (w := N (21 + k)) (by omega) (by omega) (by omega)) ?_
      refine WP.run (pc' := 52) (L' := [.ref 247, .int (nI m), .int (nI (popc m)), .int ((nI (min (shP N m k) ((capN N k (popc m)) + 200 - (N (21 + k))))) - (nI 200)), .int ((nI k) + nI 1)]) (st' := []) (I1 := I) 2 rfl ?_
      refine WP.cg (L' := [.ref 247, .int (nI m), .int (nI (popc m)), .int ((nI (min (shP N m k) ((capN N k (popc m)) + 200 - (N (21 + k))))) - (nI 200)), .int (nI (k + 1))]) (congrArg (fun z : Int32 => ([.ref 247, .int (nI m), .int (nI (popc m)), .int ((nI (min (shP N m k) ((capN N k (popc m)) + 200 - (N (21 + k))))) - (nI 200)), .int z] : List Value)) (nI_add k 1)) rfl rfl ?_
      refine WP.run (pc' := 11) (L' := [.ref 247, .int (nI m), .int (nI (popc m)), .int ((nI (min (shP N m k) ((capN N k (popc m)) + 200 - (N (21 + k))))) - (nI 200)), .int (nI (k + 1))]) (st' := []) (I1 := I) 1 rfl ?_
      refine WP.cg (L' := [.ref 247, .int (nI m), .int (nI (popc m)), .int ((nI (shP N m (k + 1))) - (nI 200)), .int (nI (k + 1))]) (congrArg (fun z : Nat => ([.ref 247, .int (nI m), .int (nI (popc m)), .int ((nI z) - (nI 200)), .int (nI (k + 1))] : List Value)) (by show _ = (if bitN m k = 1 then _ else _); rw [if_pos (by assumption)])) rfl rfl (ih (by omega))
set_option maxRecDepth 100000 in
theorem sp_mostWeight {d : Nat} {I : Pl} {m : Nat} {N : Nat → Nat} (hT : Tw I 247 N) (hN : TI N) (hm : m < 64) : Ev (d + 2) 74 [.ref 247, .int (nI m)] (mem I) (some (.int (nI (mwN N m)))) (mem I) := by
  refine Ev.only (EvX.enter rfl rfl rfl ?_)
  refine WP.run (pc' := 1) (L' := [.ref 247, .int (nI m), UU, UU, UU]) (st' := [.int (nI m)]) (I1 := I) 1 rfl ?_
  refine WP.callV (rest := []) rfl rfl (sp_bitCount (d := d) (m := m) (by omega)) ?_
  refine WP.run (pc' := 11) (L' := [.ref 247, .int (nI m), .int (nI (popc m)), .int (nI 99), .int (nI 0)]) (st' := []) (I1 := I) 5 rfl ?_
  refine WP.cg (congrArg (fun z : Int32 => ([.ref 247, .int (nI m), .int (nI (popc m)), .int z, .int (nI 0)] : List Value)) (show nI 99 = nI 299 - nI 200 by decide)) rfl rfl ?_
  exact lp_mostWeight hT hN hm 0 (Nat.zero_le _)
theorem mwN_le (N : Nat → Nat) (m : Nat) : mwN N m ≤ 99 := Nat.min_le_left _ _
/-- the stoutest of the sets 1 .. k, and what it bears -/
def stP (N : Nat → Nat) : Nat → Nat × Nat
  | 0 => (0, 0)
  | k + 1 => if (k + 1 < 2 ^ N 2 ∧ (k + 1) &&& N 7 = 0) ∧ (stP N k).2 < mwN N (k + 1) then (k + 1, mwN N (k + 1)) else stP N k
theorem stP_le (N : Nat → Nat) : ∀ k, (stP N k).1 ≤ k ∧ (stP N k).2 ≤ 99 := by
  intro k
  induction k with
  | zero => exact ⟨Nat.le_refl _, Nat.zero_le _⟩
  | succ k ih =>
    unfold stP
    split
    · exact ⟨Nat.le_refl _, mwN_le _ _⟩
    · exact ⟨Nat.le_succ_of_le ih.1, ih.2⟩
def stN (N : Nat → Nat) : Nat := (stP N 63).1
theorem stP_t {N : Nat → Nat} {k : Nat} (h1 : k + 1 < 2 ^ N 2 ∧ (k + 1) &&& N 7 = 0) (h2 : (stP N k).2 < mwN N (k + 1)) : stP N (k + 1) = (k + 1, mwN N (k + 1)) := if_pos ⟨h1, h2⟩
theorem stP_f1 {N : Nat → Nat} {k : Nat} (h1 : ¬ (k + 1 < 2 ^ N 2 ∧ (k + 1) &&& N 7 = 0)) : stP N (k + 1) = stP N k := if_neg (fun q => h1 q.1)
theorem stP_f2 {N : Nat → Nat} {k : Nat} (h2 : ¬ (stP N k).2 < mwN N (k + 1)) : stP N (k + 1) = stP N k := if_neg (fun q => h2 q.2)
set_option maxRecDepth 100000 in
theorem lp_stoutest {d : Nat} {I : Pl} {N : Nat → Nat} (hT : Tw I 247 N) (hN : TI N) : ∀ k, k ≤ 63 → WP (d + 2) (75, 5, (some .int), sc0) 6 [.ref 247, .int (nI ((stP N k).1)), .int (nI ((stP N k).2)), .int (nI (k + 1))] [] I (fun v J => v = some (.int (nI (stN N))) ∧ J = I) := by
  refine loopUp (fun k hk ih => ?_)
  obtain ⟨b0, b1, b2, b3, b4, b5, b6, b7, b8, bS, bC, bS1, bC1, bZ, bG⟩ := id hN
  obtain ⟨s6, s7, s64⟩ := hN.set64
  have hst := stP_le N k
  have hmw := mwN_le N (k + 1)
  refine WP.run (pc' := if (nI 64) ≤ (nI (k + 1)) then 43 else 12) (L' := [.ref 247, .int (nI ((stP N k).1)), .int (nI ((stP N k).2)), .int (nI (k + 1))]) (st' := []) (I1 := I) 3 rfl ?_
  refine WP.br (fun h1 => ?_) (fun h1 => ?_)
  · have h1 : 64 ≤ k + 1 := nI_le_ (by omega) (by omega) h1
    refine WP.run (pc' := 44) (L' := [.ref 247, .int (nI ((stP N k).1)), .int (nI ((stP N k).2)), .int (nI (k + 1))]) (st' := [.int (nI ((stP N k).1))]) (I1 := I) 1 rfl ?_
    exact WP.ret rfl rfl (⟨by rw [show k = 63 by omega]; rfl, rfl⟩)
  · have h1 : ¬ 64 ≤ k + 1 := fun q => h1 (nI_le_r (by omega) q)
    refine WP.run (pc' := 14) (L' := [.ref 247, .int (nI ((stP N k).1)), .int (nI ((stP N k).2)), .int (nI (k + 1))]) (st' := [.int (nI (k + 1)), .ref 247]) (I1 := I) 2 rfl ?_
    refine WP.callB (rest := []) rfl rfl (sp_isLeft (d := d) (m := k + 1) hT hN (by omega)) (fun h2 => ?_) (fun h2 => ?_)
    · refine WP.run (pc' := 22) (L' := [.ref 247, .int (nI ((stP N k).1)), .int (nI ((stP N k).2)), .int (nI (k + 1))]) (st' := [.int (nI (k + 1)), .ref 247]) (I1 := I) 3 rfl ?_
      refine WP.callV (rest := []) rfl rfl (sp_mostWeight (d := d) (m := k + 1) hT hN (by omega)) ?_
      refine WP.run (pc' := if (nI (mwN N (k + 1))) ≤ (nI ((stP N k).2)) then 37 else 29) (L' := [.ref 247, .int (nI ((stP N k).1)), .int (nI ((stP N k).2)), .int (nI (k + 1))]) (st' := []) (I1 := I) 2 rfl ?_
      refine WP.br (fun h3 => ?_) (fun h3 => ?_)
      · have h3 : mwN N (k + 1) ≤ (stP N k).2 := nI_le_ (by omega) (by omega) h3
        refine WP.run (pc' := 40) (L' := [.ref 247, .int (nI ((stP N k).1)), .int (nI ((stP N k).2)), .int ((nI (k + 1)) + nI 1)]) (st' := []) (I1 := I) 1 rfl ?_
        refine WP.cg (L' := [.ref 247, .int (nI ((stP N k).1)), .int (nI ((stP N k).2)), .int (nI (k + 1 + 1))]) (congrArg (fun z : Int32 => ([.ref 247, .int (nI ((stP N k).1)), .int (nI ((stP N k).2)), .int z] : List Value)) (nI_add (k + 1) 1)) rfl rfl ?_
        refine WP.run (pc' := 6) (L' := [.ref 247, .int (nI ((stP N k).1)), .int (nI ((stP N k).2)), .int (nI (k + 1 + 1))]) (st' := []) (I1 := I) 1 rfl ?_
        refine WP.cg (L' := [.ref 247, .int (nI ((stP N (k + 1)).1)), .int (nI ((stP N (k + 1)).2)), .int (nI (k + 1 + 1))]) (by first | rw [stP_t (by assumption) (by omega)] | rw [stP_f1 (by assumption)] | rw [stP_f2 (by omega)]) rfl rfl (ih (by omega))
      · have h3 : ¬ mwN N (k + 1) ≤ (stP N k).2 := fun q => h3 (nI_le_r (by omega) q)
        refine WP.run (pc' := 33) (L' := [.ref 247, .int (nI (k + 1)), .int (nI ((stP N k).2)), .int (nI (k + 1))]) (st' := [.int (nI (k + 1)), .ref 247]) (I1 := I) 4 rfl ?_
        refine WP.callV (rest := []) rfl rfl (sp_mostWeight (d := d) (m := k + 1) hT hN (by omega)) ?_
        refine WP.run (pc' := 40) (L' := [.ref 247, .int (nI (k + 1)), .int (nI (mwN N (k + 1))), .int ((nI (k + 1)) + nI 1)]) (st' := []) (I1 := I) 2 rfl ?_
        refine WP.cg (L' := [.ref 247, .int (nI (k + 1)), .int (nI (mwN N (k + 1))), .int (nI (k + 1 + 1))]) (congrArg (fun z : Int32 => ([.ref 247, .int (nI (k + 1)), .int (nI (mwN N (k + 1))), .int z] : List Value)) (nI_add (k + 1) 1)) rfl rfl ?_
        refine WP.run (pc' := 6) (L' := [.ref 247, .int (nI (k + 1)), .int (nI (mwN N (k + 1))), .int (nI (k + 1 + 1))]) (st' := []) (I1 := I) 1 rfl ?_
        refine WP.cg (L' := [.ref 247, .int (nI ((stP N (k + 1)).1)), .int (nI ((stP N (k + 1)).2)), .int (nI (k + 1 + 1))]) (by first | rw [stP_t (by assumption) (by omega)] | rw [stP_f1 (by assumption)] | rw [stP_f2 (by omega)]) rfl rfl (ih (by omega))
    · refine WP.run (pc' := 40) (L' := [.ref 247, .int (nI ((stP N k).1)), .int (nI ((stP N k).2)), .int ((nI (k + 1)) + nI 1)]) (st' := []) (I1 := I) 2 rfl ?_
      refine WP.cg (L' := [.ref 247, .int (nI ((stP N k).1)), .int (nI ((stP N k).2)), .int (nI (k + 1 + 1))]) (congrArg (fun z : Int32 => ([.ref 247, .int (nI ((stP N k).1)), .int (nI ((stP N k).2)), .int z] : List Value)) (nI_add (k + 1) 1)) rfl rfl ?_
      refine WP.run (pc' := 6) (L' := [.ref 247, .int (nI ((stP N k).1)), .int (nI ((stP N k).2)), .int (nI (k + 1 + 1))]) (st' := []) (I1 := I) 1 rfl ?_
      refine WP.cg (L' := [.ref 247, .int (nI ((stP N (k + 1)).1)), .int (nI ((stP N (k + 1)).2)), .int (nI (k + 1 + 1))]) (by first | rw [stP_t (by assumption) (by omega)] | rw [stP_f1 (by assumption)] | rw [stP_f2 (by omega)]) rfl rfl (ih (by omega))
set_option maxRecDepth 100000 in
theorem sp_stoutest {d : Nat} {I : Pl} {N : Nat → Nat} (hT : Tw I 247 N) (hN : TI N) : Ev (d + 3) 75 [.ref 247] (mem I) (some (.int (nI (stN N)))) (mem I) := by
  refine Ev.only (EvX.enter rfl rfl rfl ?_)
  refine WP.run (pc' := 6) (L' := [.ref 247, .int (nI 0), .int (nI 0), .int (nI 1)]) (st' := []) (I1 := I) 6 rfl ?_
  exact lp_stoutest hT hN 0 (Nat.zero_le _)
