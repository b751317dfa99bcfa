/-! the reference: leaves -/
theorem iLtZ {x : Int32} : x < 0 ↔ x.toInt < 0 := lt_iff_
theorem iGeZ {x : Int32} : (0 : Int32) ≤ x ↔ 0 ≤ x.toInt := le_iff_
theorem iGtZ {x : Int32} : (0 : Int32) < x ↔ 0 < x.toInt := lt_iff_
theorem iLeZ {x : Int32} : x ≤ 0 ↔ x.toInt ≤ 0 := le_iff_
theorem iEqZ {x : Int32} : x = 0 ↔ x.toInt = 0 := eq_iff_
theorem iLtL {x : Int32} {n : Nat} (hn : n < 2 ^ 31) : x < nI n ↔ x.toInt < n := by rw [lt_iff_, nI_int hn]
theorem iGeL {x : Int32} {n : Nat} (hn : n < 2 ^ 31) : nI n ≤ x ↔ n ≤ x.toInt := by rw [le_iff_, nI_int hn]
theorem iGtL {x : Int32} {n : Nat} (hn : n < 2 ^ 31) : nI n < x ↔ n < x.toInt := by rw [lt_iff_, nI_int hn]
theorem iLeL {x : Int32} {n : Nat} (hn : n < 2 ^ 31) : x ≤ nI n ↔ x.toInt ≤ n := by rw [le_iff_, nI_int hn]
theorem iEqL {x : Int32} {n : Nat} (hn : n < 2 ^ 31) : x = nI n ↔ x.toInt = n := by rw [eq_iff_, nI_int hn]
def T0 (I : Pl) (N : Nat → Nat) : Prop := ∀ k, k < 47 → I 272 k = nI (N k)
abbrev inR (x : Int32) (a b : Int) : Prop := a ≤ x.toInt ∧ x.toInt ≤ b
theorem b2i01 {c : Prop} [Decidable c] {v : Int32} (h : b2i c = v) : some (Value.int v) = some (Value.int (b2i c)) := by rw [h]
set_option maxRecDepth 100000 in
theorem sp_in {d : Nat} {I : Pl} {v lo hi : Int64} : Ev (d + 1) 124 [.long v, .long lo, .long hi] (mem I) (some (.int (b2i (lo.toInt ≤ v.toInt ∧ v.toInt ≤ hi.toInt)))) (mem I) := by
  refine Ev.only (EvX.enter rfl rfl rfl ?_)
  refine WP.run (pc' := if lg_cmp v lo < 0 then 17 else 6) (L' := [.long v, UU, .long lo, UU, .long hi, UU]) (st' := []) (I1 := I) 4 rfl ?_
  refine WP.br (fun h1 => ?_) (fun h1 => ?_)
  · have h1 := Int64.lt_iff_toInt_lt.mp ((lg_cmp_lt v lo).mp h1)
    refine WP.run (pc' := 18) (L' := [.long v, UU, .long lo, UU, .long hi, UU]) (st' := [.int (nI 0)]) (I1 := I) 1 rfl ?_
    exact WP.ret rfl rfl ⟨b2i01 (b2iF (by omega)), rfl⟩
  · have h1 : ¬ v.toInt < lo.toInt := fun q => h1 ((lg_cmp_lt v lo).mpr (Int64.lt_iff_toInt_lt.mpr q))
    refine WP.run (pc' := if 0 < lg_cmp v hi then 17 else 13) (L' := [.long v, UU, .long lo, UU, .long hi, UU]) (st' := []) (I1 := I) 4 rfl ?_
    refine WP.br (fun h2 => ?_) (fun h2 => ?_)
    · have h2 := Int64.lt_iff_toInt_lt.mp ((lg_cmp_gt v hi).mp h2)
      refine WP.run (pc' := 18) (L' := [.long v, UU, .long lo, UU, .long hi, UU]) (st' := [.int (nI 0)]) (I1 := I) 1 rfl ?_
      exact WP.ret rfl rfl ⟨b2i01 (b2iF (by omega)), rfl⟩
    · have h2 : ¬ hi.toInt < v.toInt := fun q => h2 ((lg_cmp_gt v hi).mpr (Int64.lt_iff_toInt_lt.mpr q))
      refine WP.run (pc' := 18) (L' := [.long v, UU, .long lo, UU, .long hi, UU]) (st' := [.int (nI 1)]) (I1 := I) 2 rfl ?_
      exact WP.ret rfl rfl ⟨b2i01 (b2iT (by omega)), rfl⟩
theorem sp_inA {d : Nat} {I : Pl} {x : Int32} {n : Nat} {hi : Int64} (h : hi.toInt = (n : Int) - 1) : Ev (d + 1) 124 [.long x.toInt64, .long 0, .long hi] (mem I) (some (.int (b2i (inA x n)))) (mem I) := by
  have e : b2i (inA x n) = b2i ((0 : Int64).toInt ≤ x.toInt64.toInt ∧ x.toInt64.toInt ≤ hi.toInt) := b2i_cg (by
    rw [inA_iff, Int32.toInt_toInt64, h, show (0 : Int64).toInt = 0 from rfl]
    omega)
  rw [e]
  exact sp_in
theorem sp_inR {d : Nat} {I : Pl} {x : Int32} {lo hi : Int64} {a b : Int} (h1 : lo.toInt = a) (h2 : hi.toInt = b) : Ev (d + 1) 124 [.long x.toInt64, .long lo, .long hi] (mem I) (some (.int (b2i (inR x a b)))) (mem I) := by
  have e : b2i (inR x a b) = b2i (lo.toInt ≤ x.toInt64.toInt ∧ x.toInt64.toInt ≤ hi.toInt) := b2i_cg (by
    rw [Int32.toInt_toInt64, h1, h2])
  rw [e]
  exact sp_in
theorem hi_sub {n : Nat} (hn : n < 2 ^ 30) : (nI n - nI 1).toInt64.toInt = (n : Int) - 1 := by
  rw [Int32.toInt_toInt64, pk_sub_toInt hn (by decide)]
  rfl
theorem popc1 : ∀ k, k < 6 → ∀ m, m < 64 → bitN m k = 1 → (popc m = 1 ↔ m = 2 ^ k) := by decide +kernel

set_option maxRecDepth 100000 in
theorem ms_isRow {d : Nat} {I : Pl} {x : Int32} : Ev (d + 2) 129 [.int x] (mem I) (some (.int (b2i (inA x 8)))) (mem I) := by
  refine Ev.only (EvX.enter rfl rfl rfl ?_)
  refine WP.run (pc' := 6) (L' := [.int x]) (st' := [.long (7 : Int64), .long (0 : Int64), .long x.toInt64]) (I1 := I) 4 rfl ?_
  refine WP.callB (rest := []) rfl rfl (sp_inA (d := d) (x := x) (n := 8) (hi := (7 : Int64)) rfl) (fun h1 => ?_) (fun h1 => ?_)
  · exact WP.ret rfl rfl (⟨b2i01 (b2iT (by assumption)), rfl⟩)
  · exact WP.ret rfl rfl (⟨b2i01 (b2iF (by assumption)), rfl⟩)
set_option maxRecDepth 100000 in
theorem ms_isStrand {d : Nat} {I : Pl} {x : Int32} {N : Nat → Nat} (hM : T0 I N) (hN : TI N) : Ev (d + 2) 152 [.ref 271, .int x] (mem I) (some (.int (b2i (inA x (N 2))))) (mem I) := by
  obtain ⟨b0, b1, b2, b3, b4, b5, b6, b7, b8, bS, bC, bS1, bC1, bZ, bG⟩ := id hN
  refine Ev.only (EvX.enter rfl rfl rfl ?_)
  refine WP.run (pc' := 8) (L' := [.ref 271, .int x]) (st' := [.int (nI 2), .ref 272, .long (0 : Int64), .long x.toInt64]) (I1 := I) 6 rfl ?_
  refine WP.iald rfl rfl rfl (by omega) (by decide) ?_
  refine WP.cg (st' := [.int (nI (N 2)), .long (0 : Int64), .long x.toInt64]) rfl (congrArg (fun z : Int32 => (.int z :: [.long (0 : Int64), .long x.toInt64] : List Value)) (hM 2 (by omega))) rfl ?_
  refine WP.run (pc' := 12) (L' := [.ref 271, .int x]) (st' := [.long (((nI (N 2)) - (nI 1)).toInt64), .long (0 : Int64), .long x.toInt64]) (I1 := I) 3 rfl ?_
  refine WP.callB (rest := []) rfl rfl (sp_inA (d := d) (x := x) (n := (N 2)) (hi := ((nI (N 2)) - (nI 1)).toInt64) (hi_sub (by omega))) (fun h1 => ?_) (fun h1 => ?_)
  · exact WP.ret rfl rfl (⟨b2i01 (b2iT (by assumption)), rfl⟩)
  · exact WP.ret rfl rfl (⟨b2i01 (b2iF (by assumption)), rfl⟩)
set_option maxRecDepth 100000 in
theorem ms_isClimber {d : Nat} {I : Pl} {x : Int32} {N : Nat → Nat} (hM : T0 I N) (hN : TI N) : Ev (d + 2) 153 [.ref 271, .int x] (mem I) (some (.int (b2i (inA x (N 3))))) (mem I) := by
  obtain ⟨b0, b1, b2, b3, b4, b5, b6, b7, b8, bS, bC, bS1, bC1, bZ, bG⟩ := id hN
  refine Ev.only (EvX.enter rfl rfl rfl ?_)
  refine WP.run (pc' := 8) (L' := [.ref 271, .int x]) (st' := [.int (nI 3), .ref 272, .long (0 : Int64), .long x.toInt64]) (I1 := I) 6 rfl ?_
  refine WP.iald rfl rfl rfl (by omega) (by decide) ?_
  refine WP.cg (st' := [.int (nI (N 3)), .long (0 : Int64), .long x.toInt64]) rfl (congrArg (fun z : Int32 => (.int z :: [.long (0 : Int64), .long x.toInt64] : List Value)) (hM 3 (by omega))) rfl ?_
  refine WP.run (pc' := 12) (L' := [.ref 271, .int x]) (st' := [.long (((nI (N 3)) - (nI 1)).toInt64), .long (0 : Int64), .long x.toInt64]) (I1 := I) 3 rfl ?_
  refine WP.callB (rest := []) rfl rfl (sp_inA (d := d) (x := x) (n := (N 3)) (hi := ((nI (N 3)) - (nI 1)).toInt64) (hi_sub (by omega))) (fun h1 => ?_) (fun h1 => ?_)
  · exact WP.ret rfl rfl (⟨b2i01 (b2iT (by assumption)), rfl⟩)
  · exact WP.ret rfl rfl (⟨b2i01 (b2iF (by assumption)), rfl⟩)
set_option maxRecDepth 100000 in
theorem ms_isSet {d : Nat} {I : Pl} {x : Int32} {N : Nat → Nat} (hM : T0 I N) (hN : TI N) : Ev (d + 2) 154 [.ref 271, .int x] (mem I) (some (.int (b2i (inA x (2 ^ N 2))))) (mem I) := by
  obtain ⟨b0, b1, b2, b3, b4, b5, b6, b7, b8, bS, bC, bS1, bC1, bZ, bG⟩ := id hN
  obtain ⟨s6, s7, s64⟩ := hN.set64
  refine Ev.only (EvX.enter rfl rfl rfl ?_)
  refine WP.run (pc' := 9) (L' := [.ref 271, .int x]) (st' := [.int (nI 2), .ref 272, .int (nI 1), .long (0 : Int64), .long x.toInt64]) (I1 := I) 7 rfl ?_
  refine WP.iald rfl rfl rfl (by omega) (by decide) ?_
  refine WP.cg (st' := [.int (nI (N 2)), .int (nI 1), .long (0 : Int64), .long x.toInt64]) rfl (congrArg (fun z : Int32 => (.int z :: [.int (nI 1), .long (0 : Int64), .long x.toInt64] : List Value)) (hM 2 (by omega))) rfl ?_
  refine WP.run (pc' := 11) (L' := [.ref 271, .int x]) (st' := [.int ((nI 1) <<< ((nI (N 2)) &&& 31)), .long (0 : Int64), .long x.toInt64]) (I1 := I) 1 rfl ?_
  refine WP.cg (st' := [.int (nI (2 ^ (N 2))), .long (0 : Int64), .long x.toInt64]) rfl (congrArg (fun z : Int32 => (.int z :: [.long (0 : Int64), .long x.toInt64] : List Value)) (nI_shl1 (N 2) (by omega))) rfl ?_
  refine WP.run (pc' := 14) (L' := [.ref 271, .int x]) (st' := [.long (((nI (2 ^ (N 2))) - (nI 1)).toInt64), .long (0 : Int64), .long x.toInt64]) (I1 := I) 3 rfl ?_
  refine WP.callB (rest := []) rfl rfl (sp_inA (d := d) (x := x) (n := (2 ^ (N 2))) (hi := ((nI (2 ^ (N 2))) - (nI 1)).toInt64) (hi_sub (by omega))) (fun h1 => ?_) (fun h1 => ?_)
  · exact WP.ret rfl rfl (⟨b2i01 (b2iT (by assumption)), rfl⟩)
  · exact WP.ret rfl rfl (⟨b2i01 (b2iF (by assumption)), rfl⟩)
set_option maxRecDepth 100000 in
theorem ms_isNone {d : Nat} {I : Pl} {N : Nat → Nat} (hM : T0 I N) (hN : TI N) : Ev (d + 1) 151 [.ref 271] (mem I) (some (.int (b2i (N 8 = 0)))) (mem I) := by
  obtain ⟨b0, b1, b2, b3, b4, b5, b6, b7, b8, bS, bC, bS1, bC1, bZ, bG⟩ := id hN
  refine Ev.only (EvX.enter rfl rfl rfl ?_)
  refine WP.run (pc' := 6) (L' := [.ref 271]) (st' := [.int (nI 8), .ref 272]) (I1 := I) 3 rfl ?_
  refine WP.iald rfl rfl rfl (by omega) (by decide) ?_
  refine WP.cg (st' := [.int (nI (N 8))]) rfl (congrArg (fun z : Int32 => (.int z :: [] : List Value)) (hM 8 (by omega))) rfl ?_
  refine WP.run (pc' := if ¬ (nI (N 8)) = 0 then 14 else 10) (L' := [.ref 271]) (st' := []) (I1 := I) 1 rfl ?_
  refine WP.br (fun h1 => ?_) (fun h1 => ?_)
  · have h1 : ¬ N 8 = 0 := fun q => h1 (nI_eq_r q)
    refine WP.run (pc' := 15) (L' := [.ref 271]) (st' := [.int (nI 0)]) (I1 := I) 1 rfl ?_
    exact WP.ret rfl rfl (⟨b2i01 (b2iF (by assumption)), rfl⟩)
  · have h1 : N 8 = 0 := nI_eq_ (by omega) (by omega) (Decidable.byContradiction h1)
    refine WP.run (pc' := 15) (L' := [.ref 271]) (st' := [.int (nI 1)]) (I1 := I) 2 rfl ?_
    exact WP.ret rfl rfl (⟨b2i01 (b2iT (by assumption)), rfl⟩)
set_option maxRecDepth 100000 in
theorem ms_has {d : Nat} {I : Pl} {m k : Nat} (hm : m < 64) (hk : k < 32) : Ev (d + 1) 125 [.int (nI m), .int (nI k)] (mem I) (some (.int (b2i (bitN m k = 1)))) (mem I) := by
  have hbl := bitN_lt m k
  refine Ev.only (EvX.enter rfl rfl rfl ?_)
  refine WP.run (pc' := 3) (L' := [.int (nI m), .int (nI k)]) (st' := [.int ((nI m) >>> ((nI k) &&& 31))]) (I1 := I) 3 rfl ?_
  refine WP.cg (st' := [.int (nI (m / 2 ^ k))]) rfl (congrArg (fun z : Int32 => (.int z :: [] : List Value)) (nI_shr m k (by omega) (by omega))) rfl ?_
  refine WP.run (pc' := 5) (L' := [.int (nI m), .int (nI k)]) (st' := [.int ((nI (m / 2 ^ k)) &&& (nI 1))]) (I1 := I) 2 rfl ?_
  refine WP.cg (st' := [.int (nI (bitN m k))]) rfl (congrArg (fun z : Int32 => (.int z :: [] : List Value)) (nI_bit _ _)) rfl ?_
  refine WP.run (pc' := if ¬ (nI (bitN m k)) = (nI 1) then 13 else 9) (L' := [.int (nI m), .int (nI k)]) (st' := []) (I1 := I) 2 rfl ?_
  refine WP.br (fun h1 => ?_) (fun h1 => ?_)
  · have h1 : ¬ bitN m k = 1 := fun q => h1 (nI_eq_r q)
    refine WP.run (pc' := 14) (L' := [.int (nI m), .int (nI k)]) (st' := [.int (nI 0)]) (I1 := I) 1 rfl ?_
    exact WP.ret rfl rfl (⟨b2i01 (b2iF (by assumption)), rfl⟩)
  · have h1 : bitN m k = 1 := nI_eq_ (by omega) (by omega) (Decidable.byContradiction h1)
    refine WP.run (pc' := 14) (L' := [.int (nI m), .int (nI k)]) (st' := [.int (nI 1)]) (I1 := I) 2 rfl ?_
    exact WP.ret rfl rfl (⟨b2i01 (b2iT (by assumption)), rfl⟩)
theorem popc_bits {m : Nat} : popc m = 0 + bitN m 0 + bitN m 1 + bitN m 2 + bitN m 3 + bitN m 4 + bitN m 5 := by
  unfold popc bitN
  rw [show (2:Nat) ^ 0 = 1 from rfl, show (2:Nat) ^ 1 = 2 from rfl, show (2:Nat) ^ 2 = 4 from rfl, show (2:Nat) ^ 3 = 8 from rfl, show (2:Nat) ^ 4 = 16 from rfl, show (2:Nat) ^ 5 = 32 from rfl, Nat.div_one, Nat.zero_add]
set_option maxRecDepth 100000 in
theorem ms_ones {d : Nat} {I : Pl} {m : Nat} (hm : m < 64) : Ev (d + 1) 126 [.int (nI m)] (mem I) (some (.int (nI (popc m)))) (mem I) := by
  refine Ev.only (EvX.enter rfl rfl rfl ?_)
  refine WP.run (pc' := 4) (L' := [.int (nI m), .int (nI 0), .int (nI 0)]) (st' := []) (I1 := I) 4 rfl ?_
  refine WP.run (pc' := 14) (L' := [.int (nI m), .int (nI (0)), .int (nI 0)]) (st' := [.int ((nI m) >>> ((nI 0) &&& 31)), .int (nI (0))]) (I1 := I) 7 rfl ?_
  refine WP.cg (st' := [.int (nI (m / 2 ^ 0)), .int (nI (0))]) rfl (congrArg (fun z : Int32 => ([.int z, .int (nI (0))] : List Value)) (nI_shr m 0 (by omega) (by omega))) rfl ?_
  refine WP.run (pc' := 16) (L' := [.int (nI m), .int (nI (0)), .int (nI 0)]) (st' := [.int ((nI (m / 2 ^ 0)) &&& (nI 1)), .int (nI (0))]) (I1 := I) 2 rfl ?_
  refine WP.cg (st' := [.int (nI (bitN m 0)), .int (nI (0))]) rfl (congrArg (fun z : Int32 => ([.int z, .int (nI (0))] : List Value)) (nI_bit m 0)) rfl ?_
  refine WP.run (pc' := 17) (L' := [.int (nI m), .int (nI (0)), .int (nI 0)]) (st' := [.int ((nI (0)) + nI (bitN m 0))]) (I1 := I) 1 rfl ?_
  refine WP.cg (st' := [.int (nI (0 + bitN m 0))]) rfl (congrArg (fun z : Int32 => ([.int z] : List Value)) (nI_add (0) (bitN m 0))) rfl ?_
  refine WP.run (pc' := 4) (L' := [.int (nI m), .int (nI (0 + bitN m 0)), .int (nI 1)]) (st' := []) (I1 := I) 3 rfl ?_
  refine WP.run (pc' := 14) (L' := [.int (nI m), .int (nI (0 + bitN m 0)), .int (nI 1)]) (st' := [.int ((nI m) >>> ((nI 1) &&& 31)), .int (nI (0 + bitN m 0))]) (I1 := I) 7 rfl ?_
  refine WP.cg (st' := [.int (nI (m / 2 ^ 1)), .int (nI (0 + bitN m 0))]) rfl (congrArg (fun z : Int32 => ([.int z, .int (nI (0 + bitN m 0))] : List Value)) (nI_shr m 1 (by omega) (by omega))) rfl ?_
  refine WP.run (pc' := 16) (L' := [.int (nI m), .int (nI (0 + bitN m 0)), .int (nI 1)]) (st' := [.int ((nI (m / 2 ^ 1)) &&& (nI 1)), .int (nI (0 + bitN m 0))]) (I1 := I) 2 rfl ?_
  refine WP.cg (st' := [.int (nI (bitN m 1)), .int (nI (0 + bitN m 0))]) rfl (congrArg (fun z : Int32 => ([.int z, .int (nI (0 + bitN m 0))] : List Value)) (nI_bit m 1)) rfl ?_
  refine WP.run (pc' := 17) (L' := [.int (nI m), .int (nI (0 + bitN m 0)), .int (nI 1)]) (st' := [.int ((nI (0 + bitN m 0)) + nI (bitN m 1))]) (I1 := I) 1 rfl ?_
  refine WP.cg (st' := [.int (nI (0 + bitN m 0 + bitN m 1))]) rfl (congrArg (fun z : Int32 => ([.int z] : List Value)) (nI_add (0 + bitN m 0) (bitN m 1))) rfl ?_
  refine WP.run (pc' := 4) (L' := [.int (nI m), .int (nI (0 + bitN m 0 + bitN m 1)), .int (nI 2)]) (st' := []) (I1 := I) 3 rfl ?_
  refine WP.run (pc' := 14) (L' := [.int (nI m), .int (nI (0 + bitN m 0 + bitN m 1)), .int (nI 2)]) (st' := [.int ((nI m) >>> ((nI 2) &&& 31)), .int (nI (0 + bitN m 0 + bitN m 1))]) (I1 := I) 7 rfl ?_
  refine WP.cg (st' := [.int (nI (m / 2 ^ 2)), .int (nI (0 + bitN m 0 + bitN m 1))]) rfl (congrArg (fun z : Int32 => ([.int z, .int (nI (0 + bitN m 0 + bitN m 1))] : List Value)) (nI_shr m 2 (by omega) (by omega))) rfl ?_
  refine WP.run (pc' := 16) (L' := [.int (nI m), .int (nI (0 + bitN m 0 + bitN m 1)), .int (nI 2)]) (st' := [.int ((nI (m / 2 ^ 2)) &&& (nI 1)), .int (nI (0 + bitN m 0 + bitN m 1))]) (I1 := I) 2 rfl ?_
  refine WP.cg (st' := [.int (nI (bitN m 2)), .int (nI (0 + bitN m 0 + bitN m 1))]) rfl (congrArg (fun z : Int32 => ([.int z, .int (nI (0 + bitN m 0 + bitN m 1))] : List Value)) (nI_bit m 2)) rfl ?_
  refine WP.run (pc' := 17) (L' := [.int (nI m), .int (nI (0 + bitN m 0 + bitN m 1)), .int (nI 2)]) (st' := [.int ((nI (0 + bitN m 0 + bitN m 1)) + nI (bitN m 2))]) (I1 := I) 1 rfl ?_
  refine WP.cg (st' := [.int (nI (0 + bitN m 0 + bitN m 1 + bitN m 2))]) rfl (congrArg (fun z : Int32 => ([.int z] : List Value)) (nI_add (0 + bitN m 0 + bitN m 1) (bitN m 2))) rfl ?_
  refine WP.run (pc' := 4) (L' := [.int (nI m), .int (nI (0 + bitN m 0 + bitN m 1 + bitN m 2)), .int (nI 3)]) (st' := []) (I1 := I) 3 rfl ?_
  refine WP.run (pc' := 14) (L' := [.int (nI m), .int (nI (0 + bitN m 0 + bitN m 1 + bitN m 2)), .int (nI 3)]) (st' := [.int ((nI m) >>> ((nI 3) &&& 31)), .int (nI (0 + bitN m 0 + bitN m 1 + bitN m 2))]) (I1 := I) 7 rfl ?_
  refine WP.cg (st' := [.int (nI (m / 2 ^ 3)), .int (nI (0 + bitN m 0 + bitN m 1 + bitN m 2))]) rfl (congrArg (fun z : Int32 => ([.int z, .int (nI (0 + bitN m 0 + bitN m 1 + bitN m 2))] : List Value)) (nI_shr m 3 (by omega) (by omega))) rfl ?_
  refine WP.run (pc' := 16) (L' := [.int (nI m), .int (nI (0 + bitN m 0 + bitN m 1 + bitN m 2)), .int (nI 3)]) (st' := [.int ((nI (m / 2 ^ 3)) &&& (nI 1)), .int (nI (0 + bitN m 0 + bitN m 1 + bitN m 2))]) (I1 := I) 2 rfl ?_
  refine WP.cg (st' := [.int (nI (bitN m 3)), .int (nI (0 + bitN m 0 + bitN m 1 + bitN m 2))]) rfl (congrArg (fun z : Int32 => ([.int z, .int (nI (0 + bitN m 0 + bitN m 1 + bitN m 2))] : List Value)) (nI_bit m 3)) rfl ?_
  refine WP.run (pc' := 17) (L' := [.int (nI m), .int (nI (0 + bitN m 0 + bitN m 1 + bitN m 2)), .int (nI 3)]) (st' := [.int ((nI (0 + bitN m 0 + bitN m 1 + bitN m 2)) + nI (bitN m 3))]) (I1 := I) 1 rfl ?_
  refine WP.cg (st' := [.int (nI (0 + bitN m 0 + bitN m 1 + bitN m 2 + bitN m 3))]) rfl (congrArg (fun z : Int32 => ([.int z] : List Value)) (nI_add (0 + bitN m 0 + bitN m 1 + bitN m 2) (bitN m 3))) rfl ?_
  refine WP.run (pc' := 4) (L' := [.int (nI m), .int (nI (0 + bitN m 0 + bitN m 1 + bitN m 2 + bitN m 3)), .int (nI 4)]) (st' := []) (I1 := I) 3 rfl ?_
  refine WP.run (pc' := 14) (L' := [.int (nI m), .int (nI (0 + bitN m 0 + bitN m 1 + bitN m 2 + bitN m 3)), .int (nI 4)]) (st' := [.int ((nI m) >>> ((nI 4) &&& 31)), .int (nI (0 + bitN m 0 + bitN m 1 + bitN m 2 + bitN m 3))]) (I1 := I) 7 rfl ?_
  refine WP.cg (st' := [.int (nI (m / 2 ^ 4)), .int (nI (0 + bitN m 0 + bitN m 1 + bitN m 2 + bitN m 3))]) rfl (congrArg (fun z : Int32 => ([.int z, .int (nI (0 + bitN m 0 + bitN m 1 + bitN m 2 + bitN m 3))] : List Value)) (nI_shr m 4 (by omega) (by omega))) rfl ?_
  refine WP.run (pc' := 16) (L' := [.int (nI m), .int (nI (0 + bitN m 0 + bitN m 1 + bitN m 2 + bitN m 3)), .int (nI 4)]) (st' := [.int ((nI (m / 2 ^ 4)) &&& (nI 1)), .int (nI (0 + bitN m 0 + bitN m 1 + bitN m 2 + bitN m 3))]) (I1 := I) 2 rfl ?_
  refine WP.cg (st' := [.int (nI (bitN m 4)), .int (nI (0 + bitN m 0 + bitN m 1 + bitN m 2 + bitN m 3))]) rfl (congrArg (fun z : Int32 => ([.int z, .int (nI (0 + bitN m 0 + bitN m 1 + bitN m 2 + bitN m 3))] : List Value)) (nI_bit m 4)) rfl ?_
  refine WP.run (pc' := 17) (L' := [.int (nI m), .int (nI (0 + bitN m 0 + bitN m 1 + bitN m 2 + bitN m 3)), .int (nI 4)]) (st' := [.int ((nI (0 + bitN m 0 + bitN m 1 + bitN m 2 + bitN m 3)) + nI (bitN m 4))]) (I1 := I) 1 rfl ?_
  refine WP.cg (st' := [.int (nI (0 + bitN m 0 + bitN m 1 + bitN m 2 + bitN m 3 + bitN m 4))]) rfl (congrArg (fun z : Int32 => ([.int z] : List Value)) (nI_add (0 + bitN m 0 + bitN m 1 + bitN m 2 + bitN m 3) (bitN m 4))) rfl ?_
  refine WP.run (pc' := 4) (L' := [.int (nI m), .int (nI (0 + bitN m 0 + bitN m 1 + bitN m 2 + bitN m 3 + bitN m 4)), .int (nI 5)]) (st' := []) (I1 := I) 3 rfl ?_
  refine WP.run (pc' := 14) (L' := [.int (nI m), .int (nI (0 + bitN m 0 + bitN m 1 + bitN m 2 + bitN m 3 + bitN m 4)), .int (nI 5)]) (st' := [.int ((nI m) >>> ((nI 5) &&& 31)), .int (nI (0 + bitN m 0 + bitN m 1 + bitN m 2 + bitN m 3 + bitN m 4))]) (I1 := I) 7 rfl ?_
  refine WP.cg (st' := [.int (nI (m / 2 ^ 5)), .int (nI (0 + bitN m 0 + bitN m 1 + bitN m 2 + bitN m 3 + bitN m 4))]) rfl (congrArg (fun z : Int32 => ([.int z, .int (nI (0 + bitN m 0 + bitN m 1 + bitN m 2 + bitN m 3 + bitN m 4))] : List Value)) (nI_shr m 5 (by omega) (by omega))) rfl ?_
  refine WP.run (pc' := 16) (L' := [.int (nI m), .int (nI (0 + bitN m 0 + bitN m 1 + bitN m 2 + bitN m 3 + bitN m 4)), .int (nI 5)]) (st' := [.int ((nI (m / 2 ^ 5)) &&& (nI 1)), .int (nI (0 + bitN m 0 + bitN m 1 + bitN m 2 + bitN m 3 + bitN m 4))]) (I1 := I) 2 rfl ?_
  refine WP.cg (st' := [.int (nI (bitN m 5)), .int (nI (0 + bitN m 0 + bitN m 1 + bitN m 2 + bitN m 3 + bitN m 4))]) rfl (congrArg (fun z : Int32 => ([.int z, .int (nI (0 + bitN m 0 + bitN m 1 + bitN m 2 + bitN m 3 + bitN m 4))] : List Value)) (nI_bit m 5)) rfl ?_
  refine WP.run (pc' := 17) (L' := [.int (nI m), .int (nI (0 + bitN m 0 + bitN m 1 + bitN m 2 + bitN m 3 + bitN m 4)), .int (nI 5)]) (st' := [.int ((nI (0 + bitN m 0 + bitN m 1 + bitN m 2 + bitN m 3 + bitN m 4)) + nI (bitN m 5))]) (I1 := I) 1 rfl ?_
  refine WP.cg (st' := [.int (nI (0 + bitN m 0 + bitN m 1 + bitN m 2 + bitN m 3 + bitN m 4 + bitN m 5))]) rfl (congrArg (fun z : Int32 => ([.int z] : List Value)) (nI_add (0 + bitN m 0 + bitN m 1 + bitN m 2 + bitN m 3 + bitN m 4) (bitN m 5))) rfl ?_
  refine WP.run (pc' := 4) (L' := [.int (nI m), .int (nI (0 + bitN m 0 + bitN m 1 + bitN m 2 + bitN m 3 + bitN m 4 + bitN m 5)), .int (nI 6)]) (st' := []) (I1 := I) 3 rfl ?_
  refine WP.run (pc' := 25) (L' := [.int (nI m), .int (nI (0 + bitN m 0 + bitN m 1 + bitN m 2 + bitN m 3 + bitN m 4 + bitN m 5)), .int (nI 6)]) (st' := [.int (nI (0 + bitN m 0 + bitN m 1 + bitN m 2 + bitN m 3 + bitN m 4 + bitN m 5))]) (I1 := I) 4 rfl ?_
  exact WP.ret rfl rfl ⟨by rw [popc_bits], rfl⟩

set_option maxRecDepth 100000 in
theorem ms_pullOf {d : Nat} {I : Pl} {w : Nat} {N : Nat → Nat} (hM : T0 I N) (hN : TI N) (hw : w < 1000) : Ev (d + 1) 156 [.ref 271, .int (nI w)] (mem I) (some (.int (nI (pullN N w)))) (mem I) := by
  obtain ⟨b0, b1, b2, b3, b4, b5, b6, b7, b8, bS, bC, bS1, bC1, bZ, bG⟩ := id hN
  refine Ev.only (EvX.enter rfl rfl rfl ?_)
  refine WP.run (pc' := 5) (L' := [.ref 271, .int (nI w)]) (st' := [.int (nI 5), .ref 272]) (I1 := I) 3 rfl ?_
  refine WP.iald rfl rfl rfl (by omega) (by decide) ?_
  refine WP.cg (st' := [.int (nI (N 5))]) rfl (congrArg (fun z : Int32 => (.int z :: [] : List Value)) (hM 5 (by omega))) rfl ?_
  refine WP.run (pc' := if ¬ (nI (N 5)) = (nI 1) then 18 else 10) (L' := [.ref 271, .int (nI w)]) (st' := []) (I1 := I) 2 rfl ?_
  refine WP.br (fun h1 => ?_) (fun h1 => ?_)
  · have h1 : ¬ N 5 = 1 := fun q => h1 (nI_eq_r q)
    refine WP.run (pc' := 19) (L' := [.ref 271, .int (nI w)]) (st' := [.int (nI w)]) (I1 := I) 1 rfl ?_
    exact WP.ret rfl rfl (⟨by unfold pullN; first | rw [if_pos (by assumption)] | rw [if_neg (by assumption)], rfl⟩)
  · have h1 : N 5 = 1 := nI_eq_ (by omega) (by omega) (Decidable.byContradiction h1)
    refine WP.run (pc' := 13) (L' := [.ref 271, .int (nI w)]) (st' := [.int ((nI w) + (nI 1))]) (I1 := I) 3 rfl ?_
    refine WP.cg (st' := [.int (nI (w + 1))]) rfl (congrArg (fun z : Int32 => (.int z :: [] : List Value)) (nI_add w 1)) rfl ?_
    refine WP.run (pc' := 14) (L' := [.ref 271, .int (nI w)]) (st' := [.int (nI 2), .int (nI (w + 1))]) (I1 := I) 1 rfl ?_
    refine WP.idiv (a := w + 1) (b := 2) rfl (by omega) (by omega) (by omega) ?_
    have hdv2 : (w + 1) / 2 ≤ (w + 1) := Nat.div_le_self _ _
    refine WP.run (pc' := 19) (L' := [.ref 271, .int (nI w)]) (st' := [.int (nI ((w + 1) / 2))]) (I1 := I) 1 rfl ?_
    exact WP.ret rfl rfl (⟨by unfold pullN; first | rw [if_pos (by assumption)] | rw [if_neg (by assumption)], rfl⟩)
set_option maxRecDepth 100000 in
theorem ms_shareOf {d : Nat} {I : Pl} {p m : Nat} (hp : p < 1000) (hm : m < 64) : Ev (d + 2) 157 [.int (nI p), .int (nI m)] (mem I) (some (.int (nI (shareN p m)))) (mem I) := by
  have hq := popc_le m
  refine Ev.only (EvX.enter rfl rfl rfl ?_)
  refine WP.run (pc' := 1) (L' := [.int (nI p), .int (nI m), UU]) (st' := [.int (nI m)]) (I1 := I) 1 rfl ?_
  refine WP.callV (rest := []) rfl rfl (ms_ones (d := d) (m := m) (by omega)) ?_
  refine WP.run (pc' := if ¬ (nI (popc m)) = 0 then 13 else 9) (L' := [.int (nI p), .int (nI m), .int (nI (popc m))]) (st' := []) (I1 := I) 3 rfl ?_
  refine WP.br (fun h1 => ?_) (fun h1 => ?_)
  · have h1 : ¬ popc m = 0 := fun q => h1 (nI_eq_r q)
    refine WP.run (pc' := 16) (L' := [.int (nI p), .int (nI m), .int (nI (popc m))]) (st' := [.int ((nI p) + (nI (popc m)))]) (I1 := I) 3 rfl ?_
    refine WP.cg (st' := [.int (nI (p + (popc m)))]) rfl (congrArg (fun z : Int32 => (.int z :: [] : List Value)) (nI_add p (popc m))) rfl ?_
    refine WP.run (pc' := 18) (L' := [.int (nI p), .int (nI m), .int (nI (popc m))]) (st' := [.int ((nI (p + (popc m))) - (nI 1))]) (I1 := I) 2 rfl ?_
    refine WP.cg (st' := [.int (nI ((p + (popc m)) - 1))]) rfl (congrArg (fun z : Int32 => (.int z :: [] : List Value)) (pk_sub (a := p + (popc m)) (b := 1) (by omega))) rfl ?_
    refine WP.run (pc' := 19) (L' := [.int (nI p), .int (nI m), .int (nI (popc m))]) (st' := [.int (nI (popc m)), .int (nI ((p + (popc m)) - 1))]) (I1 := I) 1 rfl ?_
    refine WP.idiv (a := (p + (popc m)) - 1) (b := popc m) rfl (by omega) (by omega) (by omega) ?_
    have hdv2 : ((p + (popc m)) - 1) / (popc m) ≤ ((p + (popc m)) - 1) := Nat.div_le_self _ _
    exact WP.ret rfl rfl (⟨by unfold shareN; first | rw [if_pos (by assumption)] | rw [if_neg (by assumption)], rfl⟩)
  · have h1 : popc m = 0 := nI_eq_ (by omega) (by omega) (Decidable.byContradiction h1)
    refine WP.run (pc' := 20) (L' := [.int (nI p), .int (nI m), .int (nI (popc m))]) (st' := [.int (nI 0)]) (I1 := I) 2 rfl ?_
    exact WP.ret rfl rfl (⟨by unfold shareN; first | rw [if_pos (by assumption)] | rw [if_neg (by assumption)], rfl⟩)
theorem capM {N : Nat → Nat} {m k : Nat} (hm : m < 64) (hk : k < 6) (hb : bitN m k = 1) : capN N k (popc m) = if N (9 + k) = 5 ∧ m = 2 ^ k then 2 * N (15 + k) else N (15 + k) := by
  unfold capN
  have h := popc1 k hk m hm hb
  by_cases h5 : N (9 + k) = 5
  · by_cases h6 : m = 2 ^ k
    · rw [if_pos ⟨h5, h.mpr h6⟩, if_pos ⟨h5, h6⟩]
    · rw [if_neg (fun q => h6 (h.mp q.2)), if_neg (fun q => h6 q.2)]
  · rw [if_neg (fun q => h5 q.1), if_neg (fun q => h5 q.1)]
theorem capM2 {N : Nat → Nat} {m k v : Nat} (hm : m < 64) (hk : k < 6) (hb : bitN m k = 1) (h : (N (9 + k) = 5 ∧ m = 2 ^ k ∧ v = 2 * N (15 + k)) ∨ (¬ (N (9 + k) = 5 ∧ m = 2 ^ k) ∧ v = N (15 + k))) : capN N k (popc m) = v := by
  rw [capM hm hk hb]
  rcases h with ⟨h1, h2, h3⟩ | ⟨h1, h2⟩
  · rw [if_pos ⟨h1, h2⟩, h3]
  · rw [if_neg h1, h2]
theorem brkM1 {N : Nat → Nat} {m sh k v : Nat} (hm : m < 64 ∧ k < 6) (hb : bitN m k = 1) (hlt : ¬ sh + N (21 + k) ≤ v) (_ : 0 ≤ k) (h : (N (9 + k) = 5 ∧ m = 2 ^ k ∧ v = 2 * N (15 + k)) ∨ (¬ (N (9 + k) = 5 ∧ m = 2 ^ k) ∧ v = N (15 + k))) : brkP N m sh k ||| 2 ^ k = brkP N m sh (k + 1) := by
  have hc := capM2 hm.1 hm.2 hb h
  have := brkP_lt N m sh k
  show _ = brkP N m sh k + _
  rw [if_pos ⟨hb, by omega⟩, or_pow this]
theorem brkM2 {N : Nat → Nat} {m sh k v : Nat} (hm : m < 64 ∧ k < 6) (hlt : sh + N (21 + k) ≤ v) (_ : 0 ≤ k) (h : (N (9 + k) = 5 ∧ m = 2 ^ k ∧ v = 2 * N (15 + k)) ∨ (¬ (N (9 + k) = 5 ∧ m = 2 ^ k) ∧ v = N (15 + k))) : brkP N m sh k ||| 0 = brkP N m sh (k + 1) := by
  rw [Nat.or_zero]
  show _ = brkP N m sh k + _
  rw [if_neg]
  · rfl
  · intro q
    have hc := capM2 hm.1 hm.2 q.1 h
    omega
theorem brkM3 {N : Nat → Nat} {m sh k : Nat} (hb : ¬ bitN m k = 1) : brkP N m sh k ||| 0 = brkP N m sh (k + 1) := by
  rw [Nat.or_zero]
  show _ = brkP N m sh k + _
  rw [if_neg (fun q => hb q.1)]
  rfl
set_option maxRecDepth 100000 in
theorem lm_breaking {d : Nat} {I : Pl} {m sh : Nat} {N : Nat → Nat} (hM : T0 I N) (hN : TI N) (hm : m < 64) (hsh : sh < 1000) : ∀ k, k ≤ N 2 → ∀ y : Value, WP (d + 1) (158, 7, (some .int), sc0) 5 [.ref 271, .int (nI m), .int (nI sh), .int (nI (brkP N m sh k)), .int (nI k), y] [] I (fun v J => v = some (.int (nI (brkN N m sh))) ∧ J = I) := by
  refine loopUp (fun k hk ih => ?_)
  intro y
  obtain ⟨b0, b1, b2, b3, b4, b5, b6, b7, b8, bS, bC, bS1, bC1, bZ, bG⟩ := id hN
  have hbl := brkP_lt N m sh k
  have hp2 : 2 ^ k ≤ 2 ^ 6 := Nat.pow_le_pow_right (by decide) (by omega)
  refine WP.run (pc' := 12) (L' := [.ref 271, .int (nI m), .int (nI sh), .int (nI (brkP N m sh k)), .int (nI k), y]) (st' := [.int (nI 2), .ref 272, .int (nI k)]) (I1 := I) 4 rfl ?_
  refine WP.iald rfl rfl rfl (by omega) (by decide) ?_
  refine WP.cg (st' := [.int (nI (N 2)), .int (nI k)]) rfl (congrArg (fun z : Int32 => (.int z :: [.int (nI k)] : List Value)) (hM 2 (by omega))) rfl ?_
  refine WP.run (pc' := if (nI (N 2)) ≤ (nI k) then 108 else 16) (L' := [.ref 271, .int (nI m), .int (nI sh), .int (nI (brkP N m sh k)), .int (nI k), y]) (st' := []) (I1 := I) 1 rfl ?_
  refine WP.br (fun h1 => ?_) (fun h1 => ?_)
  · have h1 : N 2 ≤ k := nI_le_ (by omega) (by omega) h1
    refine WP.run (pc' := 109) (L' := [.ref 271, .int (nI m), .int (nI sh), .int (nI (brkP N m sh k)), .int (nI k), y]) (st' := [.int (nI (brkP N m sh k))]) (I1 := I) 1 rfl ?_
    exact WP.ret rfl rfl (⟨by rw [show k = N 2 by omega]; rfl, rfl⟩)
  · have h1 : ¬ N 2 ≤ k := fun q => h1 (nI_le_r (by omega) q)
    have hcap : m < 64 ∧ k < 6 := ⟨hm, by omega⟩
    obtain ⟨z1, z2, z3⟩ := bS k (by omega)
    refine WP.run (pc' := 25) (L' := [.ref 271, .int (nI m), .int (nI sh), .int (nI (brkP N m sh k)), .int (nI k), y]) (st' := [.int ((nI 9) + (nI k)), .ref 272]) (I1 := I) 5 rfl ?_
    refine WP.cg (st' := [.int (nI (9 + k)), .ref 272]) rfl (congrArg (fun z : Int32 => (.int z :: [.ref 272] : List Value)) (nI_add 9 k)) rfl ?_
    refine WP.iald rfl rfl rfl (by omega) (by decide) ?_
    refine WP.cg (st' := [.int (nI (N (9 + k)))]) rfl (congrArg (fun z : Int32 => (.int z :: [] : List Value)) (hM (9 + k) (by omega))) rfl ?_
    refine WP.run (pc' := if ¬ (nI (N (9 + k))) = (nI 5) then 53 else 30) (L' := [.ref 271, .int (nI m), .int (nI sh), .int (nI (brkP N m sh k)), .int (nI k), y]) (st' := []) (I1 := I) 2 rfl ?_
    refine WP.br (fun h2 => ?_) (fun h2 => ?_)
    · have h2 : ¬ N (9 + k) = 5 := fun q => h2 (nI_eq_r q)
      refine WP.run (pc' := 62) (L' := [.ref 271, .int (nI m), .int (nI sh), .int (nI (brkP N m sh k)), .int (nI k), y]) (st' := [.int ((nI 15) + (nI k)), .ref 272]) (I1 := I) 5 rfl ?_
      refine WP.cg (st' := [.int (nI (15 + k)), .ref 272]) rfl (congrArg (fun z : Int32 => (.int z :: [.ref 272] : List Value)) (nI_add 15 k)) rfl ?_
      refine WP.iald rfl rfl rfl (by omega) (by decide) ?_
      refine WP.cg (st' := [.int (nI (N (15 + k)))]) rfl (congrArg (fun z : Int32 => (.int z :: [] : List Value)) (hM (15 + k) (by omega))) rfl ?_
      refine WP.run (pc' := 69) (L' := [.ref 271, .int (nI m), .int (nI sh), .int (nI (brkP N m sh k)), .int (nI k), .int (nI (N (15 + k)))]) (st' := [.int (nI k), .int (nI m), .int (nI (brkP N m sh k))]) (I1 := I) 4 rfl ?_
      refine WP.callB (rest := [.int (nI (brkP N m sh k))]) rfl rfl (ms_has (d := d) (m := m) (k := k) (by omega) (by omega)) (fun h3 => ?_) (fun h3 => ?_)
      · refine WP.run (pc' := 87) (L' := [.ref 271, .int (nI m), .int (nI sh), .int (nI (brkP N m sh k)), .int (nI k), .int (nI (N (15 + k)))]) (st' := [.int ((nI 21) + (nI k)), .ref 272, .int (nI (N (15 + k))), .int (nI sh), .int (nI (brkP N m sh k))]) (I1 := I) 8 rfl ?_
        refine WP.cg (st' := [.int (nI (21 + k)), .ref 272, .int (nI (N (15 + k))), .int (nI sh), .int (nI (brkP N m sh k))]) rfl (congrArg (fun z : Int32 => (.int z :: [.ref 272, .int (nI (N (15 + k))), .int (nI sh), .int (nI (brkP N m sh k))] : List Value)) (nI_add 21 k)) rfl ?_
        refine WP.iald rfl rfl rfl (by omega) (by decide) ?_
        refine WP.cg (st' := [.int (nI (N (21 + k))), .int (nI (N (15 + k))), .int (nI sh), .int (nI (brkP N m sh k))]) rfl (congrArg (fun z : Int32 => (.int z :: [.int (nI (N (15 + k))), .int (nI sh), .int (nI (brkP N m sh k))] : List Value)) (hM (21 + k) (by omega))) rfl ?_
        refine WP.run (pc' := 89) (L' := [.ref 271, .int (nI m), .int (nI sh), .int (nI (brkP N m sh k)), .int (nI k), .int (nI (N (15 + k)))]) (st' := [.int ((nI (N (15 + k))) - (nI (N (21 + k)))), .int (nI sh), .int (nI (brkP N m sh k))]) (I1 := I) 1 rfl ?_
        refine WP.cg (st' := [.int ((nI (N (15 + k))) - (nI (N (21 + k)))), .int (nI sh), .int (nI (brkP N m sh k))]) rfl (congrArg (fun z : Int32 => (.int z :: [.int (nI sh), .int (nI (brkP N m sh k))] : List Value)) (rfl)) rfl ?_
        refine WP.run (pc' := if (nI sh) ≤ ((nI (N (15 + k))) - (nI (N (21 + k)))) then 99 else 92) (L' := [.ref 271, .int (nI m), .int (nI sh), .int (nI (brkP N m sh k)), .int (nI k), .int (nI (N (15 + k)))]) (st' := [.int (nI (brkP N m sh k))]) (I1 := I) 1 rfl ?_
        refine WP.br (fun h4 => ?_) (fun h4 => ?_)
        · have h4 : sh + (N (21 + k)) ≤ (N (15 + k)) := (le_sub_ (by omega) (by omega) (by omega)).mp h4
          refine WP.run (pc' := 101) (L' := [.ref 271, .int (nI m), .int (nI sh), .int (nI (brkP N m sh k)), .int (nI k), .int (nI (N (15 + k)))]) (st' := [.int ((nI (brkP N m sh k)) ||| (nI 0))]) (I1 := I) 2 rfl ?_
          refine WP.cg (st' := [.int (nI ((brkP N m sh k) ||| 0))]) rfl (congrArg (fun z : Int32 => (.int z :: [] : List Value)) (nI_or (brkP N m sh k) 0)) rfl ?_
          refine WP.run (pc' := 105) (L' := [.ref 271, .int (nI m), .int (nI sh), .int (nI ((brkP N m sh k) ||| 0)), .int ((nI k) + nI 1), .int (nI (N (15 + k)))]) (st' := []) (I1 := I) 2 rfl ?_
          refine WP.cg (L' := [.ref 271, .int (nI m), .int (nI sh), .int (nI ((brkP N m sh k) ||| 0)), .int (nI (k + 1)), .int (nI (N (15 + k)))]) (congrArg (fun z : Int32 => ([.ref 271, .int (nI m), .int (nI sh), .int (nI ((brkP N m sh k) ||| 0)), .int z, .int (nI (N (15 + k)))] : List Value)) (nI_add k 1)) rfl rfl ?_
          refine WP.run (pc' := 5) (L' := [.ref 271, .int (nI m), .int (nI sh), .int (nI ((brkP N m sh k) ||| 0)), .int (nI (k + 1)), .int (nI (N (15 + k)))]) (st' := []) (I1 := I) 1 rfl ?_
          refine WP.cg (L' := [.ref 271, .int (nI m), .int (nI sh), .int (nI (brkP N m sh (k + 1))), .int (nI (k + 1)), .int (nI (N (15 + k)))]) (congrArg (fun z : Nat => ([.ref 271, .int (nI m), .int (nI sh), .int (nI z), .int (nI (k + 1)), .int (nI (N (15 + k)))] : List Value)) (by first | exact brkM3 (by assumption) | exact brkM2 hcap (by assumption) (by omega) (by first | exact Or.inl ⟨by assumption, by assumption, rfl⟩ | exact Or.inr ⟨fun q => absurd q.1 (by assumption), rfl⟩ | exact Or.inr ⟨fun q => absurd q.2 (by assumption), rfl⟩))) rfl rfl (ih (by omega) _)
        · have h4 : ¬ (sh + (N (21 + k)) ≤ (N (15 + k))) := fun q => h4 ((le_sub_ (by omega) (by omega) (by omega)).mpr q)
          refine WP.run (pc' := 96) (L' := [.ref 271, .int (nI m), .int (nI sh), .int (nI (brkP N m sh k)), .int (nI k), .int (nI (N (15 + k)))]) (st' := [.int ((nI 1) <<< ((nI k) &&& 31)), .int (nI (brkP N m sh k))]) (I1 := I) 3 rfl ?_
          refine WP.cg (st' := [.int (nI (2 ^ k)), .int (nI (brkP N m sh k))]) rfl (congrArg (fun z : Int32 => (.int z :: [.int (nI (brkP N m sh k))] : List Value)) (nI_shl1 k (by omega))) rfl ?_
          refine WP.run (pc' := 101) (L' := [.ref 271, .int (nI m), .int (nI sh), .int (nI (brkP N m sh k)), .int (nI k), .int (nI (N (15 + k)))]) (st' := [.int ((nI (brkP N m sh k)) ||| (nI (2 ^ k)))]) (I1 := I) 2 rfl ?_
          refine WP.cg (st' := [.int (nI ((brkP N m sh k) ||| (2 ^ k)))]) rfl (congrArg (fun z : Int32 => (.int z :: [] : List Value)) (nI_or (brkP N m sh k) (2 ^ k))) rfl ?_
          refine WP.run (pc' := 105) (L' := [.ref 271, .int (nI m), .int (nI sh), .int (nI ((brkP N m sh k) ||| (2 ^ k))), .int ((nI k) + nI 1), .int (nI (N (15 + k)))]) (st' := []) (I1 := I) 2 rfl ?_
          refine WP.cg (L' := [.ref 271, .int (nI m), .int (nI sh), .int (nI ((brkP N m sh k) ||| (2 ^ k))), .int (nI (k + 1)), .int (nI (N (15 + k)))]) (congrArg (fun z : Int32 => ([.ref 271, .int (nI m), .int (nI sh), .int (nI ((brkP N m sh k) ||| (2 ^ k))), .int z, .int (nI (N (15 + k)))] : List Value)) (nI_add k 1)) rfl rfl ?_
          refine WP.run (pc' := 5) (L' := [.ref 271, .int (nI m), .int (nI sh), .int (nI ((brkP N m sh k) ||| (2 ^ k))), .int (nI (k + 1)), .int (nI (N (15 + k)))]) (st' := []) (I1 := I) 1 rfl ?_
          refine WP.cg (L' := [.ref 271, .int (nI m), .int (nI sh), .int (nI (brkP N m sh (k + 1))), .int (nI (k + 1)), .int (nI (N (15 + k)))]) (congrArg (fun z : Nat => ([.ref 271, .int (nI m), .int (nI sh), .int (nI z), .int (nI (k + 1)), .int (nI (N (15 + k)))] : List Value)) (brkM1 hcap (by assumption) (by assumption) (by omega) (by first | exact Or.inl ⟨by assumption, by assumption, rfl⟩ | exact Or.inr ⟨fun q => absurd q.1 (by assumption), rfl⟩ | exact Or.inr ⟨fun q => absurd q.2 (by assumption), rfl⟩))) rfl rfl (ih (by omega) _)
      · refine WP.run (pc' := 101) (L' := [.ref 271, .int (nI m), .int (nI sh), .int (nI (brkP N m sh k)), .int (nI k), .int (nI (N (15 + k)))]) (st' := [.int ((nI (brkP N m sh k)) ||| (nI 0))]) (I1 := I) 3 rfl ?_
        refine WP.cg (st' := [.int (nI ((brkP N m sh k) ||| 0))]) rfl (congrArg (fun z : Int32 => (.int z :: [] : List Value)) (nI_or (brkP N m sh k) 0)) rfl ?_
        refine WP.run (pc' := 105) (L' := [.ref 271, .int (nI m), .int (nI sh), .int (nI ((brkP N m sh k) ||| 0)), .int ((nI k) + nI 1), .int (nI (N (15 + k)))]) (st' := []) (I1 := I) 2 rfl ?_
        refine WP.cg (L' := [.ref 271, .int (nI m), .int (nI sh), .int (nI ((brkP N m sh k) ||| 0)), .int (nI (k + 1)), .int (nI (N (15 + k)))]) (congrArg (fun z : Int32 => ([.ref 271, .int (nI m), .int (nI sh), .int (nI ((brkP N m sh k) ||| 0)), .int z, .int (nI (N (15 + k)))] : List Value)) (nI_add k 1)) rfl rfl ?_
        refine WP.run (pc' := 5) (L' := [.ref 271, .int (nI m), .int (nI sh), .int (nI ((brkP N m sh k) ||| 0)), .int (nI (k + 1)), .int (nI (N (15 + k)))]) (st' := []) (I1 := I) 1 rfl ?_
        refine WP.cg (L' := [.ref 271, .int (nI m), .int (nI sh), .int (nI (brkP N m sh (k + 1))), .int (nI (k + 1)), .int (nI (N (15 + k)))]) (congrArg (fun z : Nat => ([.ref 271, .int (nI m), .int (nI sh), .int (nI z), .int (nI (k + 1)), .int (nI (N (15 + k)))] : List Value)) (by first | exact brkM3 (by assumption) | exact brkM2 hcap (by assumption) (by omega) (by first | exact Or.inl ⟨by assumption, by assumption, rfl⟩ | exact Or.inr ⟨fun q => absurd q.1 (by assumption), rfl⟩ | exact Or.inr ⟨fun q => absurd q.2 (by assumption), rfl⟩))) rfl rfl (ih (by omega) _)
    · have h2 : N (9 + k) = 5 := nI_eq_ (by omega) (by omega) (Decidable.byContradiction h2)
      refine WP.run (pc' := 35) (L' := [.ref 271, .int (nI m), .int (nI sh), .int (nI (brkP N m sh k)), .int (nI k), y]) (st' := [.int ((nI 1) <<< ((nI k) &&& 31)), .int (nI m)]) (I1 := I) 4 rfl ?_
      refine WP.cg (st' := [.int (nI (2 ^ k)), .int (nI m)]) rfl (congrArg (fun z : Int32 => (.int z :: [.int (nI m)] : List Value)) (nI_shl1 k (by omega))) rfl ?_
      refine WP.run (pc' := if ¬ (nI m) = (nI (2 ^ k)) then 53 else 38) (L' := [.ref 271, .int (nI m), .int (nI sh), .int (nI (brkP N m sh k)), .int (nI k), y]) (st' := []) (I1 := I) 1 rfl ?_
      refine WP.br (fun h5 => ?_) (fun h5 => ?_)
      · have h5 : ¬ m = 2 ^ k := fun q => h5 (nI_eq_r q)
        refine WP.run (pc' := 62) (L' := [.ref 271, .int (nI m), .int (nI sh), .int (nI (brkP N m sh k)), .int (nI k), y]) (st' := [.int ((nI 15) + (nI k)), .ref 272]) (I1 := I) 5 rfl ?_
        refine WP.cg (st' := [.int (nI (15 + k)), .ref 272]) rfl (congrArg (fun z : Int32 => (.int z :: [.ref 272] : List Value)) (nI_add 15 k)) rfl ?_
        refine WP.iald rfl rfl rfl (by omega) (by decide) ?_
        refine WP.cg (st' := [.int (nI (N (15 + k)))]) rfl (congrArg (fun z : Int32 => (.int z :: [] : List Value)) (hM (15 + k) (by omega))) rfl ?_
        refine WP.run (pc' := 69) (L' := [.ref 271, .int (nI m), .int (nI sh), .int (nI (brkP N m sh k)), .int (nI k), .int (nI (N (15 + k)))]) (st' := [.int (nI k), .int (nI m), .int (nI (brkP N m sh k))]) (I1 := I) 4 rfl ?_
        refine WP.callB (rest := [.int (nI (brkP N m sh k))]) rfl rfl (ms_has (d := d) (m := m) (k := k) (by omega) (by omega)) (fun h6 => ?_) (fun h6 => ?_)
        · refine WP.run (pc' := 87) (L' := [.ref 271, .int (nI m), .int (nI sh), .int (nI (brkP N m sh k)), .int (nI k), .int (nI (N (15 + k)))]) (st' := [.int ((nI 21) + (nI k)), .ref 272, .int (nI (N (15 + k))), .int (nI sh), .int (nI (brkP N m sh k))]) (I1 := I) 8 rfl ?_
          refine WP.cg (st' := [.int (nI (21 + k)), .ref 272, .int (nI (N (15 + k))), .int (nI sh), .int (nI (brkP N m sh k))]) rfl (congrArg (fun z : Int32 => (.int z :: [.ref 272, .int (nI (N (15 + k))), .int (nI sh), .int (nI (brkP N m sh k))] : List Value)) (nI_add 21 k)) rfl ?_
          refine WP.iald rfl rfl rfl (by omega) (by decide) ?_
          refine WP.cg (st' := [.int (nI (N (21 + k))), .int (nI (N (15 + k))), .int (nI sh), .int (nI (brkP N m sh k))]) rfl (congrArg (fun z : Int32 => (.int z :: [.int (nI (N (15 + k))), .int (nI sh), .int (nI (brkP N m sh k))] : List Value)) (hM (21 + k) (by omega))) rfl ?_
          refine WP.run (pc' := 89) (L' := [.ref 271, .int (nI m), .int (nI sh), .int (nI (brkP N m sh k)), .int (nI k), .int (nI (N (15 + k)))]) (st' := [.int ((nI (N (15 + k))) - (nI (N (21 + k)))), .int (nI sh), .int (nI (brkP N m sh k))]) (I1 := I) 1 rfl ?_
          refine WP.cg (st' := [.int ((nI (N (15 + k))) - (nI (N (21 + k)))), .int (nI sh), .int (nI (brkP N m sh k))]) rfl (congrArg (fun z : Int32 => (.int z :: [.int (nI sh), .int (nI (brkP N m sh k))] : List Value)) (rfl)) rfl ?_
          refine WP.run (pc' := if (nI sh) ≤ ((nI (N (15 + k))) - (nI (N (21 + k)))) then 99 else 92) (L' := [.ref 271, .int (nI m), .int (nI sh), .int (nI (brkP N m sh k)), .int (nI k), .int (nI (N (15 + k)))]) (st' := [.int (nI (brkP N m sh k))]) (I1 := I) 1 rfl ?_
          refine WP.br (fun h7 => ?_) (fun h7 => ?_)
          · have h7 : sh + (N (21 + k)) ≤ (N (15 + k)) := (le_sub_ (by omega) (by omega) (by omega)).mp h7
            refine WP.run (pc' := 101) (L' := [.ref 271, .int (nI m), .int (nI sh), .int (nI (brkP N m sh k)), .int (nI k), .int (nI (N (15 + k)))]) (st' := [.int ((nI (brkP N m sh k)) ||| (nI 0))]) (I1 := I) 2 rfl ?_
            refine WP.cg (st' := [.int (nI ((brkP N m sh k) ||| 0))]) rfl (congrArg (fun z : Int32 => (.int z :: [] : List Value)) (nI_or (brkP N m sh k) 0)) rfl ?_
            refine WP.run (pc' := 105) (L' := [.ref 271, .int (nI m), .int (nI sh), .int (nI ((brkP N m sh k) ||| 0)), .int ((nI k) + nI 1), .int (nI (N (15 + k)))]) (st' := []) (I1 := I) 2 rfl ?_
            refine WP.cg (L' := [.ref 271, .int (nI m), .int (nI sh), .int (nI ((brkP N m sh k) ||| 0)), .int (nI (k + 1)), .int (nI (N (15 + k)))]) (congrArg (fun z : Int32 => ([.ref 271, .int (nI m), .int (nI sh), .int (nI ((brkP N m sh k) ||| 0)), .int z, .int (nI (N (15 + k)))] : List Value)) (nI_add k 1)) rfl rfl ?_
            refine WP.run (pc' := 5) (L' := [.ref 271, .int (nI m), .int (nI sh), .int (nI ((brkP N m sh k) ||| 0)), .int (nI (k + 1)), .int (nI (N (15 + k)))]) (st' := []) (I1 := I) 1 rfl ?_
            refine WP.cg (L' := [.ref 271, .int (nI m), .int (nI sh), .int (nI (brkP N m sh (k + 1))), .int (nI (k + 1)), .int (nI (N (15 + k)))]) (congrArg (fun z : Nat => ([.ref 271, .int (nI m), .int (nI sh), .int (nI z), .int (nI (k + 1)), .int (nI (N (15 + k)))] : List Value)) (by first | exact brkM3 (by assumption) | exact brkM2 hcap (by assumption) (by omega) (by first | exact Or.inl ⟨by assumption, by assumption, rfl⟩ | exact Or.inr ⟨fun q => absurd q.1 (by assumption), rfl⟩ | exact Or.inr ⟨fun q => absurd q.2 (by assumption), rfl⟩))) rfl rfl (ih (by omega) _)
          · have h7 : ¬ (sh + (N (21 + k)) ≤ (N (15 + k))) := fun q => h7 ((le_sub_ (by omega) (by omega) (by omega)).mpr q)
            refine WP.run (pc' := 96) (L' := [.ref 271, .int (nI m), .int (nI sh), .int (nI (brkP N m sh k)), .int (nI k), .int (nI (N (15 + k)))]) (st' := [.int ((nI 1) <<< ((nI k) &&& 31)), .int (nI (brkP N m sh k))]) (I1 := I) 3 rfl ?_
            refine WP.cg (st' := [.int (nI (2 ^ k)), .int (nI (brkP N m sh k))]) rfl (congrArg (fun z : Int32 => (.int z :: [.int (nI (brkP N m sh k))] : List Value)) (nI_shl1 k (by omega))) rfl ?_
            refine WP.run (pc' := 101) (L' := [.ref 271, .int (nI m), .int (nI sh), .int (nI (brkP N m sh k)), .int (nI k), .int (nI (N (15 + k)))]) (st' := [.int ((nI (brkP N m sh k)) ||| (nI (2 ^ k)))]) (I1 := I) 2 rfl ?_
            refine WP.cg (st' := [.int (nI ((brkP N m sh k) ||| (2 ^ k)))]) rfl (congrArg (fun z : Int32 => (.int z :: [] : List Value)) (nI_or (brkP N m sh k) (2 ^ k))) rfl ?_
            refine WP.run (pc' := 105) (L' := [.ref 271, .int (nI m), .int (nI sh), .int (nI ((brkP N m sh k) ||| (2 ^ k))), .int ((nI k) + nI 1), .int (nI (N (15 + k)))]) (st' := []) (I1 := I) 2 rfl ?_
            refine WP.cg (L' := [.ref 271, .int (nI m), .int (nI sh), .int (nI ((brkP N m sh k) ||| (2 ^ k))), .int (nI (k + 1)), .int (nI (N (15 + k)))]) (congrArg (fun z : Int32 => ([.ref 271, .int (nI m), .int (nI sh), .int (nI ((brkP N m sh k) ||| (2 ^ k))), .int z, .int (nI (N (15 + k)))] : List Value)) (nI_add k 1)) rfl rfl ?_
            refine WP.run (pc' := 5) (L' := [.ref 271, .int (nI m), .int (nI sh), .int (nI ((brkP N m sh k) ||| (2 ^ k))), .int (nI (k + 1)), .int (nI (N (15 + k)))]) (st' := []) (I1 := I) 1 rfl ?_
            refine WP.cg (L' := [.ref 271, .int (nI m), .int (nI sh), .int (nI (brkP N m sh (k + 1))), .int (nI (k + 1)), .int (nI (N (15 + k)))]) (congrArg (fun z : Nat => ([.ref 271, .int (nI m), .int (nI sh), .int (nI z), .int (nI (k + 1)), .int (nI (N (15 + k)))] : List Value)) (brkM1 hcap (by assumption) (by assumption) (by omega) (by first | exact Or.inl ⟨by assumption, by assumption, rfl⟩ | exact Or.inr ⟨fun q => absurd q.1 (by assumption), rfl⟩ | exact Or.inr ⟨fun q => absurd q.2 (by assumption), rfl⟩))) rfl rfl (ih (by omega) _)
        · refine WP.run (pc' := 101) (L' := [.ref 271, .int (nI m), .int (nI sh), .int (nI (brkP N m sh k)), .int (nI k), .int (nI (N (15 + k)))]) (st' := [.int ((nI (brkP N m sh k)) ||| (nI 0))]) (I1 := I) 3 rfl ?_
          refine WP.cg (st' := [.int (nI ((brkP N m sh k) ||| 0))]) rfl (congrArg (fun z : Int32 => (.int z :: [] : List Value)) (nI_or (brkP N m sh k) 0)) rfl ?_
          refine WP.run (pc' := 105) (L' := [.ref 271, .int (nI m), .int (nI sh), .int (nI ((brkP N m sh k) ||| 0)), .int ((nI k) + nI 1), .int (nI (N (15 + k)))]) (st' := []) (I1 := I) 2 rfl ?_
          refine WP.cg (L' := [.ref 271, .int (nI m), .int (nI sh), .int (nI ((brkP N m sh k) ||| 0)), .int (nI (k + 1)), .int (nI (N (15 + k)))]) (congrArg (fun z : Int32 => ([.ref 271, .int (nI m), .int (nI sh), .int (nI ((brkP N m sh k) ||| 0)), .int z, .int (nI (N (15 + k)))] : List Value)) (nI_add k 1)) rfl rfl ?_
          refine WP.run (pc' := 5) (L' := [.ref 271, .int (nI m), .int (nI sh), .int (nI ((brkP N m sh k) ||| 0)), .int (nI (k + 1)), .int (nI (N (15 + k)))]) (st' := []) (I1 := I) 1 rfl ?_
          refine WP.cg (L' := [.ref 271, .int (nI m), .int (nI sh), .int (nI (brkP N m sh (k + 1))), .int (nI (k + 1)), .int (nI (N (15 + k)))]) (congrArg (fun z : Nat => ([.ref 271, .int (nI m), .int (nI sh), .int (nI z), .int (nI (k + 1)), .int (nI (N (15 + k)))] : List Value)) (by first | exact brkM3 (by assumption) | exact brkM2 hcap (by assumption) (by omega) (by first | exact Or.inl ⟨by assumption, by assumption, rfl⟩ | exact Or.inr ⟨fun q => absurd q.1 (by assumption), rfl⟩ | exact Or.inr ⟨fun q => absurd q.2 (by assumption), rfl⟩))) rfl rfl (ih (by omega) _)
      · have h5 : m = 2 ^ k := nI_eq_ (by omega) (by omega) (Decidable.byContradiction h5)
        refine WP.run (pc' := 48) (L' := [.ref 271, .int (nI m), .int (nI sh), .int (nI (brkP N m sh k)), .int (nI k), y]) (st' := [.int ((nI 15) + (nI k)), .ref 272, .int (nI 2)]) (I1 := I) 6 rfl ?_
        refine WP.cg (st' := [.int (nI (15 + k)), .ref 272, .int (nI 2)]) rfl (congrArg (fun z : Int32 => (.int z :: [.ref 272, .int (nI 2)] : List Value)) (nI_add 15 k)) rfl ?_
        refine WP.iald rfl rfl rfl (by omega) (by decide) ?_
        refine WP.cg (st' := [.int (nI (N (15 + k))), .int (nI 2)]) rfl (congrArg (fun z : Int32 => (.int z :: [.int (nI 2)] : List Value)) (hM (15 + k) (by omega))) rfl ?_
        refine WP.run (pc' := 50) (L' := [.ref 271, .int (nI m), .int (nI sh), .int (nI (brkP N m sh k)), .int (nI k), y]) (st' := [.int ((nI 2) * (nI (N (15 + k))))]) (I1 := I) 1 rfl ?_
        refine WP.cg (st' := [.int (nI (2 * (N (15 + k))))]) rfl (congrArg (fun z : Int32 => (.int z :: [] : List Value)) (pk_mul 2 (N (15 + k)))) rfl ?_
        refine WP.run (pc' := 69) (L' := [.ref 271, .int (nI m), .int (nI sh), .int (nI (brkP N m sh k)), .int (nI k), .int (nI (2 * (N (15 + k))))]) (st' := [.int (nI k), .int (nI m), .int (nI (brkP N m sh k))]) (I1 := I) 5 rfl ?_
        refine WP.callB (rest := [.int (nI (brkP N m sh k))]) rfl rfl (ms_has (d := d) (m := m) (k := k) (by omega) (by omega)) (fun h8 => ?_) (fun h8 => ?_)
        · refine WP.run (pc' := 87) (L' := [.ref 271, .int (nI m), .int (nI sh), .int (nI (brkP N m sh k)), .int (nI k), .int (nI (2 * (N (15 + k))))]) (st' := [.int ((nI 21) + (nI k)), .ref 272, .int (nI (2 * (N (15 + k)))), .int (nI sh), .int (nI (brkP N m sh k))]) (I1 := I) 8 rfl ?_
          refine WP.cg (st' := [.int (nI (21 + k)), .ref 272, .int (nI (2 * (N (15 + k)))), .int (nI sh), .int (nI (brkP N m sh k))]) rfl (congrArg (fun z : Int32 => (.int z :: [.ref 272, .int (nI (2 * (N (15 + k)))), .int (nI sh), .int (nI (brkP N m sh k))] : List Value)) (nI_add 21 k)) rfl ?_
          refine WP.iald rfl rfl rfl (by omega) (by decide) ?_
          refine WP.cg (st' := [.int (nI (N (21 + k))), .int (nI (2 * (N (15 + k)))), .int (nI sh), .int (nI (brkP N m sh k))]) rfl (congrArg (fun z : Int32 => (.int z :: [.int (nI (2 * (N (15 + k)))), .int (nI sh), .int (nI (brkP N m sh k))] : List Value)) (hM (21 + k) (by omega))) rfl ?_
          refine WP.run (pc' := 89) (L' := [.ref 271, .int (nI m), .int (nI sh), .int (nI (brkP N m sh k)), .int (nI k), .int (nI (2 * (N (15 + k))))]) (st' := [.int ((nI (2 * (N (15 + k)))) - (nI (N (21 + k)))), .int (nI sh), .int (nI (brkP N m sh k))]) (I1 := I) 1 rfl ?_
          refine WP.cg (st' := [.int ((nI (2 * (N (15 + k)))) - (nI (N (21 + k)))), .int (nI sh), .int (nI (brkP N m sh k))]) rfl (congrArg (fun z : Int32 => (.int z :: [.int (nI sh), .int (nI (brkP N m sh k))] : List Value)) (rfl)) rfl ?_
          refine WP.run (pc' := if (nI sh) ≤ ((nI (2 * (N (15 + k)))) - (nI (N (21 + k)))) then 99 else 92) (L' := [.ref 271, .int (nI m), .int (nI sh), .int (nI (brkP N m sh k)), .int (nI k), .int (nI (2 * (N (15 + k))))]) (st' := [.int (nI (brkP N m sh k))]) (I1 := I) 1 rfl ?_
          refine WP.br (fun h9 => ?_) (fun h9 => ?_)
          · have h9 : sh + (N (21 + k)) ≤ (2 * (N (15 + k))) := (le_sub_ (by omega) (by omega) (by omega)).mp h9
            refine WP.run (pc' := 101) (L' := [.ref 271, .int (nI m), .int (nI sh), .int (nI (brkP N m sh k)), .int (nI k), .int (nI (2 * (N (15 + k))))]) (st' := [.int ((nI (brkP N m sh k)) ||| (nI 0))]) (I1 := I) 2 rfl ?_
            refine WP.cg (st' := [.int (nI ((brkP N m sh k) ||| 0))]) rfl (congrArg (fun z : Int32 => (.int z :: [] : List Value)) (nI_or (brkP N m sh k) 0)) rfl ?_
            refine WP.run (pc' := 105) (L' := [.ref 271, .int (nI m), .int (nI sh), .int (nI ((brkP N m sh k) ||| 0)), .int ((nI k) + nI 1), .int (nI (2 * (N (15 + k))))]) (st' := []) (I1 := I) 2 rfl ?_
            refine WP.cg (L' := [.ref 271, .int (nI m), .int (nI sh), .int (nI ((brkP N m sh k) ||| 0)), .int (nI (k + 1)), .int (nI (2 * (N (15 + k))))]) (congrArg (fun z : Int32 => ([.ref 271, .int (nI m), .int (nI sh), .int (nI ((brkP N m sh k) ||| 0)), .int z, .int (nI (2 * (N (15 + k))))] : List Value)) (nI_add k 1)) rfl rfl ?_
            refine WP.run (pc' := 5) (L' := [.ref 271, .int (nI m), .int (nI sh), .int (nI ((brkP N m sh k) ||| 0)), .int (nI (k + 1)), .int (nI (2 * (N (15 + k))))]) (st' := []) (I1 := I) 1 rfl ?_
            refine WP.cg (L' := [.ref 271, .int (nI m), .int (nI sh), .int (nI (brkP N m sh (k + 1))), .int (nI (k + 1)), .int (nI (2 * (N (15 + k))))]) (congrArg (fun z : Nat => ([.ref 271, .int (nI m), .int (nI sh), .int (nI z), .int (nI (k + 1)), .int (nI (2 * (N (15 + k))))] : List Value)) (by first | exact brkM3 (by assumption) | exact brkM2 hcap (by assumption) (by omega) (by first | exact Or.inl ⟨by assumption, by assumption, rfl⟩ | exact Or.inr ⟨fun q => absurd q.1 (by assumption), rfl⟩ | exact Or.inr ⟨fun q => absurd q.2 (by assumption), rfl⟩))) rfl rfl (ih (by omega) _)
          · have h9 : ¬ (sh + (N (21 + k)) ≤ (2 * (N (15 + k)))) := fun q => h9 ((le_sub_ (by omega) (by omega) (by omega)).mpr q)
            refine WP.run (pc' := 96) (L' := [.ref 271, .int (nI m), .int (nI sh), .int (nI (brkP N m sh k)), .int (nI k), .int (nI (2 * (N (15 + k))))]) (st' := [.int ((nI 1) <<< ((nI k) &&& 31)), .int (nI (brkP N m sh k))]) (I1 := I) 3 rfl ?_
            refine WP.cg (st' := [.int (nI (2 ^ k)), .int (nI (brkP N m sh k))]) rfl (congrArg (fun z : Int32 => (.int z :: [.int (nI (brkP N m sh k))] : List Value)) (nI_shl1 k (by omega))) rfl ?_
            refine WP.run (pc' := 101) (L' := [.ref 271, .int (nI m), .int (nI sh), .int (nI (brkP N m sh k)), .int (nI k), .int (nI (2 * (N (15 + k))))]) (st' := [.int ((nI (brkP N m sh k)) ||| (nI (2 ^ k)))]) (I1 := I) 2 rfl ?_
            refine WP.cg (st' := [.int (nI ((brkP N m sh k) ||| (2 ^ k)))]) rfl (congrArg (fun z : Int32 => (.int z :: [] : List Value)) (nI_or (brkP N m sh k) (2 ^ k))) rfl ?_
            refine WP.run (pc' := 105) (L' := [.ref 271, .int (nI m), .int (nI sh), .int (nI ((brkP N m sh k) ||| (2 ^ k))), .int ((nI k) + nI 1), .int (nI (2 * (N (15 + k))))]) (st' := []) (I1 := I) 2 rfl ?_
            refine WP.cg (L' := [.ref 271, .int (nI m), .int (nI sh), .int (nI ((brkP N m sh k) ||| (2 ^ k))), .int (nI (k + 1)), .int (nI (2 * (N (15 + k))))]) (congrArg (fun z : Int32 => ([.ref 271, .int (nI m), .int (nI sh), .int (nI ((brkP N m sh k) ||| (2 ^ k))), .int z, .int (nI (2 * (N (15 + k))))] : List Value)) (nI_add k 1)) rfl rfl ?_
            refine WP.run (pc' := 5) (L' := [.ref 271, .int (nI m), .int (nI sh), .int (nI ((brkP N m sh k) ||| (2 ^ k))), .int (nI (k + 1)), .int (nI (2 * (N (15 + k))))]) (st' := []) (I1 := I) 1 rfl ?_
            refine WP.cg (L' := [.ref 271, .int (nI m), .int (nI sh), .int (nI (brkP N m sh (k + 1))), .int (nI (k + 1)), .int (nI (2 * (N (15 + k))))]) (congrArg (fun z : Nat => ([.ref 271, .int (nI m), .int (nI sh), .int (nI z), .int (nI (k + 1)), .int (nI (2 * (N (15 + k))))] : List Value)) (brkM1 hcap (by assumption) (by assumption) (by omega) (by first | exact Or.inl ⟨by assumption, by assumption, rfl⟩ | exact Or.inr ⟨fun q => absurd q.1 (by assumption), rfl⟩ | exact Or.inr ⟨fun q => absurd q.2 (by assumption), rfl⟩))) rfl rfl (ih (by omega) _)
        · refine WP.run (pc' := 101) (L' := [.ref 271, .int (nI m), .int (nI sh), .int (nI (brkP N m sh k)), .int (nI k), .int (nI (2 * (N (15 + k))))]) (st' := [.int ((nI (brkP N m sh k)) ||| (nI 0))]) (I1 := I) 3 rfl ?_
          refine WP.cg (st' := [.int (nI ((brkP N m sh k) ||| 0))]) rfl (congrArg (fun z : Int32 => (.int z :: [] : List Value)) (nI_or (brkP N m sh k) 0)) rfl ?_
          refine WP.run (pc' := 105) (L' := [.ref 271, .int (nI m), .int (nI sh), .int (nI ((brkP N m sh k) ||| 0)), .int ((nI k) + nI 1), .int (nI (2 * (N (15 + k))))]) (st' := []) (I1 := I) 2 rfl ?_
          refine WP.cg (L' := [.ref 271, .int (nI m), .int (nI sh), .int (nI ((brkP N m sh k) ||| 0)), .int (nI (k + 1)), .int (nI (2 * (N (15 + k))))]) (congrArg (fun z : Int32 => ([.ref 271, .int (nI m), .int (nI sh), .int (nI ((brkP N m sh k) ||| 0)), .int z, .int (nI (2 * (N (15 + k))))] : List Value)) (nI_add k 1)) rfl rfl ?_
          refine WP.run (pc' := 5) (L' := [.ref 271, .int (nI m), .int (nI sh), .int (nI ((brkP N m sh k) ||| 0)), .int (nI (k + 1)), .int (nI (2 * (N (15 + k))))]) (st' := []) (I1 := I) 1 rfl ?_
          refine WP.cg (L' := [.ref 271, .int (nI m), .int (nI sh), .int (nI (brkP N m sh (k + 1))), .int (nI (k + 1)), .int (nI (2 * (N (15 + k))))]) (congrArg (fun z : Nat => ([.ref 271, .int (nI m), .int (nI sh), .int (nI z), .int (nI (k + 1)), .int (nI (2 * (N (15 + k))))] : List Value)) (by first | exact brkM3 (by assumption) | exact brkM2 hcap (by assumption) (by omega) (by first | exact Or.inl ⟨by assumption, by assumption, rfl⟩ | exact Or.inr ⟨fun q => absurd q.1 (by assumption), rfl⟩ | exact Or.inr ⟨fun q => absurd q.2 (by assumption), rfl⟩))) rfl rfl (ih (by omega) _)
set_option maxRecDepth 100000 in
theorem ms_breaking {d : Nat} {I : Pl} {m sh : Nat} {N : Nat → Nat} (hM : T0 I N) (hN : TI N) (hm : m < 64) (hsh : sh < 1000) : Ev (d + 2) 158 [.ref 271, .int (nI m), .int (nI sh)] (mem I) (some (.int (nI (brkN N m sh)))) (mem I) := by
  obtain ⟨b0, b1, b2, b3, b4, b5, b6, b7, b8, bS, bC, bS1, bC1, bZ, bG⟩ := id hN
  refine Ev.only (EvX.enter rfl rfl rfl ?_)
  refine WP.run (pc' := 5) (L' := [.ref 271, .int (nI m), .int (nI sh), .int (nI 0), .int (nI 0), UU]) (st' := []) (I1 := I) 4 rfl ?_
  exact lm_breaking hM hN hm hsh 0 (Nat.zero_le _) _
