/-! leaves -/
def bc1 (x : Int32) : Int32 := x - ((x.toUInt32 >>> ((nI 1).toUInt32 &&& Int32.toUInt32 31)).toInt32 &&& 1431655765)
def bc2 (x : Int32) : Int32 := (bc1 x &&& 858993459) + (((bc1 x).toUInt32 >>> ((nI 2).toUInt32 &&& Int32.toUInt32 31)).toInt32 &&& 858993459)
def bc3 (x : Int32) : Int32 := (bc2 x + ((bc2 x).toUInt32 >>> ((nI 4).toUInt32 &&& Int32.toUInt32 31)).toInt32) &&& 252645135
def bc4 (x : Int32) : Int32 := bc3 x + ((bc3 x).toUInt32 >>> ((nI 8).toUInt32 &&& Int32.toUInt32 31)).toInt32
def bc5 (x : Int32) : Int32 := bc4 x + ((bc4 x).toUInt32 >>> ((nI 16).toUInt32 &&& Int32.toUInt32 31)).toInt32
theorem bc_ok : ∀ m, m < 64 → bc5 (nI m) &&& nI 63 = nI (popc m) := by decide +kernel
set_option maxRecDepth 100000 in
theorem sp_bitCount {d : Nat} {I : Pl} {m : Nat} (hm : m < 64) : Ev (d + 1) 30 [.int (nI m)] (mem I) (some (.int (nI (popc m)))) (mem I) := by
  refine Ev.only (EvX.enter rfl rfl rfl ?_)
  refine WP.run (pc' := 10) (L' := [.int (bc1 (nI m))]) (st' := []) (I1 := I) 8 rfl ?_
  refine WP.run (pc' := 24) (L' := [.int (bc2 (nI m))]) (st' := []) (I1 := I) 10 rfl ?_
  refine WP.run (pc' := 34) (L' := [.int (bc3 (nI m))]) (st' := []) (I1 := I) 8 rfl ?_
  refine WP.run (pc' := 41) (L' := [.int (bc4 (nI m))]) (st' := []) (I1 := I) 6 rfl ?_
  refine WP.run (pc' := 48) (L' := [.int (bc5 (nI m))]) (st' := []) (I1 := I) 6 rfl ?_
  refine WP.run (pc' := 52) (L' := [.int (bc5 (nI m))]) (st' := [.int (bc5 (nI m) &&& nI 63)]) (I1 := I) 3 rfl ?_
  exact WP.ret rfl rfl ⟨by rw [bc_ok m hm], rfl⟩
set_option maxRecDepth 100000 in
theorem sp_min {d : Nat} {I : Pl} {a b : Nat} (ha : a < 2 ^ 31) (hb : b < 2 ^ 31) : Ev (d + 1) 208 [.int (nI a), .int (nI b)] (mem I) (some (.int (nI (min a b)))) (mem I) := by
  refine Ev.only (EvX.enter rfl rfl rfl ?_)
  refine WP.run (pc' := if (nI b) < (nI a) then 9 else 5) (L' := [.int (nI a), .int (nI b)]) (st' := []) (I1 := I) 3 rfl ?_
  refine WP.br (fun h1 => ?_) (fun h1 => ?_)
  · have h1 : b < a := nI_lt_ (by omega) (by omega) h1
    refine WP.run (pc' := 10) (L' := [.int (nI a), .int (nI b)]) (st' := [.int (nI b)]) (I1 := I) 1 rfl ?_
    exact WP.ret rfl rfl (⟨by first | rw [Nat.min_eq_left (by omega)] | rw [Nat.min_eq_right (by omega)], rfl⟩)
  · have h1 : ¬ b < a := fun q => h1 (nI_lt_r (by omega) q)
    refine WP.run (pc' := 10) (L' := [.int (nI a), .int (nI b)]) (st' := [.int (nI a)]) (I1 := I) 2 rfl ?_
    exact WP.ret rfl rfl (⟨by first | rw [Nat.min_eq_left (by omega)] | rw [Nat.min_eq_right (by omega)], rfl⟩)
set_option maxRecDepth 100000 in
theorem sp_max {d : Nat} {I : Pl} {a b : Nat} (ha : a < 2 ^ 31) (hb : b < 2 ^ 31) : Ev (d + 1) 207 [.int (nI a), .int (nI b)] (mem I) (some (.int (nI (max a b)))) (mem I) := by
  refine Ev.only (EvX.enter rfl rfl rfl ?_)
  refine WP.run (pc' := if (nI a) < (nI b) then 9 else 5) (L' := [.int (nI a), .int (nI b)]) (st' := []) (I1 := I) 3 rfl ?_
  refine WP.br (fun h1 => ?_) (fun h1 => ?_)
  · have h1 : a < b := nI_lt_ (by omega) (by omega) h1
    refine WP.run (pc' := 10) (L' := [.int (nI a), .int (nI b)]) (st' := [.int (nI b)]) (I1 := I) 1 rfl ?_
    exact WP.ret rfl rfl (⟨by first | rw [Nat.max_eq_left (by omega)] | rw [Nat.max_eq_right (by omega)], rfl⟩)
  · have h1 : ¬ a < b := fun q => h1 (nI_lt_r (by omega) q)
    refine WP.run (pc' := 10) (L' := [.int (nI a), .int (nI b)]) (st' := [.int (nI a)]) (I1 := I) 2 rfl ?_
    exact WP.ret rfl rfl (⟨by first | rw [Nat.max_eq_left (by omega)] | rw [Nat.max_eq_right (by omega)], rfl⟩)
set_option maxRecDepth 100000 in
theorem sp_bit {d : Nat} {I : Pl} {m i : Nat} (hm : m < 64) (hi : i < 32) : Ev (d + 1) 31 [.int (nI m), .int (nI i)] (mem I) (some (.int (nI (bitN m i)))) (mem I) := by
  refine Ev.only (EvX.enter rfl rfl rfl ?_)
  refine WP.run (pc' := 3) (L' := [.int (nI m), .int (nI i)]) (st' := [.int ((nI m) >>> ((nI i) &&& 31))]) (I1 := I) 3 rfl ?_
  refine WP.cg (st' := [.int (nI (m / 2 ^ i))]) rfl (congrArg (fun z : Int32 => (.int z :: [] : List Value)) (nI_shr m i (by omega) (by omega))) rfl ?_
  refine WP.run (pc' := 5) (L' := [.int (nI m), .int (nI i)]) (st' := [.int ((nI (m / 2 ^ i)) &&& (nI 1))]) (I1 := I) 2 rfl ?_
  refine WP.cg (st' := [.int (nI (bitN m i))]) rfl (congrArg (fun z : Int32 => (.int z :: [] : List Value)) (nI_bit m i)) rfl ?_
  exact WP.ret rfl rfl (⟨rfl, rfl⟩)
set_option maxRecDepth 100000 in
theorem sp_isStrain {d : Nat} {I : Pl} {x : Int32} : Ev (d + 1) 107 [.int x] (mem I) (some (.int (b2i (inA x 100)))) (mem I) := by
  refine Ev.only (EvX.enter rfl rfl rfl ?_)
  refine WP.run (pc' := if x < 0 then 14 else 4) (L' := [.int x]) (st' := []) (I1 := I) 2 rfl ?_
  refine WP.br (fun h1 => ?_) (fun h1 => ?_)
  · refine WP.run (pc' := 15) (L' := [.int x]) (st' := [.int (nI 0)]) (I1 := I) 1 rfl ?_
    exact WP.ret rfl rfl (⟨congrArg (fun z : Int32 => some (Value.int z)) (b2iF (by first | exact inA_f1 (by assumption) | exact inA_f99 (by assumption))).symm, rfl⟩)
  · refine WP.run (pc' := if (nI 99) < x then 14 else 10) (L' := [.int x]) (st' := []) (I1 := I) 3 rfl ?_
    refine WP.br (fun h2 => ?_) (fun h2 => ?_)
    · refine WP.run (pc' := 15) (L' := [.int x]) (st' := [.int (nI 0)]) (I1 := I) 1 rfl ?_
      exact WP.ret rfl rfl (⟨congrArg (fun z : Int32 => some (Value.int z)) (b2iF (by first | exact inA_f1 (by assumption) | exact inA_f99 (by assumption))).symm, rfl⟩)
    · refine WP.run (pc' := 15) (L' := [.int x]) (st' := [.int (nI 1)]) (I1 := I) 2 rfl ?_
      exact WP.ret rfl rfl (⟨congrArg (fun z : Int32 => some (Value.int z)) (b2iT (inA_t99 (by assumption) (by assumption))).symm, rfl⟩)
set_option maxRecDepth 100000 in
theorem sp_isRow {d : Nat} {I : Pl} {x : Int32} : Ev (d + 1) 55 [.ref 1, .int x] (mem I) (some (.int (b2i (inA x 8)))) (mem I) := by
  refine Ev.only (EvX.enter rfl rfl rfl ?_)
  refine WP.run (pc' := if x < 0 then 14 else 4) (L' := [.ref 1, .int x]) (st' := []) (I1 := I) 2 rfl ?_
  refine WP.br (fun h1 => ?_) (fun h1 => ?_)
  · refine WP.run (pc' := 15) (L' := [.ref 1, .int x]) (st' := [.int (nI 0)]) (I1 := I) 1 rfl ?_
    exact WP.ret rfl rfl (⟨congrArg (fun z : Int32 => some (Value.int z)) (b2iF (by first | exact inA_f1 (by assumption) | exact inA_f2 (by omega) (by assumption))).symm, rfl⟩)
  · refine WP.run (pc' := if (nI 8) ≤ x then 14 else 10) (L' := [.ref 1, .int x]) (st' := []) (I1 := I) 3 rfl ?_
    refine WP.br (fun h2 => ?_) (fun h2 => ?_)
    · refine WP.run (pc' := 15) (L' := [.ref 1, .int x]) (st' := [.int (nI 0)]) (I1 := I) 1 rfl ?_
      exact WP.ret rfl rfl (⟨congrArg (fun z : Int32 => some (Value.int z)) (b2iF (by first | exact inA_f1 (by assumption) | exact inA_f2 (by omega) (by assumption))).symm, rfl⟩)
    · refine WP.run (pc' := 15) (L' := [.ref 1, .int x]) (st' := [.int (nI 1)]) (I1 := I) 2 rfl ?_
      exact WP.ret rfl rfl (⟨congrArg (fun z : Int32 => some (Value.int z)) (b2iT (inA_t (by omega) (by assumption) (by assumption))).symm, rfl⟩)
set_option maxRecDepth 100000 in
theorem sp_isLane {d : Nat} {I : Pl} {x : Int32} : Ev (d + 1) 56 [.ref 1, .int x] (mem I) (some (.int (b2i (inA x 3)))) (mem I) := by
  refine Ev.only (EvX.enter rfl rfl rfl ?_)
  refine WP.run (pc' := if x < 0 then 13 else 4) (L' := [.ref 1, .int x]) (st' := []) (I1 := I) 2 rfl ?_
  refine WP.br (fun h1 => ?_) (fun h1 => ?_)
  · refine WP.run (pc' := 14) (L' := [.ref 1, .int x]) (st' := [.int (nI 0)]) (I1 := I) 1 rfl ?_
    exact WP.ret rfl rfl (⟨congrArg (fun z : Int32 => some (Value.int z)) (b2iF (by first | exact inA_f1 (by assumption) | exact inA_f2 (by omega) (by assumption))).symm, rfl⟩)
  · refine WP.run (pc' := if (nI 3) ≤ x then 13 else 9) (L' := [.ref 1, .int x]) (st' := []) (I1 := I) 3 rfl ?_
    refine WP.br (fun h2 => ?_) (fun h2 => ?_)
    · refine WP.run (pc' := 14) (L' := [.ref 1, .int x]) (st' := [.int (nI 0)]) (I1 := I) 1 rfl ?_
      exact WP.ret rfl rfl (⟨congrArg (fun z : Int32 => some (Value.int z)) (b2iF (by first | exact inA_f1 (by assumption) | exact inA_f2 (by omega) (by assumption))).symm, rfl⟩)
    · refine WP.run (pc' := 14) (L' := [.ref 1, .int x]) (st' := [.int (nI 1)]) (I1 := I) 2 rfl ?_
      exact WP.ret rfl rfl (⟨congrArg (fun z : Int32 => some (Value.int z)) (b2iT (inA_t (by omega) (by assumption) (by assumption))).symm, rfl⟩)
set_option maxRecDepth 100000 in
theorem sp_isStrand {d : Nat} {I : Pl} {x : Int32} {N : Nat → Nat} (hT : Tw I 247 N) (hN : TI N) : Ev (d + 1) 66 [.ref 247, .int x] (mem I) (some (.int (b2i (inA x (N 2))))) (mem I) := by
  obtain ⟨b0, b1, b2, b3, b4, b5, b6, b7, b8, bS, bC, bS1, bC1, bZ, bG⟩ := id hN
  refine Ev.only (EvX.enter rfl rfl rfl ?_)
  refine WP.run (pc' := if x < 0 then 16 else 4) (L' := [.ref 247, .int x]) (st' := []) (I1 := I) 2 rfl ?_
  refine WP.br (fun h1 => ?_) (fun h1 => ?_)
  · refine WP.run (pc' := 17) (L' := [.ref 247, .int x]) (st' := [.int (nI 0)]) (I1 := I) 1 rfl ?_
    exact WP.ret rfl rfl (⟨congrArg (fun z : Int32 => some (Value.int z)) (b2iF (by first | exact inA_f1 (by assumption) | exact inA_f2 (by omega) (by assumption))).symm, rfl⟩)
  · refine WP.run (pc' := 9) (L' := [.ref 247, .int x]) (st' := [.int (I 247 7), .int x]) (I1 := I) 3 rfl ?_
    refine WP.cg (st' := [.int (nI (N 2)), .int x]) rfl (congrArg (fun z : Int32 => (.int z :: [.int x] : List Value)) (hT.f7)) rfl ?_
    refine WP.run (pc' := if (nI (N 2)) ≤ x then 16 else 12) (L' := [.ref 247, .int x]) (st' := []) (I1 := I) 1 rfl ?_
    refine WP.br (fun h2 => ?_) (fun h2 => ?_)
    · refine WP.run (pc' := 17) (L' := [.ref 247, .int x]) (st' := [.int (nI 0)]) (I1 := I) 1 rfl ?_
      exact WP.ret rfl rfl (⟨congrArg (fun z : Int32 => some (Value.int z)) (b2iF (by first | exact inA_f1 (by assumption) | exact inA_f2 (by omega) (by assumption))).symm, rfl⟩)
    · refine WP.run (pc' := 17) (L' := [.ref 247, .int x]) (st' := [.int (nI 1)]) (I1 := I) 2 rfl ?_
      exact WP.ret rfl rfl (⟨congrArg (fun z : Int32 => some (Value.int z)) (b2iT (inA_t (by omega) (by assumption) (by assumption))).symm, rfl⟩)
set_option maxRecDepth 100000 in
theorem sp_isClimber {d : Nat} {I : Pl} {x : Int32} {N : Nat → Nat} (hT : Tw I 247 N) (hN : TI N) : Ev (d + 1) 67 [.ref 247, .int x] (mem I) (some (.int (b2i (inA x (N 3))))) (mem I) := by
  obtain ⟨b0, b1, b2, b3, b4, b5, b6, b7, b8, bS, bC, bS1, bC1, bZ, bG⟩ := id hN
  refine Ev.only (EvX.enter rfl rfl rfl ?_)
  refine WP.run (pc' := if x < 0 then 16 else 4) (L' := [.ref 247, .int x]) (st' := []) (I1 := I) 2 rfl ?_
  refine WP.br (fun h1 => ?_) (fun h1 => ?_)
  · refine WP.run (pc' := 17) (L' := [.ref 247, .int x]) (st' := [.int (nI 0)]) (I1 := I) 1 rfl ?_
    exact WP.ret rfl rfl (⟨congrArg (fun z : Int32 => some (Value.int z)) (b2iF (by first | exact inA_f1 (by assumption) | exact inA_f2 (by omega) (by assumption))).symm, rfl⟩)
  · refine WP.run (pc' := 9) (L' := [.ref 247, .int x]) (st' := [.int (I 247 8), .int x]) (I1 := I) 3 rfl ?_
    refine WP.cg (st' := [.int (nI (N 3)), .int x]) rfl (congrArg (fun z : Int32 => (.int z :: [.int x] : List Value)) (hT.f8)) rfl ?_
    refine WP.run (pc' := if (nI (N 3)) ≤ x then 16 else 12) (L' := [.ref 247, .int x]) (st' := []) (I1 := I) 1 rfl ?_
    refine WP.br (fun h2 => ?_) (fun h2 => ?_)
    · refine WP.run (pc' := 17) (L' := [.ref 247, .int x]) (st' := [.int (nI 0)]) (I1 := I) 1 rfl ?_
      exact WP.ret rfl rfl (⟨congrArg (fun z : Int32 => some (Value.int z)) (b2iF (by first | exact inA_f1 (by assumption) | exact inA_f2 (by omega) (by assumption))).symm, rfl⟩)
    · refine WP.run (pc' := 17) (L' := [.ref 247, .int x]) (st' := [.int (nI 1)]) (I1 := I) 2 rfl ?_
      exact WP.ret rfl rfl (⟨congrArg (fun z : Int32 => some (Value.int z)) (b2iT (inA_t (by omega) (by assumption) (by assumption))).symm, rfl⟩)
set_option maxRecDepth 100000 in
theorem sp_isSet {d : Nat} {I : Pl} {x : Int32} {N : Nat → Nat} (hT : Tw I 247 N) (hN : TI N) : Ev (d + 1) 27 [.ref 247, .int x] (mem I) (some (.int (b2i (inA x (2 ^ N 2))))) (mem I) := by
  obtain ⟨b0, b1, b2, b3, b4, b5, b6, b7, b8, bS, bC, bS1, bC1, bZ, bG⟩ := id hN
  obtain ⟨s6, s7, s64⟩ := hN.set64
  refine Ev.only (EvX.enter rfl rfl rfl ?_)
  refine WP.run (pc' := if x < 0 then 18 else 4) (L' := [.ref 247, .int x]) (st' := []) (I1 := I) 2 rfl ?_
  refine WP.br (fun h1 => ?_) (fun h1 => ?_)
  · refine WP.run (pc' := 19) (L' := [.ref 247, .int x]) (st' := [.int (nI 0)]) (I1 := I) 1 rfl ?_
    exact WP.ret rfl rfl (⟨congrArg (fun z : Int32 => some (Value.int z)) (b2iF (by first | exact inA_f1 (by assumption) | exact inA_f2 (by omega) (by assumption))).symm, rfl⟩)
  · refine WP.run (pc' := 10) (L' := [.ref 247, .int x]) (st' := [.int (I 247 7), .int (nI 1), .int x]) (I1 := I) 4 rfl ?_
    refine WP.cg (st' := [.int (nI (N 2)), .int (nI 1), .int x]) rfl (congrArg (fun z : Int32 => (.int z :: [.int (nI 1), .int x] : List Value)) (hT.f7)) rfl ?_
    refine WP.run (pc' := 11) (L' := [.ref 247, .int x]) (st' := [.int ((nI 1) <<< ((nI (N 2)) &&& 31)), .int x]) (I1 := I) 1 rfl ?_
    refine WP.cg (st' := [.int (nI (2 ^ (N 2))), .int x]) rfl (congrArg (fun z : Int32 => (.int z :: [.int x] : List Value)) (nI_shl1 (N 2) (by omega))) rfl ?_
    refine WP.run (pc' := if (nI (2 ^ (N 2))) ≤ x then 18 else 14) (L' := [.ref 247, .int x]) (st' := []) (I1 := I) 1 rfl ?_
    refine WP.br (fun h2 => ?_) (fun h2 => ?_)
    · refine WP.run (pc' := 19) (L' := [.ref 247, .int x]) (st' := [.int (nI 0)]) (I1 := I) 1 rfl ?_
      exact WP.ret rfl rfl (⟨congrArg (fun z : Int32 => some (Value.int z)) (b2iF (by first | exact inA_f1 (by assumption) | exact inA_f2 (by omega) (by assumption))).symm, rfl⟩)
    · refine WP.run (pc' := 19) (L' := [.ref 247, .int x]) (st' := [.int (nI 1)]) (I1 := I) 2 rfl ?_
      exact WP.ret rfl rfl (⟨congrArg (fun z : Int32 => some (Value.int z)) (b2iT (inA_t (by omega) (by assumption) (by assumption))).symm, rfl⟩)
