/-! what the calls that only read answer: the reference -/
theorem fm_lt_e {a b e : Nat} (he : 0 < e) : fmN a b e < e := Nat.mod_lt _ he
theorem fm_hit {a b e : Nat} (he : 0 < e) (ha : a < e) : (b + fmN a b e) % e = a := by
  unfold fmN
  rw [Nat.add_mod_mod]
  have h1 : b % e < e := Nat.mod_lt _ he
  have h2 : e * (b / e) + b % e = b := Nat.div_add_mod b e
  have h3 : b + (a + (e - b % e)) = a + e * (b / e + 1) := by
    rw [Nat.mul_add, Nat.mul_one]
    omega
  rw [h3, Nat.add_mul_mod_self_left]
  exact Nat.mod_eq_of_lt ha
theorem fm_uniq {a b e t : Nat} (he : 0 < e) (ht : t < e) (h : (b + t) % e = a) : t = fmN a b e := by
  unfold fmN
  have h1 : b % e < e := Nat.mod_lt _ he
  have h4 : (b % e + t) % e = a := by rw [Nat.mod_add_mod, h]
  rcases Nat.lt_or_ge (b % e + t) e with q | q
  · rw [Nat.mod_eq_of_lt q] at h4
    rw [show a + (e - b % e) = t + e by omega, Nat.add_mod_right, Nat.mod_eq_of_lt ht]
  · rw [Nat.mod_eq_sub_mod q, Nat.mod_eq_of_lt (by omega)] at h4
    rw [show a + (e - b % e) = t by omega, Nat.mod_eq_of_lt ht]
/-- how many of the first k rows the reference has -/
def hmM (I : Pl) : Nat → Nat
  | 0 => 0
  | k + 1 => if 0 ≤ I 274 k then hmM I k + 1 else hmM I k + 0
theorem hmM_le (I : Pl) : ∀ k, hmM I k ≤ k := by
  intro k
  induction k with
  | zero => exact Nat.le_refl _
  | succ k ih => unfold hmM; split <;> omega
set_option maxRecDepth 100000 in
theorem ms_status {d : Nat} {I : Pl}  : Ev (d + 1) 206 [.ref 271] (mem I) (some (.int (I 271 7))) (mem I) := by
  refine Ev.only (EvX.enter rfl rfl rfl ?_)
  refine WP.run (pc' := 4) (L' := [.ref 271]) (st' := [.int (I 271 7)]) (I1 := I) 2 rfl ?_
  exact WP.ret rfl rfl (⟨rfl, rfl⟩)
set_option maxRecDepth 100000 in
theorem ms_fault {d : Nat} {I : Pl}  : Ev (d + 1) 148 [.ref 271] (mem I) (some (.int (I 271 10))) (mem I) := by
  refine Ev.only (EvX.enter rfl rfl rfl ?_)
  refine WP.run (pc' := 4) (L' := [.ref 271]) (st' := [.int (I 271 10)]) (I1 := I) 2 rfl ?_
  exact WP.ret rfl rfl (⟨rfl, rfl⟩)
set_option maxRecDepth 100000 in
theorem ms_strand {d : Nat} {I : Pl} {N : Nat → Nat} {x w : Int32} (hM : T0 I N) (hN : TI N)  : Ev (d + 3) 165 [.ref 271, .int x, .int w] (mem I) (some (.int (aStrand N x w))) (mem I) := by
  obtain ⟨b0, b1, b2, b3, b4, b5, b6, b7, b8, bS, bC, bS1, bC1, bZ, bG⟩ := id hN
  obtain ⟨s6, s7, s64⟩ := hN.set64
  refine Ev.only (EvX.enter rfl rfl rfl ?_)
  refine WP.run (pc' := 2) (L' := [.ref 271, .int x, .int w]) (st' := [.int x, .ref 271]) (I1 := I) 2 rfl ?_
  refine WP.callB (rest := []) rfl rfl (ms_isStrand (d := d) (x := x) hM hN) (fun h1 => ?_) (fun h1 => ?_)
  · refine WP.run (pc' := 14) (L' := [.ref 271, .int x, .int w]) (st' := [.long (3 : Int64), .long (0 : Int64), .long w.toInt64]) (I1 := I) 5 rfl ?_
    refine WP.callB (rest := []) rfl rfl (sp_inA (d := d + 1) (x := w) (n := 4) (hi := (3 : Int64)) rfl) (fun h2 => ?_) (fun h2 => ?_)
    · refine WP.run (pc' := 23) (L' := [.ref 271, .int x, .int w]) (st' := []) (I1 := I) 1 rfl ?_
      have hx_j : inA x (N 2) := (by assumption)
      obtain ⟨j, hj, rfl⟩ := inA_of hx_j (by omega)
      have hw : inA w 4 := (by assumption)
      obtain ⟨w1, hw1, rfl⟩ := inA_of hw (by decide)
      have hsw : w1 = 0 ∨ w1 = 1 ∨ w1 = 2 ∨ w1 = 3 := by omega
      rcases hsw with rfl | rfl | rfl | rfl
      · refine WP.run (pc' := 35) (L' := [.ref 271, .int (nI j), .int (nI 0)]) (st' := [.int ((nI 15) + (nI j)), .ref 272]) (I1 := I) 7 rfl ?_
        refine WP.cg (st' := [.int (nI (15 + j)), .ref 272]) rfl (congrArg (fun z : Int32 => (.int z :: [.ref 272] : List Value)) (nI_add 15 j)) rfl ?_
        refine WP.iald rfl rfl rfl (by omega) (by decide) ?_
        refine WP.cg (st' := [.int (nI (N (15 + j)))]) rfl (congrArg (fun z : Int32 => (.int z :: [] : List Value)) (hM (15 + j) (by omega))) rfl ?_
        refine WP.run (pc' := 77) (L' := [.ref 271, .int (nI j), .int (nI 0)]) (st' := [.int (nI (N (15 + j)))]) (I1 := I) 1 rfl ?_
        exact WP.ret rfl rfl (⟨by (unfold aStrand qStrand; (repeat rw [nOf_nI (by omega)]); (repeat first | rw [if_pos (by first | assumption | omega | (refine inA_iff.mpr ?_; omega) | (intro q; have q2 := inA_iff.mp q; omega) | (intro q; omega) | (refine ⟨?_, ?_⟩ <;> rw [nI_int (by omega)] <;> omega) | (rw [nI_int (by omega)]; omega) | (intro q; rw [nI_int (by omega)] at q; omega) | (refine ⟨?_, ?_, ?_⟩ <;> omega) | (intro q; obtain ⟨q1, q2, q3⟩ := q; omega) | fail)] | rw [if_neg (by first | assumption | omega | (refine inA_iff.mpr ?_; omega) | (intro q; have q2 := inA_iff.mp q; omega) | (intro q; omega) | (refine ⟨?_, ?_⟩ <;> rw [nI_int (by omega)] <;> omega) | (rw [nI_int (by omega)]; omega) | (intro q; rw [nI_int (by omega)] at q; omega) | (refine ⟨?_, ?_, ?_⟩ <;> omega) | (intro q; obtain ⟨q1, q2, q3⟩ := q; omega) | fail)])) <;> rfl, rfl⟩)
      · refine WP.run (pc' := 52) (L' := [.ref 271, .int (nI j), .int (nI 1)]) (st' := [.int ((nI 21) + (nI j)), .ref 272]) (I1 := I) 10 rfl ?_
        refine WP.cg (st' := [.int (nI (21 + j)), .ref 272]) rfl (congrArg (fun z : Int32 => (.int z :: [.ref 272] : List Value)) (nI_add 21 j)) rfl ?_
        refine WP.iald rfl rfl rfl (by omega) (by decide) ?_
        refine WP.cg (st' := [.int (nI (N (21 + j)))]) rfl (congrArg (fun z : Int32 => (.int z :: [] : List Value)) (hM (21 + j) (by omega))) rfl ?_
        refine WP.run (pc' := 77) (L' := [.ref 271, .int (nI j), .int (nI 1)]) (st' := [.int (nI (N (21 + j)))]) (I1 := I) 1 rfl ?_
        exact WP.ret rfl rfl (⟨by (unfold aStrand qStrand; (repeat rw [nOf_nI (by omega)]); (repeat first | rw [if_pos (by first | assumption | omega | (refine inA_iff.mpr ?_; omega) | (intro q; have q2 := inA_iff.mp q; omega) | (intro q; omega) | (refine ⟨?_, ?_⟩ <;> rw [nI_int (by omega)] <;> omega) | (rw [nI_int (by omega)]; omega) | (intro q; rw [nI_int (by omega)] at q; omega) | (refine ⟨?_, ?_, ?_⟩ <;> omega) | (intro q; obtain ⟨q1, q2, q3⟩ := q; omega) | fail)] | rw [if_neg (by first | assumption | omega | (refine inA_iff.mpr ?_; omega) | (intro q; have q2 := inA_iff.mp q; omega) | (intro q; omega) | (refine ⟨?_, ?_⟩ <;> rw [nI_int (by omega)] <;> omega) | (rw [nI_int (by omega)]; omega) | (intro q; rw [nI_int (by omega)] at q; omega) | (refine ⟨?_, ?_, ?_⟩ <;> omega) | (intro q; obtain ⟨q1, q2, q3⟩ := q; omega) | fail)])) <;> rfl, rfl⟩)
      · refine WP.run (pc' := 72) (L' := [.ref 271, .int (nI j), .int (nI 2)]) (st' := [.int (nI 7), .ref 272]) (I1 := I) 12 rfl ?_
        refine WP.iald rfl rfl rfl (by omega) (by decide) ?_
        refine WP.cg (st' := [.int (nI (N 7))]) rfl (congrArg (fun z : Int32 => (.int z :: [] : List Value)) (hM 7 (by omega))) rfl ?_
        refine WP.run (pc' := 75) (L' := [.ref 271, .int (nI j), .int (nI 2)]) (st' := [.int ((nI (N 7)) >>> ((nI j) &&& 31))]) (I1 := I) 2 rfl ?_
        refine WP.cg (st' := [.int (nI ((N 7) / 2 ^ j))]) rfl (congrArg (fun z : Int32 => (.int z :: [] : List Value)) (nI_shr (N 7) j (by omega) (by omega))) rfl ?_
        refine WP.run (pc' := 77) (L' := [.ref 271, .int (nI j), .int (nI 2)]) (st' := [.int ((nI ((N 7) / 2 ^ j)) &&& (nI 1))]) (I1 := I) 2 rfl ?_
        refine WP.cg (st' := [.int (nI (bitN (N 7) j))]) rfl (congrArg (fun z : Int32 => (.int z :: [] : List Value)) (nI_bit _ _)) rfl ?_
        exact WP.ret rfl rfl (⟨by (unfold aStrand qStrand; (repeat rw [nOf_nI (by omega)]); (repeat first | rw [if_pos (by first | assumption | omega | (refine inA_iff.mpr ?_; omega) | (intro q; have q2 := inA_iff.mp q; omega) | (intro q; omega) | (refine ⟨?_, ?_⟩ <;> rw [nI_int (by omega)] <;> omega) | (rw [nI_int (by omega)]; omega) | (intro q; rw [nI_int (by omega)] at q; omega) | (refine ⟨?_, ?_, ?_⟩ <;> omega) | (intro q; obtain ⟨q1, q2, q3⟩ := q; omega) | fail)] | rw [if_neg (by first | assumption | omega | (refine inA_iff.mpr ?_; omega) | (intro q; have q2 := inA_iff.mp q; omega) | (intro q; omega) | (refine ⟨?_, ?_⟩ <;> rw [nI_int (by omega)] <;> omega) | (rw [nI_int (by omega)]; omega) | (intro q; rw [nI_int (by omega)] at q; omega) | (refine ⟨?_, ?_, ?_⟩ <;> omega) | (intro q; obtain ⟨q1, q2, q3⟩ := q; omega) | fail)])) <;> rfl, rfl⟩)
      · refine WP.run (pc' := 72) (L' := [.ref 271, .int (nI j), .int (nI 3)]) (st' := [.int (nI 6), .ref 272]) (I1 := I) 11 rfl ?_
        refine WP.iald rfl rfl rfl (by omega) (by decide) ?_
        refine WP.cg (st' := [.int (nI (N 6))]) rfl (congrArg (fun z : Int32 => (.int z :: [] : List Value)) (hM 6 (by omega))) rfl ?_
        refine WP.run (pc' := 75) (L' := [.ref 271, .int (nI j), .int (nI 3)]) (st' := [.int ((nI (N 6)) >>> ((nI j) &&& 31))]) (I1 := I) 2 rfl ?_
        refine WP.cg (st' := [.int (nI ((N 6) / 2 ^ j))]) rfl (congrArg (fun z : Int32 => (.int z :: [] : List Value)) (nI_shr (N 6) j (by omega) (by omega))) rfl ?_
        refine WP.run (pc' := 77) (L' := [.ref 271, .int (nI j), .int (nI 3)]) (st' := [.int ((nI ((N 6) / 2 ^ j)) &&& (nI 1))]) (I1 := I) 2 rfl ?_
        refine WP.cg (st' := [.int (nI (bitN (N 6) j))]) rfl (congrArg (fun z : Int32 => (.int z :: [] : List Value)) (nI_bit _ _)) rfl ?_
        exact WP.ret rfl rfl (⟨by (unfold aStrand qStrand; (repeat rw [nOf_nI (by omega)]); (repeat first | rw [if_pos (by first | assumption | omega | (refine inA_iff.mpr ?_; omega) | (intro q; have q2 := inA_iff.mp q; omega) | (intro q; omega) | (refine ⟨?_, ?_⟩ <;> rw [nI_int (by omega)] <;> omega) | (rw [nI_int (by omega)]; omega) | (intro q; rw [nI_int (by omega)] at q; omega) | (refine ⟨?_, ?_, ?_⟩ <;> omega) | (intro q; obtain ⟨q1, q2, q3⟩ := q; omega) | fail)] | rw [if_neg (by first | assumption | omega | (refine inA_iff.mpr ?_; omega) | (intro q; have q2 := inA_iff.mp q; omega) | (intro q; omega) | (refine ⟨?_, ?_⟩ <;> rw [nI_int (by omega)] <;> omega) | (rw [nI_int (by omega)]; omega) | (intro q; rw [nI_int (by omega)] at q; omega) | (refine ⟨?_, ?_, ?_⟩ <;> omega) | (intro q; obtain ⟨q1, q2, q3⟩ := q; omega) | fail)])) <;> rfl, rfl⟩)
    · refine WP.run (pc' := 22) (L' := [.ref 271, .int x, .int w]) (st' := [.int (-1000001)]) (I1 := I) 2 rfl ?_
      exact WP.ret rfl rfl (⟨by (unfold aStrand qStrand; (repeat rw [nOf_nI (by omega)]); (repeat first | rw [if_pos (by first | assumption | omega | (refine inA_iff.mpr ?_; omega) | (intro q; have q2 := inA_iff.mp q; omega) | (intro q; omega) | (refine ⟨?_, ?_⟩ <;> rw [nI_int (by omega)] <;> omega) | (rw [nI_int (by omega)]; omega) | (intro q; rw [nI_int (by omega)] at q; omega) | (refine ⟨?_, ?_, ?_⟩ <;> omega) | (intro q; obtain ⟨q1, q2, q3⟩ := q; omega) | fail)] | rw [if_neg (by first | assumption | omega | (refine inA_iff.mpr ?_; omega) | (intro q; have q2 := inA_iff.mp q; omega) | (intro q; omega) | (refine ⟨?_, ?_⟩ <;> rw [nI_int (by omega)] <;> omega) | (rw [nI_int (by omega)]; omega) | (intro q; rw [nI_int (by omega)] at q; omega) | (refine ⟨?_, ?_, ?_⟩ <;> omega) | (intro q; obtain ⟨q1, q2, q3⟩ := q; omega) | fail)])) <;> rfl, rfl⟩)
  · refine WP.run (pc' := 22) (L' := [.ref 271, .int x, .int w]) (st' := [.int (-1000001)]) (I1 := I) 2 rfl ?_
    exact WP.ret rfl rfl (⟨by (unfold aStrand qStrand; (repeat rw [nOf_nI (by omega)]); (repeat first | rw [if_pos (by first | assumption | omega | (refine inA_iff.mpr ?_; omega) | (intro q; have q2 := inA_iff.mp q; omega) | (intro q; omega) | (refine ⟨?_, ?_⟩ <;> rw [nI_int (by omega)] <;> omega) | (rw [nI_int (by omega)]; omega) | (intro q; rw [nI_int (by omega)] at q; omega) | (refine ⟨?_, ?_, ?_⟩ <;> omega) | (intro q; obtain ⟨q1, q2, q3⟩ := q; omega) | fail)] | rw [if_neg (by first | assumption | omega | (refine inA_iff.mpr ?_; omega) | (intro q; have q2 := inA_iff.mp q; omega) | (intro q; omega) | (refine ⟨?_, ?_⟩ <;> rw [nI_int (by omega)] <;> omega) | (rw [nI_int (by omega)]; omega) | (intro q; rw [nI_int (by omega)] at q; omega) | (refine ⟨?_, ?_, ?_⟩ <;> omega) | (intro q; obtain ⟨q1, q2, q3⟩ := q; omega) | fail)])) <;> rfl, rfl⟩)
set_option maxRecDepth 100000 in
theorem ms_climber {d : Nat} {I : Pl} {N : Nat → Nat} {x w : Int32} (hM : T0 I N) (hN : TI N)  : Ev (d + 4) 168 [.ref 271, .int x, .int w] (mem I) (some (.int (aClimber N x w))) (mem I) := by
  obtain ⟨b0, b1, b2, b3, b4, b5, b6, b7, b8, bS, bC, bS1, bC1, bZ, bG⟩ := id hN
  obtain ⟨s6, s7, s64⟩ := hN.set64
  refine Ev.only (EvX.enter rfl rfl rfl ?_)
  refine WP.run (pc' := 2) (L' := [.ref 271, .int x, .int w]) (st' := [.int x, .ref 271]) (I1 := I) 2 rfl ?_
  refine WP.callB (rest := []) rfl rfl (ms_isClimber (d := d + 1) (x := x) hM hN) (fun h1 => ?_) (fun h1 => ?_)
  · refine WP.run (pc' := 14) (L' := [.ref 271, .int x, .int w]) (st' := [.long (5 : Int64), .long (0 : Int64), .long w.toInt64]) (I1 := I) 5 rfl ?_
    refine WP.callB (rest := []) rfl rfl (sp_inA (d := d + 2) (x := w) (n := 6) (hi := (5 : Int64)) rfl) (fun h2 => ?_) (fun h2 => ?_)
    · refine WP.run (pc' := 23) (L' := [.ref 271, .int x, .int w]) (st' := []) (I1 := I) 1 rfl ?_
      have hx_j : inA x (N 3) := (by assumption)
      obtain ⟨j, hj, rfl⟩ := inA_of hx_j (by omega)
      obtain ⟨bw, be, bo⟩ := bC j (by omega)
      have hw : inA w 6 := (by assumption)
      obtain ⟨w1, hw1, rfl⟩ := inA_of hw (by decide)
      have hsw : w1 = 0 ∨ w1 = 1 ∨ w1 = 2 ∨ w1 = 3 ∨ w1 = 4 ∨ w1 = 5 := by omega
      rcases hsw with rfl | rfl | rfl | rfl | rfl | rfl
      · refine WP.run (pc' := 24) (L' := [.ref 271, .int (nI j), .int (nI 0)]) (st' := [.int (nI 0)]) (I1 := I) 1 rfl ?_
        refine WP.run (pc' := 60) (L' := [.ref 271, .int (nI j), .int (nI 0)]) (st' := []) (I1 := I) 1 rfl ?_
        refine WP.run (pc' := 68) (L' := [.ref 271, .int (nI j), .int (nI 0)]) (st' := [.int ((nI 27) + (nI j)), .ref 272]) (I1 := I) 5 rfl ?_
        refine WP.cg (st' := [.int (nI (27 + j)), .ref 272]) rfl (congrArg (fun z : Int32 => (.int z :: [.ref 272] : List Value)) (nI_add 27 j)) rfl ?_
        refine WP.iald rfl rfl rfl (by omega) (by decide) ?_
        refine WP.cg (st' := [.int (nI (N (27 + j)))]) rfl (congrArg (fun z : Int32 => (.int z :: [] : List Value)) (hM (27 + j) (by omega))) rfl ?_
        exact WP.ret rfl rfl (⟨by (unfold aClimber qClimber; (repeat rw [nOf_nI (by omega)]); (repeat first | rw [if_pos (by first | assumption | omega | (refine inA_iff.mpr ?_; omega) | (intro q; have q2 := inA_iff.mp q; omega) | (intro q; omega) | (refine ⟨?_, ?_⟩ <;> rw [nI_int (by omega)] <;> omega) | (rw [nI_int (by omega)]; omega) | (intro q; rw [nI_int (by omega)] at q; omega) | (refine ⟨?_, ?_, ?_⟩ <;> omega) | (intro q; obtain ⟨q1, q2, q3⟩ := q; omega) | fail)] | rw [if_neg (by first | assumption | omega | (refine inA_iff.mpr ?_; omega) | (intro q; have q2 := inA_iff.mp q; omega) | (intro q; omega) | (refine ⟨?_, ?_⟩ <;> rw [nI_int (by omega)] <;> omega) | (rw [nI_int (by omega)]; omega) | (intro q; rw [nI_int (by omega)] at q; omega) | (refine ⟨?_, ?_, ?_⟩ <;> omega) | (intro q; obtain ⟨q1, q2, q3⟩ := q; omega) | fail)])) <;> rfl, rfl⟩)
      · refine WP.run (pc' := 24) (L' := [.ref 271, .int (nI j), .int (nI 1)]) (st' := [.int (nI 1)]) (I1 := I) 1 rfl ?_
        refine WP.run (pc' := 70) (L' := [.ref 271, .int (nI j), .int (nI 1)]) (st' := []) (I1 := I) 1 rfl ?_
        refine WP.run (pc' := 78) (L' := [.ref 271, .int (nI j), .int (nI 1)]) (st' := [.int ((nI 32) + (nI j)), .ref 272]) (I1 := I) 5 rfl ?_
        refine WP.cg (st' := [.int (nI (32 + j)), .ref 272]) rfl (congrArg (fun z : Int32 => (.int z :: [.ref 272] : List Value)) (nI_add 32 j)) rfl ?_
        refine WP.iald rfl rfl rfl (by omega) (by decide) ?_
        refine WP.cg (st' := [.int (nI (N (32 + j)))]) rfl (congrArg (fun z : Int32 => (.int z :: [] : List Value)) (hM (32 + j) (by omega))) rfl ?_
        exact WP.ret rfl rfl (⟨by (unfold aClimber qClimber; (repeat rw [nOf_nI (by omega)]); (repeat first | rw [if_pos (by first | assumption | omega | (refine inA_iff.mpr ?_; omega) | (intro q; have q2 := inA_iff.mp q; omega) | (intro q; omega) | (refine ⟨?_, ?_⟩ <;> rw [nI_int (by omega)] <;> omega) | (rw [nI_int (by omega)]; omega) | (intro q; rw [nI_int (by omega)] at q; omega) | (refine ⟨?_, ?_, ?_⟩ <;> omega) | (intro q; obtain ⟨q1, q2, q3⟩ := q; omega) | fail)] | rw [if_neg (by first | assumption | omega | (refine inA_iff.mpr ?_; omega) | (intro q; have q2 := inA_iff.mp q; omega) | (intro q; omega) | (refine ⟨?_, ?_⟩ <;> rw [nI_int (by omega)] <;> omega) | (rw [nI_int (by omega)]; omega) | (intro q; rw [nI_int (by omega)] at q; omega) | (refine ⟨?_, ?_, ?_⟩ <;> omega) | (intro q; obtain ⟨q1, q2, q3⟩ := q; omega) | fail)])) <;> rfl, rfl⟩)
      · refine WP.run (pc' := 24) (L' := [.ref 271, .int (nI j), .int (nI 2)]) (st' := [.int (nI 2)]) (I1 := I) 1 rfl ?_
        refine WP.run (pc' := 80) (L' := [.ref 271, .int (nI j), .int (nI 2)]) (st' := []) (I1 := I) 1 rfl ?_
        refine WP.run (pc' := 88) (L' := [.ref 271, .int (nI j), .int (nI 2)]) (st' := [.int ((nI 37) + (nI j)), .ref 272]) (I1 := I) 5 rfl ?_
        refine WP.cg (st' := [.int (nI (37 + j)), .ref 272]) rfl (congrArg (fun z : Int32 => (.int z :: [.ref 272] : List Value)) (nI_add 37 j)) rfl ?_
        refine WP.iald rfl rfl rfl (by omega) (by decide) ?_
        refine WP.cg (st' := [.int (nI (N (37 + j)))]) rfl (congrArg (fun z : Int32 => (.int z :: [] : List Value)) (hM (37 + j) (by omega))) rfl ?_
        exact WP.ret rfl rfl (⟨by (unfold aClimber qClimber; (repeat rw [nOf_nI (by omega)]); (repeat first | rw [if_pos (by first | assumption | omega | (refine inA_iff.mpr ?_; omega) | (intro q; have q2 := inA_iff.mp q; omega) | (intro q; omega) | (refine ⟨?_, ?_⟩ <;> rw [nI_int (by omega)] <;> omega) | (rw [nI_int (by omega)]; omega) | (intro q; rw [nI_int (by omega)] at q; omega) | (refine ⟨?_, ?_, ?_⟩ <;> omega) | (intro q; obtain ⟨q1, q2, q3⟩ := q; omega) | fail)] | rw [if_neg (by first | assumption | omega | (refine inA_iff.mpr ?_; omega) | (intro q; have q2 := inA_iff.mp q; omega) | (intro q; omega) | (refine ⟨?_, ?_⟩ <;> rw [nI_int (by omega)] <;> omega) | (rw [nI_int (by omega)]; omega) | (intro q; rw [nI_int (by omega)] at q; omega) | (refine ⟨?_, ?_, ?_⟩ <;> omega) | (intro q; obtain ⟨q1, q2, q3⟩ := q; omega) | fail)])) <;> rfl, rfl⟩)
      · refine WP.run (pc' := 24) (L' := [.ref 271, .int (nI j), .int (nI 3)]) (st' := [.int (nI 3)]) (I1 := I) 1 rfl ?_
        refine WP.run (pc' := 90) (L' := [.ref 271, .int (nI j), .int (nI 3)]) (st' := []) (I1 := I) 1 rfl ?_
        refine WP.run (pc' := 98) (L' := [.ref 271, .int (nI j), .int (nI 3)]) (st' := [.int ((nI 42) + (nI j)), .ref 272]) (I1 := I) 5 rfl ?_
        refine WP.cg (st' := [.int (nI (42 + j)), .ref 272]) rfl (congrArg (fun z : Int32 => (.int z :: [.ref 272] : List Value)) (nI_add 42 j)) rfl ?_
        refine WP.iald rfl rfl rfl (by omega) (by decide) ?_
        refine WP.cg (st' := [.int (nI (N (42 + j)))]) rfl (congrArg (fun z : Int32 => (.int z :: [] : List Value)) (hM (42 + j) (by omega))) rfl ?_
        exact WP.ret rfl rfl (⟨by (unfold aClimber qClimber; (repeat rw [nOf_nI (by omega)]); (repeat first | rw [if_pos (by first | assumption | omega | (refine inA_iff.mpr ?_; omega) | (intro q; have q2 := inA_iff.mp q; omega) | (intro q; omega) | (refine ⟨?_, ?_⟩ <;> rw [nI_int (by omega)] <;> omega) | (rw [nI_int (by omega)]; omega) | (intro q; rw [nI_int (by omega)] at q; omega) | (refine ⟨?_, ?_, ?_⟩ <;> omega) | (intro q; obtain ⟨q1, q2, q3⟩ := q; omega) | fail)] | rw [if_neg (by first | assumption | omega | (refine inA_iff.mpr ?_; omega) | (intro q; have q2 := inA_iff.mp q; omega) | (intro q; omega) | (refine ⟨?_, ?_⟩ <;> rw [nI_int (by omega)] <;> omega) | (rw [nI_int (by omega)]; omega) | (intro q; rw [nI_int (by omega)] at q; omega) | (refine ⟨?_, ?_, ?_⟩ <;> omega) | (intro q; obtain ⟨q1, q2, q3⟩ := q; omega) | fail)])) <;> rfl, rfl⟩)
      · refine WP.run (pc' := 24) (L' := [.ref 271, .int (nI j), .int (nI 4)]) (st' := [.int (nI 4)]) (I1 := I) 1 rfl ?_
        refine WP.run (pc' := 100) (L' := [.ref 271, .int (nI j), .int (nI 4)]) (st' := []) (I1 := I) 1 rfl ?_
        refine WP.run (pc' := 109) (L' := [.ref 271, .int (nI j), .int (nI 4)]) (st' := [.int ((nI 27) + (nI j)), .ref 272, .ref 271]) (I1 := I) 6 rfl ?_
        refine WP.cg (st' := [.int (nI (27 + j)), .ref 272, .ref 271]) rfl (congrArg (fun z : Int32 => (.int z :: [.ref 272, .ref 271] : List Value)) (nI_add 27 j)) rfl ?_
        refine WP.iald rfl rfl rfl (by omega) (by decide) ?_
        refine WP.cg (st' := [.int (nI (N (27 + j))), .ref 271]) rfl (congrArg (fun z : Int32 => (.int z :: [.ref 271] : List Value)) (hM (27 + j) (by omega))) rfl ?_
        refine WP.run (pc' := 116) (L' := [.ref 271, .int (nI j), .int (nI 4)]) (st' := [.int (nI 6), .ref 272, .int (nI (N (27 + j))), .ref 271]) (I1 := I) 3 rfl ?_
        refine WP.iald rfl rfl rfl (by omega) (by decide) ?_
        refine WP.cg (st' := [.int (nI (N 6)), .int (nI (N (27 + j))), .ref 271]) rfl (congrArg (fun z : Int32 => (.int z :: [.int (nI (N (27 + j))), .ref 271] : List Value)) (hM 6 (by omega))) rfl ?_
        refine WP.callB (rest := []) rfl rfl (ms_isBorne (d := d) (w := N (27 + j)) (m := N 6) hM hN (by omega) (by omega)) (fun h3 => ?_) (fun h3 => ?_)
        · refine WP.run (pc' := 128) (L' := [.ref 271, .int (nI j), .int (nI 4)]) (st' := [.int (nI 1)]) (I1 := I) 3 rfl ?_
          exact WP.ret rfl rfl (⟨by (unfold aClimber qClimber; (repeat rw [nOf_nI (by omega)]); (repeat first | rw [if_pos (by first | assumption | omega | (refine inA_iff.mpr ?_; omega) | (intro q; have q2 := inA_iff.mp q; omega) | (intro q; omega) | (refine ⟨?_, ?_⟩ <;> rw [nI_int (by omega)] <;> omega) | (rw [nI_int (by omega)]; omega) | (intro q; rw [nI_int (by omega)] at q; omega) | (refine ⟨?_, ?_, ?_⟩ <;> omega) | (intro q; obtain ⟨q1, q2, q3⟩ := q; omega) | fail)] | rw [if_neg (by first | assumption | omega | (refine inA_iff.mpr ?_; omega) | (intro q; have q2 := inA_iff.mp q; omega) | (intro q; omega) | (refine ⟨?_, ?_⟩ <;> rw [nI_int (by omega)] <;> omega) | (rw [nI_int (by omega)]; omega) | (intro q; rw [nI_int (by omega)] at q; omega) | (refine ⟨?_, ?_, ?_⟩ <;> omega) | (intro q; obtain ⟨q1, q2, q3⟩ := q; omega) | fail)])) <;> rfl, rfl⟩)
        · refine WP.run (pc' := 128) (L' := [.ref 271, .int (nI j), .int (nI 4)]) (st' := [.int (nI 0)]) (I1 := I) 2 rfl ?_
          exact WP.ret rfl rfl (⟨by (unfold aClimber qClimber; (repeat rw [nOf_nI (by omega)]); (repeat first | rw [if_pos (by first | assumption | omega | (refine inA_iff.mpr ?_; omega) | (intro q; have q2 := inA_iff.mp q; omega) | (intro q; omega) | (refine ⟨?_, ?_⟩ <;> rw [nI_int (by omega)] <;> omega) | (rw [nI_int (by omega)]; omega) | (intro q; rw [nI_int (by omega)] at q; omega) | (refine ⟨?_, ?_, ?_⟩ <;> omega) | (intro q; obtain ⟨q1, q2, q3⟩ := q; omega) | fail)] | rw [if_neg (by first | assumption | omega | (refine inA_iff.mpr ?_; omega) | (intro q; have q2 := inA_iff.mp q; omega) | (intro q; omega) | (refine ⟨?_, ?_⟩ <;> rw [nI_int (by omega)] <;> omega) | (rw [nI_int (by omega)]; omega) | (intro q; rw [nI_int (by omega)] at q; omega) | (refine ⟨?_, ?_, ?_⟩ <;> omega) | (intro q; obtain ⟨q1, q2, q3⟩ := q; omega) | fail)])) <;> rfl, rfl⟩)
      · refine WP.run (pc' := 24) (L' := [.ref 271, .int (nI j), .int (nI 5)]) (st' := [.int (nI 5)]) (I1 := I) 1 rfl ?_
        refine WP.run (pc' := 129) (L' := [.ref 271, .int (nI j), .int (nI 5)]) (st' := []) (I1 := I) 1 rfl ?_
        refine WP.run (pc' := 137) (L' := [.ref 271, .int (nI j), .int (nI 5)]) (st' := [.int (nI 6), .ref 272, .int (nI j), .ref 271]) (I1 := I) 5 rfl ?_
        refine WP.iald rfl rfl rfl (by omega) (by decide) ?_
        refine WP.cg (st' := [.int (nI (N 6)), .int (nI j), .ref 271]) rfl (congrArg (fun z : Int32 => (.int z :: [.int (nI j), .ref 271] : List Value)) (hM 6 (by omega))) rfl ?_
        refine WP.callV (rest := []) rfl rfl (ms_strainOf (d := d) (c := j) (m := N 6) hM hN (by omega) (by omega)) ?_
        exact WP.ret rfl rfl (⟨by (unfold aClimber qClimber; (repeat rw [nOf_nI (by omega)]); (repeat first | rw [if_pos (by first | assumption | omega | (refine inA_iff.mpr ?_; omega) | (intro q; have q2 := inA_iff.mp q; omega) | (intro q; omega) | (refine ⟨?_, ?_⟩ <;> rw [nI_int (by omega)] <;> omega) | (rw [nI_int (by omega)]; omega) | (intro q; rw [nI_int (by omega)] at q; omega) | (refine ⟨?_, ?_, ?_⟩ <;> omega) | (intro q; obtain ⟨q1, q2, q3⟩ := q; omega) | fail)] | rw [if_neg (by first | assumption | omega | (refine inA_iff.mpr ?_; omega) | (intro q; have q2 := inA_iff.mp q; omega) | (intro q; omega) | (refine ⟨?_, ?_⟩ <;> rw [nI_int (by omega)] <;> omega) | (rw [nI_int (by omega)]; omega) | (intro q; rw [nI_int (by omega)] at q; omega) | (refine ⟨?_, ?_, ?_⟩ <;> omega) | (intro q; obtain ⟨q1, q2, q3⟩ := q; omega) | fail)])) <;> rfl, rfl⟩)
    · refine WP.run (pc' := 22) (L' := [.ref 271, .int x, .int w]) (st' := [.int (-1000001)]) (I1 := I) 2 rfl ?_
      exact WP.ret rfl rfl (⟨by (unfold aClimber qClimber; (repeat rw [nOf_nI (by omega)]); (repeat first | rw [if_pos (by first | assumption | omega | (refine inA_iff.mpr ?_; omega) | (intro q; have q2 := inA_iff.mp q; omega) | (intro q; omega) | (refine ⟨?_, ?_⟩ <;> rw [nI_int (by omega)] <;> omega) | (rw [nI_int (by omega)]; omega) | (intro q; rw [nI_int (by omega)] at q; omega) | (refine ⟨?_, ?_, ?_⟩ <;> omega) | (intro q; obtain ⟨q1, q2, q3⟩ := q; omega) | fail)] | rw [if_neg (by first | assumption | omega | (refine inA_iff.mpr ?_; omega) | (intro q; have q2 := inA_iff.mp q; omega) | (intro q; omega) | (refine ⟨?_, ?_⟩ <;> rw [nI_int (by omega)] <;> omega) | (rw [nI_int (by omega)]; omega) | (intro q; rw [nI_int (by omega)] at q; omega) | (refine ⟨?_, ?_, ?_⟩ <;> omega) | (intro q; obtain ⟨q1, q2, q3⟩ := q; omega) | fail)])) <;> rfl, rfl⟩)
  · refine WP.run (pc' := 22) (L' := [.ref 271, .int x, .int w]) (st' := [.int (-1000001)]) (I1 := I) 2 rfl ?_
    exact WP.ret rfl rfl (⟨by (unfold aClimber qClimber; (repeat rw [nOf_nI (by omega)]); (repeat first | rw [if_pos (by first | assumption | omega | (refine inA_iff.mpr ?_; omega) | (intro q; have q2 := inA_iff.mp q; omega) | (intro q; omega) | (refine ⟨?_, ?_⟩ <;> rw [nI_int (by omega)] <;> omega) | (rw [nI_int (by omega)]; omega) | (intro q; rw [nI_int (by omega)] at q; omega) | (refine ⟨?_, ?_, ?_⟩ <;> omega) | (intro q; obtain ⟨q1, q2, q3⟩ := q; omega) | fail)] | rw [if_neg (by first | assumption | omega | (refine inA_iff.mpr ?_; omega) | (intro q; have q2 := inA_iff.mp q; omega) | (intro q; omega) | (refine ⟨?_, ?_⟩ <;> rw [nI_int (by omega)] <;> omega) | (rw [nI_int (by omega)]; omega) | (intro q; rw [nI_int (by omega)] at q; omega) | (refine ⟨?_, ?_, ?_⟩ <;> omega) | (intro q; obtain ⟨q1, q2, q3⟩ := q; omega) | fail)])) <;> rfl, rfl⟩)
set_option maxRecDepth 100000 in
theorem ms_due {d : Nat} {I : Pl} {N : Nat → Nat} {x : Int32} (hM : T0 I N) (hN : TI N)  : Ev (d + 2) 170 [.ref 271, .int x] (mem I) (some (.int (aDue N x))) (mem I) := by
  obtain ⟨b0, b1, b2, b3, b4, b5, b6, b7, b8, bS, bC, bS1, bC1, bZ, bG⟩ := id hN
  obtain ⟨s6, s7, s64⟩ := hN.set64
  refine Ev.only (EvX.enter rfl rfl rfl ?_)
  refine WP.run (pc' := 1) (L' := [.ref 271, .int x]) (st' := [.ref 271]) (I1 := I) 1 rfl ?_
  refine WP.callB (rest := []) rfl rfl (ms_isNone (d := d) hM hN) (fun h1 => ?_) (fun h1 => ?_)
  · refine WP.run (pc' := 9) (L' := [.ref 271, .int x]) (st' := [.int (-1000002)]) (I1 := I) 2 rfl ?_
    exact WP.ret rfl rfl (⟨by (unfold aDue; (repeat rw [nOf_nI (by omega)]); (repeat first | rw [if_pos (by first | assumption | omega | (refine inA_iff.mpr ?_; omega) | (intro q; have q2 := inA_iff.mp q; omega) | (intro q; omega) | (refine ⟨?_, ?_⟩ <;> rw [nI_int (by omega)] <;> omega) | (rw [nI_int (by omega)]; omega) | (intro q; rw [nI_int (by omega)] at q; omega) | (refine ⟨?_, ?_, ?_⟩ <;> omega) | (intro q; obtain ⟨q1, q2, q3⟩ := q; omega) | fail)] | rw [if_neg (by first | assumption | omega | (refine inA_iff.mpr ?_; omega) | (intro q; have q2 := inA_iff.mp q; omega) | (intro q; omega) | (refine ⟨?_, ?_⟩ <;> rw [nI_int (by omega)] <;> omega) | (rw [nI_int (by omega)]; omega) | (intro q; rw [nI_int (by omega)] at q; omega) | (refine ⟨?_, ?_, ?_⟩ <;> omega) | (intro q; obtain ⟨q1, q2, q3⟩ := q; omega) | fail)])) <;> rfl, rfl⟩)
  · refine WP.run (pc' := 16) (L' := [.ref 271, .int x]) (st' := [.long (99 : Int64), .long (0 : Int64), .long x.toInt64]) (I1 := I) 5 rfl ?_
    refine WP.callB (rest := []) rfl rfl (sp_inA (d := d) (x := x) (n := 100) (hi := (99 : Int64)) rfl) (fun h2 => ?_) (fun h2 => ?_)
    · refine WP.run (pc' := 22) (L' := [.ref 271, .int x]) (st' := []) (I1 := I) 1 rfl ?_
      have hx_j : inA x 100 := (by assumption)
      obtain ⟨j, hj, rfl⟩ := inA_of hx_j (by omega)
      refine WP.run (pc' := 28) (L' := [.ref 271, .int (nI j)]) (st' := [.int (nI 4), .ref 272, .ref 271]) (I1 := I) 4 rfl ?_
      refine WP.iald rfl rfl rfl (by omega) (by decide) ?_
      refine WP.cg (st' := [.int (nI (N 4)), .ref 271]) rfl (congrArg (fun z : Int32 => (.int z :: [.ref 271] : List Value)) (hM 4 (by omega))) rfl ?_
      refine WP.run (pc' := 31) (L' := [.ref 271, .int (nI j)]) (st' := [.int ((nI (N 4)) + (nI j)), .ref 271]) (I1 := I) 2 rfl ?_
      refine WP.cg (st' := [.int (nI ((N 4) + j)), .ref 271]) rfl (congrArg (fun z : Int32 => (.int z :: [.ref 271] : List Value)) (nI_add (N 4) j)) rfl ?_
      refine WP.callV (rest := []) rfl rfl (ms_dueOn (d := d) (n := (N 4) + j) hM hN (by omega)) ?_
      refine WP.run (pc' := 39) (L' := [.ref 271, .int (nI j)]) (st' := [.int (nI (dueN N ((N 4) + j)))]) (I1 := I) 1 rfl ?_
      exact WP.ret rfl rfl (⟨by (unfold aDue; (repeat rw [nOf_nI (by omega)]); (repeat first | rw [if_pos (by first | assumption | omega | (refine inA_iff.mpr ?_; omega) | (intro q; have q2 := inA_iff.mp q; omega) | (intro q; omega) | (refine ⟨?_, ?_⟩ <;> rw [nI_int (by omega)] <;> omega) | (rw [nI_int (by omega)]; omega) | (intro q; rw [nI_int (by omega)] at q; omega) | (refine ⟨?_, ?_, ?_⟩ <;> omega) | (intro q; obtain ⟨q1, q2, q3⟩ := q; omega) | fail)] | rw [if_neg (by first | assumption | omega | (refine inA_iff.mpr ?_; omega) | (intro q; have q2 := inA_iff.mp q; omega) | (intro q; omega) | (refine ⟨?_, ?_⟩ <;> rw [nI_int (by omega)] <;> omega) | (rw [nI_int (by omega)]; omega) | (intro q; rw [nI_int (by omega)] at q; omega) | (refine ⟨?_, ?_, ?_⟩ <;> omega) | (intro q; obtain ⟨q1, q2, q3⟩ := q; omega) | fail)])) <;> rfl, rfl⟩)
    · refine WP.run (pc' := 39) (L' := [.ref 271, .int x]) (st' := [.int (-1000001)]) (I1 := I) 2 rfl ?_
      exact WP.ret rfl rfl (⟨by (unfold aDue; (repeat rw [nOf_nI (by omega)]); (repeat first | rw [if_pos (by first | assumption | omega | (refine inA_iff.mpr ?_; omega) | (intro q; have q2 := inA_iff.mp q; omega) | (intro q; omega) | (refine ⟨?_, ?_⟩ <;> rw [nI_int (by omega)] <;> omega) | (rw [nI_int (by omega)]; omega) | (intro q; rw [nI_int (by omega)] at q; omega) | (refine ⟨?_, ?_, ?_⟩ <;> omega) | (intro q; obtain ⟨q1, q2, q3⟩ := q; omega) | fail)] | rw [if_neg (by first | assumption | omega | (refine inA_iff.mpr ?_; omega) | (intro q; have q2 := inA_iff.mp q; omega) | (intro q; omega) | (refine ⟨?_, ?_⟩ <;> rw [nI_int (by omega)] <;> omega) | (rw [nI_int (by omega)]; omega) | (intro q; rw [nI_int (by omega)] at q; omega) | (refine ⟨?_, ?_, ?_⟩ <;> omega) | (intro q; obtain ⟨q1, q2, q3⟩ := q; omega) | fail)])) <;> rfl, rfl⟩)
set_option maxRecDepth 100000 in
theorem ms_borne {d : Nat} {I : Pl} {N : Nat → Nat} {x w : Int32} (hM : T0 I N) (hN : TI N)  : Ev (d + 4) 171 [.ref 271, .int x, .int w] (mem I) (some (.int (aBorne N x w))) (mem I) := by
  obtain ⟨b0, b1, b2, b3, b4, b5, b6, b7, b8, bS, bC, bS1, bC1, bZ, bG⟩ := id hN
  obtain ⟨s6, s7, s64⟩ := hN.set64
  refine Ev.only (EvX.enter rfl rfl rfl ?_)
  refine WP.run (pc' := 2) (L' := [.ref 271, .int x, .int w]) (st' := [.int x, .ref 271]) (I1 := I) 2 rfl ?_
  refine WP.callB (rest := []) rfl rfl (ms_isClimber (d := d + 1) (x := x) hM hN) (fun h1 => ?_) (fun h1 => ?_)
  · refine WP.run (pc' := 10) (L' := [.ref 271, .int x, .int w]) (st' := [.int w, .ref 271]) (I1 := I) 3 rfl ?_
    refine WP.callB (rest := []) rfl rfl (ms_isSet (d := d + 1) (x := w) hM hN) (fun h2 => ?_) (fun h2 => ?_)
    · refine WP.run (pc' := 19) (L' := [.ref 271, .int x, .int w]) (st' := []) (I1 := I) 1 rfl ?_
      have hx_j : inA x (N 3) := (by assumption)
      obtain ⟨j, hj, rfl⟩ := inA_of hx_j (by omega)
      obtain ⟨bw, be, bo⟩ := bC j (by omega)
      have hx_m : inA w (2 ^ N 2) := (by assumption)
      obtain ⟨m, hm, rfl⟩ := inA_of hx_m (by omega)
      have hand := Nat.and_le_left (n := m) (m := N 7)
      refine WP.run (pc' := 26) (L' := [.ref 271, .int (nI j), .int (nI m)]) (st' := [.int (nI 7), .ref 272, .int (nI m)]) (I1 := I) 4 rfl ?_
      refine WP.iald rfl rfl rfl (by omega) (by decide) ?_
      refine WP.cg (st' := [.int (nI (N 7)), .int (nI m)]) rfl (congrArg (fun z : Int32 => (.int z :: [.int (nI m)] : List Value)) (hM 7 (by omega))) rfl ?_
      refine WP.run (pc' := 28) (L' := [.ref 271, .int (nI j), .int (nI m)]) (st' := [.int ((nI m) &&& (nI (N 7)))]) (I1 := I) 1 rfl ?_
      refine WP.cg (st' := [.int (nI (m &&& (N 7)))]) rfl (congrArg (fun z : Int32 => (.int z :: [] : List Value)) (nI_and m (N 7))) rfl ?_
      refine WP.run (pc' := if (nI (m &&& (N 7))) = 0 then 34 else 31) (L' := [.ref 271, .int (nI j), .int (nI m)]) (st' := []) (I1 := I) 1 rfl ?_
      refine WP.br (fun h3 => ?_) (fun h3 => ?_)
      · have h3 : m &&& (N 7) = 0 := nI_eq_ (by omega) (by omega) h3
        refine WP.run (pc' := 43) (L' := [.ref 271, .int (nI j), .int (nI m)]) (st' := [.int ((nI 27) + (nI j)), .ref 272, .ref 271]) (I1 := I) 6 rfl ?_
        refine WP.cg (st' := [.int (nI (27 + j)), .ref 272, .ref 271]) rfl (congrArg (fun z : Int32 => (.int z :: [.ref 272, .ref 271] : List Value)) (nI_add 27 j)) rfl ?_
        refine WP.iald rfl rfl rfl (by omega) (by decide) ?_
        refine WP.cg (st' := [.int (nI (N (27 + j))), .ref 271]) rfl (congrArg (fun z : Int32 => (.int z :: [.ref 271] : List Value)) (hM (27 + j) (by omega))) rfl ?_
        refine WP.run (pc' := 45) (L' := [.ref 271, .int (nI j), .int (nI m)]) (st' := [.int (nI m), .int (nI (N (27 + j))), .ref 271]) (I1 := I) 1 rfl ?_
        refine WP.callB (rest := []) rfl rfl (ms_isBorne (d := d) (w := N (27 + j)) (m := m) hM hN (by omega) (by omega)) (fun h4 => ?_) (fun h4 => ?_)
        · refine WP.run (pc' := 56) (L' := [.ref 271, .int (nI j), .int (nI m)]) (st' := [.int (nI 1)]) (I1 := I) 3 rfl ?_
          exact WP.ret rfl rfl (⟨by (unfold aBorne; (repeat rw [nOf_nI (by omega)]); (repeat first | rw [if_pos (by first | assumption | omega | (refine inA_iff.mpr ?_; omega) | (intro q; have q2 := inA_iff.mp q; omega) | (intro q; omega) | (refine ⟨?_, ?_⟩ <;> rw [nI_int (by omega)] <;> omega) | (rw [nI_int (by omega)]; omega) | (intro q; rw [nI_int (by omega)] at q; omega) | (refine ⟨?_, ?_, ?_⟩ <;> omega) | (intro q; obtain ⟨q1, q2, q3⟩ := q; omega) | fail)] | rw [if_neg (by first | assumption | omega | (refine inA_iff.mpr ?_; omega) | (intro q; have q2 := inA_iff.mp q; omega) | (intro q; omega) | (refine ⟨?_, ?_⟩ <;> rw [nI_int (by omega)] <;> omega) | (rw [nI_int (by omega)]; omega) | (intro q; rw [nI_int (by omega)] at q; omega) | (refine ⟨?_, ?_, ?_⟩ <;> omega) | (intro q; obtain ⟨q1, q2, q3⟩ := q; omega) | fail)])) <;> rfl, rfl⟩)
        · refine WP.run (pc' := 56) (L' := [.ref 271, .int (nI j), .int (nI m)]) (st' := [.int (nI 0)]) (I1 := I) 2 rfl ?_
          exact WP.ret rfl rfl (⟨by (unfold aBorne; (repeat rw [nOf_nI (by omega)]); (repeat first | rw [if_pos (by first | assumption | omega | (refine inA_iff.mpr ?_; omega) | (intro q; have q2 := inA_iff.mp q; omega) | (intro q; omega) | (refine ⟨?_, ?_⟩ <;> rw [nI_int (by omega)] <;> omega) | (rw [nI_int (by omega)]; omega) | (intro q; rw [nI_int (by omega)] at q; omega) | (refine ⟨?_, ?_, ?_⟩ <;> omega) | (intro q; obtain ⟨q1, q2, q3⟩ := q; omega) | fail)] | rw [if_neg (by first | assumption | omega | (refine inA_iff.mpr ?_; omega) | (intro q; have q2 := inA_iff.mp q; omega) | (intro q; omega) | (refine ⟨?_, ?_⟩ <;> rw [nI_int (by omega)] <;> omega) | (rw [nI_int (by omega)]; omega) | (intro q; rw [nI_int (by omega)] at q; omega) | (refine ⟨?_, ?_, ?_⟩ <;> omega) | (intro q; obtain ⟨q1, q2, q3⟩ := q; omega) | fail)])) <;> rfl, rfl⟩)
      · have h3 : ¬ m &&& (N 7) = 0 := fun q => h3 (nI_eq_r q)
        refine WP.run (pc' := 33) (L' := [.ref 271, .int (nI j), .int (nI m)]) (st' := [.int (-1000002)]) (I1 := I) 1 rfl ?_
        exact WP.ret rfl rfl (⟨by (unfold aBorne; (repeat rw [nOf_nI (by omega)]); (repeat first | rw [if_pos (by first | assumption | omega | (refine inA_iff.mpr ?_; omega) | (intro q; have q2 := inA_iff.mp q; omega) | (intro q; omega) | (refine ⟨?_, ?_⟩ <;> rw [nI_int (by omega)] <;> omega) | (rw [nI_int (by omega)]; omega) | (intro q; rw [nI_int (by omega)] at q; omega) | (refine ⟨?_, ?_, ?_⟩ <;> omega) | (intro q; obtain ⟨q1, q2, q3⟩ := q; omega) | fail)] | rw [if_neg (by first | assumption | omega | (refine inA_iff.mpr ?_; omega) | (intro q; have q2 := inA_iff.mp q; omega) | (intro q; omega) | (refine ⟨?_, ?_⟩ <;> rw [nI_int (by omega)] <;> omega) | (rw [nI_int (by omega)]; omega) | (intro q; rw [nI_int (by omega)] at q; omega) | (refine ⟨?_, ?_, ?_⟩ <;> omega) | (intro q; obtain ⟨q1, q2, q3⟩ := q; omega) | fail)])) <;> rfl, rfl⟩)
    · refine WP.run (pc' := 18) (L' := [.ref 271, .int x, .int w]) (st' := [.int (-1000001)]) (I1 := I) 2 rfl ?_
      exact WP.ret rfl rfl (⟨by (unfold aBorne; (repeat rw [nOf_nI (by omega)]); (repeat first | rw [if_pos (by first | assumption | omega | (refine inA_iff.mpr ?_; omega) | (intro q; have q2 := inA_iff.mp q; omega) | (intro q; omega) | (refine ⟨?_, ?_⟩ <;> rw [nI_int (by omega)] <;> omega) | (rw [nI_int (by omega)]; omega) | (intro q; rw [nI_int (by omega)] at q; omega) | (refine ⟨?_, ?_, ?_⟩ <;> omega) | (intro q; obtain ⟨q1, q2, q3⟩ := q; omega) | fail)] | rw [if_neg (by first | assumption | omega | (refine inA_iff.mpr ?_; omega) | (intro q; have q2 := inA_iff.mp q; omega) | (intro q; omega) | (refine ⟨?_, ?_⟩ <;> rw [nI_int (by omega)] <;> omega) | (rw [nI_int (by omega)]; omega) | (intro q; rw [nI_int (by omega)] at q; omega) | (refine ⟨?_, ?_, ?_⟩ <;> omega) | (intro q; obtain ⟨q1, q2, q3⟩ := q; omega) | fail)])) <;> rfl, rfl⟩)
  · refine WP.run (pc' := 18) (L' := [.ref 271, .int x, .int w]) (st' := [.int (-1000001)]) (I1 := I) 2 rfl ?_
    exact WP.ret rfl rfl (⟨by (unfold aBorne; (repeat rw [nOf_nI (by omega)]); (repeat first | rw [if_pos (by first | assumption | omega | (refine inA_iff.mpr ?_; omega) | (intro q; have q2 := inA_iff.mp q; omega) | (intro q; omega) | (refine ⟨?_, ?_⟩ <;> rw [nI_int (by omega)] <;> omega) | (rw [nI_int (by omega)]; omega) | (intro q; rw [nI_int (by omega)] at q; omega) | (refine ⟨?_, ?_, ?_⟩ <;> omega) | (intro q; obtain ⟨q1, q2, q3⟩ := q; omega) | fail)] | rw [if_neg (by first | assumption | omega | (refine inA_iff.mpr ?_; omega) | (intro q; have q2 := inA_iff.mp q; omega) | (intro q; omega) | (refine ⟨?_, ?_⟩ <;> rw [nI_int (by omega)] <;> omega) | (rw [nI_int (by omega)]; omega) | (intro q; rw [nI_int (by omega)] at q; omega) | (refine ⟨?_, ?_, ?_⟩ <;> omega) | (intro q; obtain ⟨q1, q2, q3⟩ := q; omega) | fail)])) <;> rfl, rfl⟩)
set_option maxRecDepth 100000 in
theorem ms_kind {d : Nat} {I : Pl} {N : Nat → Nat} {x : Int32} (hM : T0 I N) (hN : TI N)  : Ev (d + 3) 191 [.ref 271, .int x] (mem I) (some (.int (aKind N x))) (mem I) := by
  obtain ⟨b0, b1, b2, b3, b4, b5, b6, b7, b8, bS, bC, bS1, bC1, bZ, bG⟩ := id hN
  obtain ⟨s6, s7, s64⟩ := hN.set64
  refine Ev.only (EvX.enter rfl rfl rfl ?_)
  refine WP.run (pc' := 2) (L' := [.ref 271, .int x]) (st' := [.int x, .ref 271]) (I1 := I) 2 rfl ?_
  refine WP.callB (rest := []) rfl rfl (ms_isStrand (d := d) (x := x) hM hN) (fun h1 => ?_) (fun h1 => ?_)
  · refine WP.run (pc' := 8) (L' := [.ref 271, .int x]) (st' := []) (I1 := I) 1 rfl ?_
    have hx_j : inA x (N 2) := (by assumption)
    obtain ⟨j, hj, rfl⟩ := inA_of hx_j (by omega)
    refine WP.run (pc' := 16) (L' := [.ref 271, .int (nI j)]) (st' := [.int ((nI 9) + (nI j)), .ref 272]) (I1 := I) 5 rfl ?_
    refine WP.cg (st' := [.int (nI (9 + j)), .ref 272]) rfl (congrArg (fun z : Int32 => (.int z :: [.ref 272] : List Value)) (nI_add 9 j)) rfl ?_
    refine WP.iald rfl rfl rfl (by omega) (by decide) ?_
    refine WP.cg (st' := [.int (nI (N (9 + j)))]) rfl (congrArg (fun z : Int32 => (.int z :: [] : List Value)) (hM (9 + j) (by omega))) rfl ?_
    refine WP.run (pc' := 22) (L' := [.ref 271, .int (nI j)]) (st' := [.int (nI (N (9 + j)))]) (I1 := I) 1 rfl ?_
    exact WP.ret rfl rfl (⟨by (unfold aKind; (repeat rw [nOf_nI (by omega)]); (repeat first | rw [if_pos (by first | assumption | omega | (refine inA_iff.mpr ?_; omega) | (intro q; have q2 := inA_iff.mp q; omega) | (intro q; omega) | (refine ⟨?_, ?_⟩ <;> rw [nI_int (by omega)] <;> omega) | (rw [nI_int (by omega)]; omega) | (intro q; rw [nI_int (by omega)] at q; omega) | (refine ⟨?_, ?_, ?_⟩ <;> omega) | (intro q; obtain ⟨q1, q2, q3⟩ := q; omega) | fail)] | rw [if_neg (by first | assumption | omega | (refine inA_iff.mpr ?_; omega) | (intro q; have q2 := inA_iff.mp q; omega) | (intro q; omega) | (refine ⟨?_, ?_⟩ <;> rw [nI_int (by omega)] <;> omega) | (rw [nI_int (by omega)]; omega) | (intro q; rw [nI_int (by omega)] at q; omega) | (refine ⟨?_, ?_, ?_⟩ <;> omega) | (intro q; obtain ⟨q1, q2, q3⟩ := q; omega) | fail)])) <;> rfl, rfl⟩)
  · refine WP.run (pc' := 22) (L' := [.ref 271, .int x]) (st' := [.int (-1000001)]) (I1 := I) 2 rfl ?_
    exact WP.ret rfl rfl (⟨by (unfold aKind; (repeat rw [nOf_nI (by omega)]); (repeat first | rw [if_pos (by first | assumption | omega | (refine inA_iff.mpr ?_; omega) | (intro q; have q2 := inA_iff.mp q; omega) | (intro q; omega) | (refine ⟨?_, ?_⟩ <;> rw [nI_int (by omega)] <;> omega) | (rw [nI_int (by omega)]; omega) | (intro q; rw [nI_int (by omega)] at q; omega) | (refine ⟨?_, ?_, ?_⟩ <;> omega) | (intro q; obtain ⟨q1, q2, q3⟩ := q; omega) | fail)] | rw [if_neg (by first | assumption | omega | (refine inA_iff.mpr ?_; omega) | (intro q; have q2 := inA_iff.mp q; omega) | (intro q; omega) | (refine ⟨?_, ?_⟩ <;> rw [nI_int (by omega)] <;> omega) | (rw [nI_int (by omega)]; omega) | (intro q; rw [nI_int (by omega)] at q; omega) | (refine ⟨?_, ?_, ?_⟩ <;> omega) | (intro q; obtain ⟨q1, q2, q3⟩ := q; omega) | fail)])) <;> rfl, rfl⟩)
set_option maxRecDepth 100000 in
theorem lm_needed {d : Nat} {I : Pl} {j : Nat} {N : Nat → Nat} (hM : T0 I N) (hN : TI N) (hj : j < N 3) : ∀ k, k ≤ N 2 → WP (d + 3) (180, 7, (some .int), sc0) 49 [.ref 271, .int (nI j), .int (nI (N (27 + j))), .int (nI (neP N (N (27 + j)) k)), .int (nI k)] [] I (fun v J => v = some (.int (nI (neP N (N (27 + j)) (N 2)))) ∧ J = I) := by
  refine loopUp (fun k hk ih => ?_)
  obtain ⟨b0, b1, b2, b3, b4, b5, b6, b7, b8, bS, bC, bS1, bC1, bZ, bG⟩ := id hN
  obtain ⟨s6, s7, s64⟩ := hN.set64
  obtain ⟨bw, be, bo⟩ := bC j (by omega)
  have hnl := neP_lt N (N (27 + j)) k
  have hp2 : 2 ^ k ≤ 2 ^ 6 := Nat.pow_le_pow_right (by decide) (by omega)
  have hp3 : k < 6 → 2 ^ k ≤ 2 ^ 5 := fun q => Nat.pow_le_pow_right (by decide) (by omega)
  have hsd := sdf_le (N 6) (2 ^ k)
  refine WP.run (pc' := 56) (L' := [.ref 271, .int (nI j), .int (nI (N (27 + j))), .int (nI (neP N (N (27 + j)) k)), .int (nI k)]) (st' := [.int (nI 2), .ref 272, .int (nI k)]) (I1 := I) 4 rfl ?_
  refine WP.iald rfl rfl rfl (by omega) (by decide) ?_
  refine WP.cg (st' := [.int (nI (N 2)), .int (nI k)]) rfl (congrArg (fun z : Int32 => (.int z :: [.int (nI k)] : List Value)) (hM 2 (by omega))) rfl ?_
  refine WP.run (pc' := if (nI (N 2)) ≤ (nI k) then 114 else 60) (L' := [.ref 271, .int (nI j), .int (nI (N (27 + j))), .int (nI (neP N (N (27 + j)) k)), .int (nI k)]) (st' := []) (I1 := I) 1 rfl ?_
  refine WP.br (fun h1 => ?_) (fun h1 => ?_)
  · have h1 : N 2 ≤ k := nI_le_ (by omega) (by omega) h1
    refine WP.run (pc' := 115) (L' := [.ref 271, .int (nI j), .int (nI (N (27 + j))), .int (nI (neP N (N (27 + j)) k)), .int (nI k)]) (st' := [.int (nI (neP N (N (27 + j)) k))]) (I1 := I) 1 rfl ?_
    exact WP.ret rfl rfl (⟨by rw [show k = N 2 by omega], rfl⟩)
  · have h1 : ¬ N 2 ≤ k := fun q => h1 (nI_le_r (by omega) q)
    refine WP.run (pc' := 67) (L' := [.ref 271, .int (nI j), .int (nI (N (27 + j))), .int (nI (neP N (N (27 + j)) k)), .int (nI k)]) (st' := [.int (nI 6), .ref 272, .int (nI (neP N (N (27 + j)) k))]) (I1 := I) 4 rfl ?_
    refine WP.iald rfl rfl rfl (by omega) (by decide) ?_
    refine WP.cg (st' := [.int (nI (N 6)), .int (nI (neP N (N (27 + j)) k))]) rfl (congrArg (fun z : Int32 => (.int z :: [.int (nI (neP N (N (27 + j)) k))] : List Value)) (hM 6 (by omega))) rfl ?_
    refine WP.run (pc' := 70) (L' := [.ref 271, .int (nI j), .int (nI (N (27 + j))), .int (nI (neP N (N (27 + j)) k)), .int (nI k)]) (st' := [.int (nI k), .int (nI (N 6)), .int (nI (neP N (N (27 + j)) k))]) (I1 := I) 1 rfl ?_
    refine WP.callB (rest := [.int (nI (neP N (N (27 + j)) k))]) rfl rfl (ms_has (d := d + 2) (m := N 6) (k := k) (by omega) (by omega)) (fun h2 => ?_) (fun h2 => ?_)
    · refine WP.run (pc' := 84) (L' := [.ref 271, .int (nI j), .int (nI (N (27 + j))), .int (nI (neP N (N (27 + j)) k)), .int (nI k)]) (st' := [.int (nI 6), .ref 272, .int (nI (N (27 + j))), .ref 271, .int (nI (neP N (N (27 + j)) k))]) (I1 := I) 6 rfl ?_
      refine WP.iald rfl rfl rfl (by omega) (by decide) ?_
      refine WP.cg (st' := [.int (nI (N 6)), .int (nI (N (27 + j))), .ref 271, .int (nI (neP N (N (27 + j)) k))]) rfl (congrArg (fun z : Int32 => (.int z :: [.int (nI (N (27 + j))), .ref 271, .int (nI (neP N (N (27 + j)) k))] : List Value)) (hM 6 (by omega))) rfl ?_
      refine WP.run (pc' := 89) (L' := [.ref 271, .int (nI j), .int (nI (N (27 + j))), .int (nI (neP N (N (27 + j)) k)), .int (nI k)]) (st' := [.int ((nI 1) <<< ((nI k) &&& 31)), .int (nI (N 6)), .int (nI (N (27 + j))), .ref 271, .int (nI (neP N (N (27 + j)) k))]) (I1 := I) 3 rfl ?_
      refine WP.cg (st' := [.int (nI (2 ^ k)), .int (nI (N 6)), .int (nI (N (27 + j))), .ref 271, .int (nI (neP N (N (27 + j)) k))]) rfl (congrArg (fun z : Int32 => (.int z :: [.int (nI (N 6)), .int (nI (N (27 + j))), .ref 271, .int (nI (neP N (N (27 + j)) k))] : List Value)) (nI_shl1 k (by omega))) rfl ?_
      refine WP.run (pc' := 92) (L' := [.ref 271, .int (nI j), .int (nI (N (27 + j))), .int (nI (neP N (N (27 + j)) k)), .int (nI k)]) (st' := [.int ((nI (N 6)) &&& ((nI (2 ^ k)) ^^^ (-1))), .int (nI (N (27 + j))), .ref 271, .int (nI (neP N (N (27 + j)) k))]) (I1 := I) 3 rfl ?_
      refine WP.cg (st' := [.int (nI (sdf (N 6) (2 ^ k))), .int (nI (N (27 + j))), .ref 271, .int (nI (neP N (N (27 + j)) k))]) rfl (congrArg (fun z : Int32 => (.int z :: [.int (nI (N (27 + j))), .ref 271, .int (nI (neP N (N (27 + j)) k))] : List Value)) (nI_not _ _ (by omega) (by omega))) rfl ?_
      refine WP.callB (rest := [.int (nI (neP N (N (27 + j)) k))]) rfl rfl (ms_isBorne (d := d) (w := N (27 + j)) (m := sdf (N 6) (2 ^ k)) hM hN (by omega) (by omega)) (fun h3 => ?_) (fun h3 => ?_)
      · refine WP.run (pc' := 107) (L' := [.ref 271, .int (nI j), .int (nI (N (27 + j))), .int (nI (neP N (N (27 + j)) k)), .int (nI k)]) (st' := [.int ((nI (neP N (N (27 + j)) k)) ||| (nI 0))]) (I1 := I) 3 rfl ?_
        refine WP.cg (st' := [.int (nI ((neP N (N (27 + j)) k) ||| 0))]) rfl (congrArg (fun z : Int32 => (.int z :: [] : List Value)) (nI_or (neP N (N (27 + j)) k) 0)) rfl ?_
        refine WP.run (pc' := 111) (L' := [.ref 271, .int (nI j), .int (nI (N (27 + j))), .int (nI ((neP N (N (27 + j)) k) ||| 0)), .int ((nI k) + nI 1)]) (st' := []) (I1 := I) 2 rfl ?_
        refine WP.cg (L' := [.ref 271, .int (nI j), .int (nI (N (27 + j))), .int (nI ((neP N (N (27 + j)) k) ||| 0)), .int (nI (k + 1))]) (congrArg (fun z : Int32 => ([.ref 271, .int (nI j), .int (nI (N (27 + j))), .int (nI ((neP N (N (27 + j)) k) ||| 0)), .int z] : List Value)) (nI_add k 1)) rfl rfl ?_
        refine WP.run (pc' := 49) (L' := [.ref 271, .int (nI j), .int (nI (N (27 + j))), .int (nI ((neP N (N (27 + j)) k) ||| 0)), .int (nI (k + 1))]) (st' := []) (I1 := I) 1 rfl ?_
        refine WP.cg (L' := [.ref 271, .int (nI j), .int (nI (N (27 + j))), .int (nI (neP N (N (27 + j)) (k + 1))), .int (nI (k + 1))]) (congrArg (fun z : Nat => ([.ref 271, .int (nI j), .int (nI (N (27 + j))), .int (nI z), .int (nI (k + 1))] : List Value)) (by rw [Nat.or_zero]; show _ = neP N (N (27 + j)) k + _; first | (rw [if_neg (fun q => absurd q.1 (by assumption))]; rfl) | (rw [if_neg (fun q => absurd (by assumption) q.2)]; rfl))) rfl rfl (ih (by omega))
      · refine WP.run (pc' := 102) (L' := [.ref 271, .int (nI j), .int (nI (N (27 + j))), .int (nI (neP N (N (27 + j)) k)), .int (nI k)]) (st' := [.int ((nI 1) <<< ((nI k) &&& 31)), .int (nI (neP N (N (27 + j)) k))]) (I1 := I) 4 rfl ?_
        refine WP.cg (st' := [.int (nI (2 ^ k)), .int (nI (neP N (N (27 + j)) k))]) rfl (congrArg (fun z : Int32 => (.int z :: [.int (nI (neP N (N (27 + j)) k))] : List Value)) (nI_shl1 k (by omega))) rfl ?_
        refine WP.run (pc' := 107) (L' := [.ref 271, .int (nI j), .int (nI (N (27 + j))), .int (nI (neP N (N (27 + j)) k)), .int (nI k)]) (st' := [.int ((nI (neP N (N (27 + j)) k)) ||| (nI (2 ^ k)))]) (I1 := I) 2 rfl ?_
        refine WP.cg (st' := [.int (nI ((neP N (N (27 + j)) k) ||| (2 ^ k)))]) rfl (congrArg (fun z : Int32 => (.int z :: [] : List Value)) (nI_or (neP N (N (27 + j)) k) (2 ^ k))) rfl ?_
        refine WP.run (pc' := 111) (L' := [.ref 271, .int (nI j), .int (nI (N (27 + j))), .int (nI ((neP N (N (27 + j)) k) ||| (2 ^ k))), .int ((nI k) + nI 1)]) (st' := []) (I1 := I) 2 rfl ?_
        refine WP.cg (L' := [.ref 271, .int (nI j), .int (nI (N (27 + j))), .int (nI ((neP N (N (27 + j)) k) ||| (2 ^ k))), .int (nI (k + 1))]) (congrArg (fun z : Int32 => ([.ref 271, .int (nI j), .int (nI (N (27 + j))), .int (nI ((neP N (N (27 + j)) k) ||| (2 ^ k))), .int z] : List Value)) (nI_add k 1)) rfl rfl ?_
        refine WP.run (pc' := 49) (L' := [.ref 271, .int (nI j), .int (nI (N (27 + j))), .int (nI ((neP N (N (27 + j)) k) ||| (2 ^ k))), .int (nI (k + 1))]) (st' := []) (I1 := I) 1 rfl ?_
        refine WP.cg (L' := [.ref 271, .int (nI j), .int (nI (N (27 + j))), .int (nI (neP N (N (27 + j)) (k + 1))), .int (nI (k + 1))]) (congrArg (fun z : Nat => ([.ref 271, .int (nI j), .int (nI (N (27 + j))), .int (nI z), .int (nI (k + 1))] : List Value)) (by have := neP_lt N (N (27 + j)) k; show _ = neP N (N (27 + j)) k + _; rw [if_pos ⟨by assumption, by assumption⟩, or_pow this])) rfl rfl (ih (by omega))
    · refine WP.run (pc' := 107) (L' := [.ref 271, .int (nI j), .int (nI (N (27 + j))), .int (nI (neP N (N (27 + j)) k)), .int (nI k)]) (st' := [.int ((nI (neP N (N (27 + j)) k)) ||| (nI 0))]) (I1 := I) 3 rfl ?_
      refine WP.cg (st' := [.int (nI ((neP N (N (27 + j)) k) ||| 0))]) rfl (congrArg (fun z : Int32 => (.int z :: [] : List Value)) (nI_or (neP N (N (27 + j)) k) 0)) rfl ?_
      refine WP.run (pc' := 111) (L' := [.ref 271, .int (nI j), .int (nI (N (27 + j))), .int (nI ((neP N (N (27 + j)) k) ||| 0)), .int ((nI k) + nI 1)]) (st' := []) (I1 := I) 2 rfl ?_
      refine WP.cg (L' := [.ref 271, .int (nI j), .int (nI (N (27 + j))), .int (nI ((neP N (N (27 + j)) k) ||| 0)), .int (nI (k + 1))]) (congrArg (fun z : Int32 => ([.ref 271, .int (nI j), .int (nI (N (27 + j))), .int (nI ((neP N (N (27 + j)) k) ||| 0)), .int z] : List Value)) (nI_add k 1)) rfl rfl ?_
      refine WP.run (pc' := 49) (L' := [.ref 271, .int (nI j), .int (nI (N (27 + j))), .int (nI ((neP N (N (27 + j)) k) ||| 0)), .int (nI (k + 1))]) (st' := []) (I1 := I) 1 rfl ?_
      refine WP.cg (L' := [.ref 271, .int (nI j), .int (nI (N (27 + j))), .int (nI (neP N (N (27 + j)) (k + 1))), .int (nI (k + 1))]) (congrArg (fun z : Nat => ([.ref 271, .int (nI j), .int (nI (N (27 + j))), .int (nI z), .int (nI (k + 1))] : List Value)) (by rw [Nat.or_zero]; show _ = neP N (N (27 + j)) k + _; first | (rw [if_neg (fun q => absurd q.1 (by assumption))]; rfl) | (rw [if_neg (fun q => absurd (by assumption) q.2)]; rfl))) rfl rfl (ih (by omega))
set_option maxRecDepth 100000 in
theorem ms_needed {d : Nat} {I : Pl} {N : Nat → Nat} {x : Int32} (hM : T0 I N) (hN : TI N)  : Ev (d + 4) 180 [.ref 271, .int x] (mem I) (some (.int (aNeeded N x))) (mem I) := by
  obtain ⟨b0, b1, b2, b3, b4, b5, b6, b7, b8, bS, bC, bS1, bC1, bZ, bG⟩ := id hN
  obtain ⟨s6, s7, s64⟩ := hN.set64
  refine Ev.only (EvX.enter rfl rfl rfl ?_)
  refine WP.run (pc' := 2) (L' := [.ref 271, .int x, UU, UU, UU]) (st' := [.int x, .ref 271]) (I1 := I) 2 rfl ?_
  refine WP.callB (rest := []) rfl rfl (ms_isClimber (d := d + 1) (x := x) hM hN) (fun h1 => ?_) (fun h1 => ?_)
  · refine WP.run (pc' := 11) (L' := [.ref 271, .int x, UU, UU, UU]) (st' := []) (I1 := I) 1 rfl ?_
    have hx_j : inA x (N 3) := (by assumption)
    obtain ⟨j, hj, rfl⟩ := inA_of hx_j (by omega)
    obtain ⟨bw, be, bo⟩ := bC j (by omega)
    refine WP.run (pc' := 19) (L' := [.ref 271, .int (nI j), UU, UU, UU]) (st' := [.int ((nI 27) + (nI j)), .ref 272]) (I1 := I) 5 rfl ?_
    refine WP.cg (st' := [.int (nI (27 + j)), .ref 272]) rfl (congrArg (fun z : Int32 => (.int z :: [.ref 272] : List Value)) (nI_add 27 j)) rfl ?_
    refine WP.iald rfl rfl rfl (by omega) (by decide) ?_
    refine WP.cg (st' := [.int (nI (N (27 + j)))]) rfl (congrArg (fun z : Int32 => (.int z :: [] : List Value)) (hM (27 + j) (by omega))) rfl ?_
    refine WP.run (pc' := 29) (L' := [.ref 271, .int (nI j), .int (nI (N (27 + j))), UU, UU]) (st' := [.int (nI 6), .ref 272, .int (nI (N (27 + j))), .ref 271]) (I1 := I) 6 rfl ?_
    refine WP.iald rfl rfl rfl (by omega) (by decide) ?_
    refine WP.cg (st' := [.int (nI (N 6)), .int (nI (N (27 + j))), .ref 271]) rfl (congrArg (fun z : Int32 => (.int z :: [.int (nI (N (27 + j))), .ref 271] : List Value)) (hM 6 (by omega))) rfl ?_
    refine WP.callB (rest := []) rfl rfl (ms_isBorne (d := d) (w := N (27 + j)) (m := N 6) hM hN (by omega) (by omega)) (fun h2 => ?_) (fun h2 => ?_)
    · refine WP.run (pc' := 49) (L' := [.ref 271, .int (nI j), .int (nI (N (27 + j))), .int (nI 0), .int (nI 0)]) (st' := []) (I1 := I) 5 rfl ?_
      unfold aNeeded
      rw [nOf_nI (by omega), if_pos (by assumption), if_pos (by assumption)]
      exact lm_needed hM hN hj 0 (Nat.zero_le _)
    · refine WP.run (pc' := 42) (L' := [.ref 271, .int (nI j), .int (nI (N (27 + j))), UU, UU]) (st' := [.int (nI 6), .ref 272]) (I1 := I) 4 rfl ?_
      refine WP.iald rfl rfl rfl (by omega) (by decide) ?_
      refine WP.cg (st' := [.int (nI (N 6))]) rfl (congrArg (fun z : Int32 => (.int z :: [] : List Value)) (hM 6 (by omega))) rfl ?_
      exact WP.ret rfl rfl (⟨by (unfold aNeeded; (repeat rw [nOf_nI (by omega)]); (repeat first | rw [if_pos (by first | assumption | omega | (refine inA_iff.mpr ?_; omega) | (intro q; have q2 := inA_iff.mp q; omega) | (intro q; omega) | (refine ⟨?_, ?_⟩ <;> rw [nI_int (by omega)] <;> omega) | (rw [nI_int (by omega)]; omega) | (intro q; rw [nI_int (by omega)] at q; omega) | (refine ⟨?_, ?_, ?_⟩ <;> omega) | (intro q; obtain ⟨q1, q2, q3⟩ := q; omega) | fail)] | rw [if_neg (by first | assumption | omega | (refine inA_iff.mpr ?_; omega) | (intro q; have q2 := inA_iff.mp q; omega) | (intro q; omega) | (refine ⟨?_, ?_⟩ <;> rw [nI_int (by omega)] <;> omega) | (rw [nI_int (by omega)]; omega) | (intro q; rw [nI_int (by omega)] at q; omega) | (refine ⟨?_, ?_, ?_⟩ <;> omega) | (intro q; obtain ⟨q1, q2, q3⟩ := q; omega) | fail)])) <;> rfl, rfl⟩)
  · refine WP.run (pc' := 10) (L' := [.ref 271, .int x, UU, UU, UU]) (st' := [.int (-1000001)]) (I1 := I) 2 rfl ?_
    exact WP.ret rfl rfl (⟨by (unfold aNeeded; (repeat rw [nOf_nI (by omega)]); (repeat first | rw [if_pos (by first | assumption | omega | (refine inA_iff.mpr ?_; omega) | (intro q; have q2 := inA_iff.mp q; omega) | (intro q; omega) | (refine ⟨?_, ?_⟩ <;> rw [nI_int (by omega)] <;> omega) | (rw [nI_int (by omega)]; omega) | (intro q; rw [nI_int (by omega)] at q; omega) | (refine ⟨?_, ?_, ?_⟩ <;> omega) | (intro q; obtain ⟨q1, q2, q3⟩ := q; omega) | fail)] | rw [if_neg (by first | assumption | omega | (refine inA_iff.mpr ?_; omega) | (intro q; have q2 := inA_iff.mp q; omega) | (intro q; omega) | (refine ⟨?_, ?_⟩ <;> rw [nI_int (by omega)] <;> omega) | (rw [nI_int (by omega)]; omega) | (intro q; rw [nI_int (by omega)] at q; omega) | (refine ⟨?_, ?_, ?_⟩ <;> omega) | (intro q; obtain ⟨q1, q2, q3⟩ := q; omega) | fail)])) <;> rfl, rfl⟩)
set_option maxRecDepth 100000 in
theorem lm_comes {d : Nat} {I : Pl} {j n : Nat} {N : Nat → Nat} (hM : T0 I N) (hN : TI N) (hj : j < N 3) (hn : n < 100) (h1n : 1 ≤ n) : ∀ k, k ≤ fmN (N (37 + j)) (N 4) (N (32 + j)) → WP (d + 2) (184, 7, (some .int), sc0) 30 [.ref 271, .int (nI j), .int (nI n), .int (nI (N 4 + k))] [] I (fun v J => v = some (.int (nI (N 4 + fmN (N (37 + j)) (N 4) (N (32 + j)) + (n - 1) * N (32 + j)))) ∧ J = I) := by
  refine loopUp (fun k hk ih => ?_)
  obtain ⟨b0, b1, b2, b3, b4, b5, b6, b7, b8, bS, bC, bS1, bC1, bZ, bG⟩ := id hN
  obtain ⟨s6, s7, s64⟩ := hN.set64
  obtain ⟨bw, be, bo⟩ := bC j (by omega)
  obtain ⟨c1, c2, c3⟩ := bC1 j hj
  have hfl := fm_lt_e (a := N (37 + j)) (b := N 4) (e := N (32 + j)) (by omega)
  refine WP.run (pc' := 39) (L' := [.ref 271, .int (nI j), .int (nI n), .int (nI (N 4 + k))]) (st' := [.int ((nI 32) + (nI j)), .ref 272, .int (nI (N 4 + k))]) (I1 := I) 6 rfl ?_
  refine WP.cg (st' := [.int (nI (32 + j)), .ref 272, .int (nI (N 4 + k))]) rfl (congrArg (fun z : Int32 => (.int z :: [.ref 272, .int (nI (N 4 + k))] : List Value)) (nI_add 32 j)) rfl ?_
  refine WP.iald rfl rfl rfl (by omega) (by decide) ?_
  refine WP.cg (st' := [.int (nI (N (32 + j))), .int (nI (N 4 + k))]) rfl (congrArg (fun z : Int32 => (.int z :: [.int (nI (N 4 + k))] : List Value)) (hM (32 + j) (by omega))) rfl ?_
  refine WP.irem (a := N 4 + k) (b := N (32 + j)) rfl (by omega) (by omega) (by omega) ?_
  have hdv1 : (N 4 + k) % (N (32 + j)) < (N (32 + j)) := Nat.mod_lt _ (by omega)
  refine WP.run (pc' := 49) (L' := [.ref 271, .int (nI j), .int (nI n), .int (nI (N 4 + k))]) (st' := [.int ((nI 37) + (nI j)), .ref 272, .int (nI ((N 4 + k) % (N (32 + j))))]) (I1 := I) 5 rfl ?_
  refine WP.cg (st' := [.int (nI (37 + j)), .ref 272, .int (nI ((N 4 + k) % (N (32 + j))))]) rfl (congrArg (fun z : Int32 => (.int z :: [.ref 272, .int (nI ((N 4 + k) % (N (32 + j))))] : List Value)) (nI_add 37 j)) rfl ?_
  refine WP.iald rfl rfl rfl (by omega) (by decide) ?_
  refine WP.cg (st' := [.int (nI (N (37 + j))), .int (nI ((N 4 + k) % (N (32 + j))))]) rfl (congrArg (fun z : Int32 => (.int z :: [.int (nI ((N 4 + k) % (N (32 + j))))] : List Value)) (hM (37 + j) (by omega))) rfl ?_
  refine WP.run (pc' := if (nI ((N 4 + k) % (N (32 + j)))) = (nI (N (37 + j))) then 59 else 53) (L' := [.ref 271, .int (nI j), .int (nI n), .int (nI (N 4 + k))]) (st' := []) (I1 := I) 1 rfl ?_
  refine WP.br (fun h2 => ?_) (fun h2 => ?_)
  · have h2 : (N 4 + k) % (N (32 + j)) = N (37 + j) := nI_eq_ (by omega) (by omega) h2
    refine WP.run (pc' := 63) (L' := [.ref 271, .int (nI j), .int (nI n), .int (nI (N 4 + k))]) (st' := [.int ((nI n) - (nI 1)), .int (nI (N 4 + k))]) (I1 := I) 4 rfl ?_
    refine WP.cg (st' := [.int (nI (n - 1)), .int (nI (N 4 + k))]) rfl (congrArg (fun z : Int32 => (.int z :: [.int (nI (N 4 + k))] : List Value)) (pk_sub (a := n) (b := 1) (by omega))) rfl ?_
    refine WP.run (pc' := 71) (L' := [.ref 271, .int (nI j), .int (nI n), .int (nI (N 4 + k))]) (st' := [.int ((nI 32) + (nI j)), .ref 272, .int (nI (n - 1)), .int (nI (N 4 + k))]) (I1 := I) 5 rfl ?_
    refine WP.cg (st' := [.int (nI (32 + j)), .ref 272, .int (nI (n - 1)), .int (nI (N 4 + k))]) rfl (congrArg (fun z : Int32 => (.int z :: [.ref 272, .int (nI (n - 1)), .int (nI (N 4 + k))] : List Value)) (nI_add 32 j)) rfl ?_
    refine WP.iald rfl rfl rfl (by omega) (by decide) ?_
    refine WP.cg (st' := [.int (nI (N (32 + j))), .int (nI (n - 1)), .int (nI (N 4 + k))]) rfl (congrArg (fun z : Int32 => (.int z :: [.int (nI (n - 1)), .int (nI (N 4 + k))] : List Value)) (hM (32 + j) (by omega))) rfl ?_
    refine WP.run (pc' := 73) (L' := [.ref 271, .int (nI j), .int (nI n), .int (nI (N 4 + k))]) (st' := [.int ((nI (n - 1)) * (nI (N (32 + j)))), .int (nI (N 4 + k))]) (I1 := I) 1 rfl ?_
    refine WP.cg (st' := [.int (nI ((n - 1) * (N (32 + j)))), .int (nI (N 4 + k))]) rfl (congrArg (fun z : Int32 => (.int z :: [.int (nI (N 4 + k))] : List Value)) (pk_mul (n - 1) (N (32 + j)))) rfl ?_
    refine WP.run (pc' := 74) (L' := [.ref 271, .int (nI j), .int (nI n), .int (nI (N 4 + k))]) (st' := [.int ((nI (N 4 + k)) + (nI ((n - 1) * (N (32 + j)))))]) (I1 := I) 1 rfl ?_
    refine WP.cg (st' := [.int (nI ((N 4 + k) + ((n - 1) * (N (32 + j)))))]) rfl (congrArg (fun z : Int32 => (.int z :: [] : List Value)) (nI_add (N 4 + k) ((n - 1) * (N (32 + j))))) rfl ?_
    exact WP.ret rfl rfl (⟨by rw [fm_uniq (e := N (32 + j)) (b := N 4) (t := k) (by omega) (by omega) (by assumption)], rfl⟩)
  · have h2 : ¬ (N 4 + k) % (N (32 + j)) = N (37 + j) := fun q => h2 (nI_eq_r q)
    refine WP.run (pc' := 56) (L' := [.ref 271, .int (nI j), .int (nI n), .int ((nI (N 4 + k)) + nI 1)]) (st' := []) (I1 := I) 1 rfl ?_
    refine WP.cg (L' := [.ref 271, .int (nI j), .int (nI n), .int (nI (N 4 + k + 1))]) (congrArg (fun z : Int32 => ([.ref 271, .int (nI j), .int (nI n), .int z] : List Value)) (nI_add (N 4 + k) 1)) rfl rfl ?_
    refine WP.run (pc' := 30) (L' := [.ref 271, .int (nI j), .int (nI n), .int (nI (N 4 + k + 1))]) (st' := []) (I1 := I) 1 rfl ?_
    have hnf : ¬ k = fmN (N (37 + j)) (N 4) (N (32 + j)) := fun q => by
      have h9 := fm_hit (a := N (37 + j)) (b := N 4) (e := N (32 + j)) (by omega) (by omega)
      rw [← q] at h9
      exact absurd h9 (by assumption)
    refine WP.cg (L' := [.ref 271, .int (nI j), .int (nI n), .int (nI (N 4 + (k + 1)))]) rfl rfl rfl (ih (by omega))
set_option maxRecDepth 100000 in
theorem ms_comes {d : Nat} {I : Pl} {N : Nat → Nat} {x n : Int32} (hM : T0 I N) (hN : TI N)  : Ev (d + 3) 184 [.ref 271, .int x, .int n] (mem I) (some (.int (aComes N x n))) (mem I) := by
  obtain ⟨b0, b1, b2, b3, b4, b5, b6, b7, b8, bS, bC, bS1, bC1, bZ, bG⟩ := id hN
  obtain ⟨s6, s7, s64⟩ := hN.set64
  refine Ev.only (EvX.enter rfl rfl rfl ?_)
  refine WP.run (pc' := 2) (L' := [.ref 271, .int x, .int n, UU]) (st' := [.int x, .ref 271]) (I1 := I) 2 rfl ?_
  refine WP.callB (rest := []) rfl rfl (ms_isClimber (d := d) (x := x) hM hN) (fun h1 => ?_) (fun h1 => ?_)
  · refine WP.run (pc' := 8) (L' := [.ref 271, .int x, .int n, UU]) (st' := []) (I1 := I) 1 rfl ?_
    have hx_j : inA x (N 3) := (by assumption)
    obtain ⟨j, hj, rfl⟩ := inA_of hx_j (by omega)
    refine WP.run (pc' := 14) (L' := [.ref 271, .int (nI j), .int n, UU]) (st' := [.long (20 : Int64), .long (1 : Int64), .long n.toInt64]) (I1 := I) 4 rfl ?_
    refine WP.callB (rest := []) rfl rfl (sp_inR (d := d + 1) (x := n) (lo := (1 : Int64)) (hi := (20 : Int64)) (a := 1) (b := 20) rfl rfl) (fun h2 => ?_) (fun h2 => ?_)
    · refine WP.run (pc' := 23) (L' := [.ref 271, .int (nI j), .int n, UU]) (st' := []) (I1 := I) 1 rfl ?_
      have hx_m : inA n 21 := (by refine inA_iff.mpr ?_; omega)
      obtain ⟨m, hm, rfl⟩ := inA_of hx_m (by omega)
      have hnn : inR (nI m) 1 20 := (by assumption)
      have hn1 := hnn.1
      rw [nI_int (by omega)] at hn1
      refine WP.run (pc' := 28) (L' := [.ref 271, .int (nI j), .int (nI m), UU]) (st' := [.int (nI 4), .ref 272]) (I1 := I) 3 rfl ?_
      refine WP.iald rfl rfl rfl (by omega) (by decide) ?_
      refine WP.cg (st' := [.int (nI (N 4))]) rfl (congrArg (fun z : Int32 => (.int z :: [] : List Value)) (hM 4 (by omega))) rfl ?_
      refine WP.run (pc' := 30) (L' := [.ref 271, .int (nI j), .int (nI m), .int (nI (N 4))]) (st' := []) (I1 := I) 1 rfl ?_
      unfold aComes
      rw [nOf_nI (by omega), nOf_nI (by omega), if_pos (by assumption), if_pos (by assumption)]
      exact lm_comes hM hN hj (by omega) (by omega) 0 (Nat.zero_le _)
    · refine WP.run (pc' := 22) (L' := [.ref 271, .int (nI j), .int n, UU]) (st' := [.int (-1000001)]) (I1 := I) 2 rfl ?_
      exact WP.ret rfl rfl (⟨by (unfold aComes; (repeat rw [nOf_nI (by omega)]); (repeat first | rw [if_pos (by first | assumption | omega | (refine inA_iff.mpr ?_; omega) | (intro q; have q2 := inA_iff.mp q; omega) | (intro q; omega) | (refine ⟨?_, ?_⟩ <;> rw [nI_int (by omega)] <;> omega) | (rw [nI_int (by omega)]; omega) | (intro q; rw [nI_int (by omega)] at q; omega) | (refine ⟨?_, ?_, ?_⟩ <;> omega) | (intro q; obtain ⟨q1, q2, q3⟩ := q; omega) | fail)] | rw [if_neg (by first | assumption | omega | (refine inA_iff.mpr ?_; omega) | (intro q; have q2 := inA_iff.mp q; omega) | (intro q; omega) | (refine ⟨?_, ?_⟩ <;> rw [nI_int (by omega)] <;> omega) | (rw [nI_int (by omega)]; omega) | (intro q; rw [nI_int (by omega)] at q; omega) | (refine ⟨?_, ?_, ?_⟩ <;> omega) | (intro q; obtain ⟨q1, q2, q3⟩ := q; omega) | fail)])) <;> rfl, rfl⟩)
  · refine WP.run (pc' := 22) (L' := [.ref 271, .int x, .int n, UU]) (st' := [.int (-1000001)]) (I1 := I) 2 rfl ?_
    exact WP.ret rfl rfl (⟨by (unfold aComes; (repeat rw [nOf_nI (by omega)]); (repeat first | rw [if_pos (by first | assumption | omega | (refine inA_iff.mpr ?_; omega) | (intro q; have q2 := inA_iff.mp q; omega) | (intro q; omega) | (refine ⟨?_, ?_⟩ <;> rw [nI_int (by omega)] <;> omega) | (rw [nI_int (by omega)]; omega) | (intro q; rw [nI_int (by omega)] at q; omega) | (refine ⟨?_, ?_, ?_⟩ <;> omega) | (intro q; obtain ⟨q1, q2, q3⟩ := q; omega) | fail)] | rw [if_neg (by first | assumption | omega | (refine inA_iff.mpr ?_; omega) | (intro q; have q2 := inA_iff.mp q; omega) | (intro q; omega) | (refine ⟨?_, ?_⟩ <;> rw [nI_int (by omega)] <;> omega) | (rw [nI_int (by omega)]; omega) | (intro q; rw [nI_int (by omega)] at q; omega) | (refine ⟨?_, ?_, ?_⟩ <;> omega) | (intro q; obtain ⟨q1, q2, q3⟩ := q; omega) | fail)])) <;> rfl, rfl⟩)
set_option maxRecDepth 100000 in
theorem lm_climbed {d : Nat} {I : Pl} {x : Nat} {N : Nat → Nat} (hM : T0 I N) (hN : TI N) (hx : x < 100) : ∀ k, k ≤ N 3 → WP (d + 3) (185, 7, (some .int), sc0) 29 [.ref 271, .int (nI x), .int (nI (whoP N (N 6) x k)), .int (nI k)] [] I (fun v J => v = some (.int (nI (whoN N (N 6) x))) ∧ J = I) := by
  refine loopUp (fun k hk ih => ?_)
  obtain ⟨b0, b1, b2, b3, b4, b5, b6, b7, b8, bS, bC, bS1, bC1, bZ, bG⟩ := id hN
  have hkc : k < N 3 → 1 ≤ N (27 + k) ∧ 1 ≤ N (32 + k) ∧ N (37 + k) < N (32 + k) := fun q => bC1 k q
  have hkb : k < 5 → N (27 + k) ≤ 99 ∧ N (32 + k) ≤ 9 ∧ N (37 + k) ≤ 8 := fun q => bC k q
  obtain ⟨s6, s7, s64⟩ := hN.set64
  have hlt := whoP_lt N (N 6) x k
  have hsl : k < 5 → shareN (pullN N (N (27 + k))) (N 6) ≤ 99 := fun q => Nat.le_trans shareN_le (pullN_le (hkb q).1)
  refine WP.run (pc' := 35) (L' := [.ref 271, .int (nI x), .int (nI (whoP N (N 6) x k)), .int (nI k)]) (st' := [.int (nI 3), .ref 272, .int (nI k)]) (I1 := I) 4 rfl ?_
  refine WP.iald rfl rfl rfl (by omega) (by decide) ?_
  refine WP.cg (st' := [.int (nI (N 3)), .int (nI k)]) rfl (congrArg (fun z : Int32 => (.int z :: [.int (nI k)] : List Value)) (hM 3 (by omega))) rfl ?_
  refine WP.run (pc' := if (nI (N 3)) ≤ (nI k) then 71 else 39) (L' := [.ref 271, .int (nI x), .int (nI (whoP N (N 6) x k)), .int (nI k)]) (st' := []) (I1 := I) 1 rfl ?_
  refine WP.br (fun h1 => ?_) (fun h1 => ?_)
  · have h1 : N 3 ≤ k := nI_le_ (by omega) (by omega) h1
    refine WP.run (pc' := 72) (L' := [.ref 271, .int (nI x), .int (nI (whoP N (N 6) x k)), .int (nI k)]) (st' := [.int (nI (whoP N (N 6) x k))]) (I1 := I) 1 rfl ?_
    exact WP.ret rfl rfl (⟨by rw [show k = N 3 by omega]; rfl, rfl⟩)
  · have h1 : ¬ N 3 ≤ k := fun q => h1 (nI_le_r (by omega) q)
    refine WP.run (pc' := 48) (L' := [.ref 271, .int (nI x), .int (nI (whoP N (N 6) x k)), .int (nI k)]) (st' := [.int (nI 6), .ref 272, .int (nI k), .ref 271, .int (nI (whoP N (N 6) x k))]) (I1 := I) 6 rfl ?_
    refine WP.iald rfl rfl rfl (by omega) (by decide) ?_
    refine WP.cg (st' := [.int (nI (N 6)), .int (nI k), .ref 271, .int (nI (whoP N (N 6) x k))]) rfl (congrArg (fun z : Int32 => (.int z :: [.int (nI k), .ref 271, .int (nI (whoP N (N 6) x k))] : List Value)) (hM 6 (by omega))) rfl ?_
    refine WP.callV (rest := [.int (nI (whoP N (N 6) x k))]) rfl rfl (ms_strainOf (d := d) (c := k) (m := N 6) hM hN (by omega) (by omega)) ?_
    refine WP.run (pc' := if ¬ (nI (shareN (pullN N (N (27 + k))) (N 6))) = (nI x) then 62 else 56) (L' := [.ref 271, .int (nI x), .int (nI (whoP N (N 6) x k)), .int (nI k)]) (st' := [.int (nI (whoP N (N 6) x k))]) (I1 := I) 2 rfl ?_
    refine WP.br (fun h2 => ?_) (fun h2 => ?_)
    · have h2 : ¬ shareN (pullN N (N (27 + k))) (N 6) = x := fun q => h2 (nI_eq_r q)
      refine WP.run (pc' := 64) (L' := [.ref 271, .int (nI x), .int (nI (whoP N (N 6) x k)), .int (nI k)]) (st' := [.int ((nI (whoP N (N 6) x k)) ||| (nI 0))]) (I1 := I) 2 rfl ?_
      refine WP.cg (st' := [.int (nI ((whoP N (N 6) x k) ||| 0))]) rfl (congrArg (fun z : Int32 => (.int z :: [] : List Value)) (nI_or (whoP N (N 6) x k) 0)) rfl ?_
      refine WP.run (pc' := 68) (L' := [.ref 271, .int (nI x), .int (nI ((whoP N (N 6) x k) ||| 0)), .int ((nI k) + nI 1)]) (st' := []) (I1 := I) 2 rfl ?_
      refine WP.cg (L' := [.ref 271, .int (nI x), .int (nI ((whoP N (N 6) x k) ||| 0)), .int (nI (k + 1))]) (congrArg (fun z : Int32 => ([.ref 271, .int (nI x), .int (nI ((whoP N (N 6) x k) ||| 0)), .int z] : List Value)) (nI_add k 1)) rfl rfl ?_
      refine WP.run (pc' := 29) (L' := [.ref 271, .int (nI x), .int (nI ((whoP N (N 6) x k) ||| 0)), .int (nI (k + 1))]) (st' := []) (I1 := I) 1 rfl ?_
      refine WP.cg (L' := [.ref 271, .int (nI x), .int (nI (whoP N (N 6) x (k + 1))), .int (nI (k + 1))]) (congrArg (fun z : Nat => ([.ref 271, .int (nI x), .int (nI z), .int (nI (k + 1))] : List Value)) (by show _ = whoP N (N 6) x k + _; rw [Nat.or_zero, if_neg (by assumption)]; rfl)) rfl rfl (ih (by omega))
    · have h2 : shareN (pullN N (N (27 + k))) (N 6) = x := nI_eq_ (by omega) (by omega) (Decidable.byContradiction h2)
      refine WP.run (pc' := 59) (L' := [.ref 271, .int (nI x), .int (nI (whoP N (N 6) x k)), .int (nI k)]) (st' := [.int ((nI 1) <<< ((nI k) &&& 31)), .int (nI (whoP N (N 6) x k))]) (I1 := I) 3 rfl ?_
      refine WP.cg (st' := [.int (nI (2 ^ k)), .int (nI (whoP N (N 6) x k))]) rfl (congrArg (fun z : Int32 => (.int z :: [.int (nI (whoP N (N 6) x k))] : List Value)) (nI_shl1 k (by omega))) rfl ?_
      refine WP.run (pc' := 64) (L' := [.ref 271, .int (nI x), .int (nI (whoP N (N 6) x k)), .int (nI k)]) (st' := [.int ((nI (whoP N (N 6) x k)) ||| (nI (2 ^ k)))]) (I1 := I) 2 rfl ?_
      refine WP.cg (st' := [.int (nI ((whoP N (N 6) x k) ||| (2 ^ k)))]) rfl (congrArg (fun z : Int32 => (.int z :: [] : List Value)) (nI_or (whoP N (N 6) x k) (2 ^ k))) rfl ?_
      refine WP.run (pc' := 68) (L' := [.ref 271, .int (nI x), .int (nI ((whoP N (N 6) x k) ||| (2 ^ k))), .int ((nI k) + nI 1)]) (st' := []) (I1 := I) 2 rfl ?_
      refine WP.cg (L' := [.ref 271, .int (nI x), .int (nI ((whoP N (N 6) x k) ||| (2 ^ k))), .int (nI (k + 1))]) (congrArg (fun z : Int32 => ([.ref 271, .int (nI x), .int (nI ((whoP N (N 6) x k) ||| (2 ^ k))), .int z] : List Value)) (nI_add k 1)) rfl rfl ?_
      refine WP.run (pc' := 29) (L' := [.ref 271, .int (nI x), .int (nI ((whoP N (N 6) x k) ||| (2 ^ k))), .int (nI (k + 1))]) (st' := []) (I1 := I) 1 rfl ?_
      refine WP.cg (L' := [.ref 271, .int (nI x), .int (nI (whoP N (N 6) x (k + 1))), .int (nI (k + 1))]) (congrArg (fun z : Nat => ([.ref 271, .int (nI x), .int (nI z), .int (nI (k + 1))] : List Value)) (by have := whoP_lt N (N 6) x k; show _ = whoP N (N 6) x k + _; rw [if_pos (by assumption), or_pow this])) rfl rfl (ih (by omega))
set_option maxRecDepth 100000 in
theorem ms_climbed {d : Nat} {I : Pl} {N : Nat → Nat} {x : Int32} (hM : T0 I N) (hN : TI N)  : Ev (d + 4) 185 [.ref 271, .int x] (mem I) (some (.int (aClimbed N x))) (mem I) := by
  obtain ⟨b0, b1, b2, b3, b4, b5, b6, b7, b8, bS, bC, bS1, bC1, bZ, bG⟩ := id hN
  obtain ⟨s6, s7, s64⟩ := hN.set64
  refine Ev.only (EvX.enter rfl rfl rfl ?_)
  refine WP.run (pc' := 1) (L' := [.ref 271, .int x, UU, UU]) (st' := [.ref 271]) (I1 := I) 1 rfl ?_
  refine WP.callB (rest := []) rfl rfl (ms_isNone (d := d + 2) hM hN) (fun h1 => ?_) (fun h1 => ?_)
  · refine WP.run (pc' := 9) (L' := [.ref 271, .int x, UU, UU]) (st' := [.int (-1000002)]) (I1 := I) 2 rfl ?_
    exact WP.ret rfl rfl (⟨by (unfold aClimbed; (repeat rw [nOf_nI (by omega)]); (repeat first | rw [if_pos (by first | assumption | omega | (refine inA_iff.mpr ?_; omega) | (intro q; have q2 := inA_iff.mp q; omega) | (intro q; omega) | (refine ⟨?_, ?_⟩ <;> rw [nI_int (by omega)] <;> omega) | (rw [nI_int (by omega)]; omega) | (intro q; rw [nI_int (by omega)] at q; omega) | (refine ⟨?_, ?_, ?_⟩ <;> omega) | (intro q; obtain ⟨q1, q2, q3⟩ := q; omega) | fail)] | rw [if_neg (by first | assumption | omega | (refine inA_iff.mpr ?_; omega) | (intro q; have q2 := inA_iff.mp q; omega) | (intro q; omega) | (refine ⟨?_, ?_⟩ <;> rw [nI_int (by omega)] <;> omega) | (rw [nI_int (by omega)]; omega) | (intro q; rw [nI_int (by omega)] at q; omega) | (refine ⟨?_, ?_, ?_⟩ <;> omega) | (intro q; obtain ⟨q1, q2, q3⟩ := q; omega) | fail)])) <;> rfl, rfl⟩)
  · refine WP.run (pc' := 16) (L' := [.ref 271, .int x, UU, UU]) (st' := [.long (99 : Int64), .long (0 : Int64), .long x.toInt64]) (I1 := I) 5 rfl ?_
    refine WP.callB (rest := []) rfl rfl (sp_inA (d := d + 2) (x := x) (n := 100) (hi := (99 : Int64)) rfl) (fun h2 => ?_) (fun h2 => ?_)
    · refine WP.run (pc' := 25) (L' := [.ref 271, .int x, UU, UU]) (st' := []) (I1 := I) 1 rfl ?_
      have hx_j : inA x 100 := (by assumption)
      obtain ⟨j, hj, rfl⟩ := inA_of hx_j (by omega)
      refine WP.run (pc' := 29) (L' := [.ref 271, .int (nI j), .int (nI 0), .int (nI 0)]) (st' := []) (I1 := I) 4 rfl ?_
      unfold aClimbed
      rw [nOf_nI (by omega), if_neg (by assumption), if_pos (by assumption)]
      exact lm_climbed hM hN hj 0 (Nat.zero_le _)
    · refine WP.run (pc' := 24) (L' := [.ref 271, .int x, UU, UU]) (st' := [.int (-1000001)]) (I1 := I) 2 rfl ?_
      exact WP.ret rfl rfl (⟨by (unfold aClimbed; (repeat rw [nOf_nI (by omega)]); (repeat first | rw [if_pos (by first | assumption | omega | (refine inA_iff.mpr ?_; omega) | (intro q; have q2 := inA_iff.mp q; omega) | (intro q; omega) | (refine ⟨?_, ?_⟩ <;> rw [nI_int (by omega)] <;> omega) | (rw [nI_int (by omega)]; omega) | (intro q; rw [nI_int (by omega)] at q; omega) | (refine ⟨?_, ?_, ?_⟩ <;> omega) | (intro q; obtain ⟨q1, q2, q3⟩ := q; omega) | fail)] | rw [if_neg (by first | assumption | omega | (refine inA_iff.mpr ?_; omega) | (intro q; have q2 := inA_iff.mp q; omega) | (intro q; omega) | (refine ⟨?_, ?_⟩ <;> rw [nI_int (by omega)] <;> omega) | (rw [nI_int (by omega)]; omega) | (intro q; rw [nI_int (by omega)] at q; omega) | (refine ⟨?_, ?_, ?_⟩ <;> omega) | (intro q; obtain ⟨q1, q2, q3⟩ := q; omega) | fail)])) <;> rfl, rfl⟩)
set_option maxRecDepth 100000 in
theorem lm_rowsMany {d : Nat} {I : Pl}  : ∀ k, k ≤ 8 → WP d (204, 7, (some .int), sc0) 4 [.ref 271, .int (nI (hmM I k)), .int (nI k)] [] I (fun v J => v = some (.int (nI (hmM I 8))) ∧ J = I) := by
  refine loopUp (fun k hk ih => ?_)
  refine WP.run (pc' := if (nI 8) ≤ (nI k) then 33 else 10) (L' := [.ref 271, .int (nI (hmM I k)), .int (nI k)]) (st' := []) (I1 := I) 3 rfl ?_
  refine WP.br (fun h1 => ?_) (fun h1 => ?_)
  · have h1 : 8 ≤ k := nI_le_ (by omega) (by omega) h1
    refine WP.run (pc' := 34) (L' := [.ref 271, .int (nI (hmM I k)), .int (nI k)]) (st' := [.int (nI (hmM I k))]) (I1 := I) 1 rfl ?_
    exact WP.ret rfl rfl (⟨by rw [show k = 8 by omega], rfl⟩)
  · have h1 : ¬ 8 ≤ k := fun q => h1 (nI_le_r (by omega) q)
    refine WP.run (pc' := 16) (L' := [.ref 271, .int (nI (hmM I k)), .int (nI k)]) (st' := [.int (nI k), .ref 274, .int (nI (hmM I k))]) (I1 := I) 4 rfl ?_
    refine WP.iald rfl rfl rfl (by omega) (by decide) ?_
    refine WP.run (pc' := if 0 ≤ (I 274 k) then 24 else 20) (L' := [.ref 271, .int (nI (hmM I k)), .int (nI k)]) (st' := [.int (nI (hmM I k))]) (I1 := I) 1 rfl ?_
    refine WP.br (fun h2 => ?_) (fun h2 => ?_)
    · refine WP.run (pc' := 26) (L' := [.ref 271, .int (nI (hmM I k)), .int (nI k)]) (st' := [.int ((nI (hmM I k)) + (nI 1))]) (I1 := I) 2 rfl ?_
      refine WP.cg (st' := [.int (nI ((hmM I k) + 1))]) rfl (congrArg (fun z : Int32 => (.int z :: [] : List Value)) (nI_add (hmM I k) 1)) rfl ?_
      refine WP.run (pc' := 30) (L' := [.ref 271, .int (nI ((hmM I k) + 1)), .int ((nI k) + nI 1)]) (st' := []) (I1 := I) 2 rfl ?_
      refine WP.cg (L' := [.ref 271, .int (nI ((hmM I k) + 1)), .int (nI (k + 1))]) (congrArg (fun z : Int32 => ([.ref 271, .int (nI ((hmM I k) + 1)), .int z] : List Value)) (nI_add k 1)) rfl rfl ?_
      refine WP.run (pc' := 4) (L' := [.ref 271, .int (nI ((hmM I k) + 1)), .int (nI (k + 1))]) (st' := []) (I1 := I) 1 rfl ?_
      refine WP.cg (L' := [.ref 271, .int (nI (hmM I (k + 1))), .int (nI (k + 1))]) (by first | rw [show hmM I (k + 1) = _ from if_pos (by assumption)] | rw [show hmM I (k + 1) = _ from if_neg (by assumption)]) rfl rfl (ih (by omega))
    · refine WP.run (pc' := 26) (L' := [.ref 271, .int (nI (hmM I k)), .int (nI k)]) (st' := [.int ((nI (hmM I k)) + (nI 0))]) (I1 := I) 3 rfl ?_
      refine WP.cg (st' := [.int (nI ((hmM I k) + 0))]) rfl (congrArg (fun z : Int32 => (.int z :: [] : List Value)) (nI_add (hmM I k) 0)) rfl ?_
      refine WP.run (pc' := 30) (L' := [.ref 271, .int (nI ((hmM I k) + 0)), .int ((nI k) + nI 1)]) (st' := []) (I1 := I) 2 rfl ?_
      refine WP.cg (L' := [.ref 271, .int (nI ((hmM I k) + 0)), .int (nI (k + 1))]) (congrArg (fun z : Int32 => ([.ref 271, .int (nI ((hmM I k) + 0)), .int z] : List Value)) (nI_add k 1)) rfl rfl ?_
      refine WP.run (pc' := 4) (L' := [.ref 271, .int (nI ((hmM I k) + 0)), .int (nI (k + 1))]) (st' := []) (I1 := I) 1 rfl ?_
      refine WP.cg (L' := [.ref 271, .int (nI (hmM I (k + 1))), .int (nI (k + 1))]) (by first | rw [show hmM I (k + 1) = _ from if_pos (by assumption)] | rw [show hmM I (k + 1) = _ from if_neg (by assumption)]) rfl rfl (ih (by omega))
set_option maxRecDepth 100000 in
theorem ms_rowsMany {d : Nat} {I : Pl}  : Ev (d + 1) 204 [.ref 271] (mem I) (some (.int (nI (hmM I 8)))) (mem I) := by
  refine Ev.only (EvX.enter rfl rfl rfl ?_)
  refine WP.run (pc' := 4) (L' := [.ref 271, .int (nI 0), .int (nI 0)]) (st' := []) (I1 := I) 4 rfl ?_
  exact lm_rowsMany 0 (Nat.zero_le _)
set_option maxRecDepth 100000 in
theorem ms_count {d : Nat} {I : Pl} {N : Nat → Nat} {w : Int32} (hM : T0 I N) (hN : TI N) {m n : Nat} (hm : I 271 1 = nI m) (hn : I 271 9 = nI n) : Ev (d + 2) 205 [.ref 271, .int w] (mem I) (some (.int (aCount N (hmM I 8) m n w))) (mem I) := by
  obtain ⟨b0, b1, b2, b3, b4, b5, b6, b7, b8, bS, bC, bS1, bC1, bZ, bG⟩ := id hN
  obtain ⟨s6, s7, s64⟩ := hN.set64
  refine Ev.only (EvX.enter rfl rfl rfl ?_)
  refine WP.run (pc' := 1) (L' := [.ref 271, .int w]) (st' := [.int w]) (I1 := I) 1 rfl ?_
  by_cases hw : inA w 10
  · obtain ⟨w1, hw1, rfl⟩ := inA_of hw (by decide)
    have hsw : w1 = 0 ∨ w1 = 1 ∨ w1 = 2 ∨ w1 = 3 ∨ w1 = 4 ∨ w1 = 5 ∨ w1 = 6 ∨ w1 = 7 ∨ w1 = 8 ∨ w1 = 9 := by omega
    rcases hsw with rfl | rfl | rfl | rfl | rfl | rfl | rfl | rfl | rfl | rfl
    · refine WP.run (pc' := 56) (L' := [.ref 271, .int (nI 0)]) (st' := []) (I1 := I) 1 rfl ?_
      refine WP.run (pc' := 57) (L' := [.ref 271, .int (nI 0)]) (st' := [.ref 271]) (I1 := I) 1 rfl ?_
      refine WP.callV (rest := []) rfl rfl (ms_rowsMany (d := d)) ?_
      exact WP.ret rfl rfl (⟨by (unfold aCount qCount; (repeat rw [nOf_nI (by omega)]); (repeat first | rw [if_pos (by first | assumption | omega | (refine inA_iff.mpr ?_; omega) | (intro q; have q2 := inA_iff.mp q; omega) | (intro q; omega) | (refine ⟨?_, ?_⟩ <;> rw [nI_int (by omega)] <;> omega) | (rw [nI_int (by omega)]; omega) | (intro q; rw [nI_int (by omega)] at q; omega) | (refine ⟨?_, ?_, ?_⟩ <;> omega) | (intro q; obtain ⟨q1, q2, q3⟩ := q; omega) | fail)] | rw [if_neg (by first | assumption | omega | (refine inA_iff.mpr ?_; omega) | (intro q; have q2 := inA_iff.mp q; omega) | (intro q; omega) | (refine ⟨?_, ?_⟩ <;> rw [nI_int (by omega)] <;> omega) | (rw [nI_int (by omega)]; omega) | (intro q; rw [nI_int (by omega)] at q; omega) | (refine ⟨?_, ?_, ?_⟩ <;> omega) | (intro q; obtain ⟨q1, q2, q3⟩ := q; omega) | fail)])) <;> rfl, rfl⟩)
    · refine WP.run (pc' := 61) (L' := [.ref 271, .int (nI 1)]) (st' := []) (I1 := I) 1 rfl ?_
      refine WP.run (pc' := 66) (L' := [.ref 271, .int (nI 1)]) (st' := [.int (nI 2), .ref 272]) (I1 := I) 3 rfl ?_
      refine WP.iald rfl rfl rfl (by omega) (by decide) ?_
      refine WP.cg (st' := [.int (nI (N 2))]) rfl (congrArg (fun z : Int32 => (.int z :: [] : List Value)) (hM 2 (by omega))) rfl ?_
      exact WP.ret rfl rfl (⟨by (unfold aCount qCount; (repeat rw [nOf_nI (by omega)]); (repeat first | rw [if_pos (by first | assumption | omega | (refine inA_iff.mpr ?_; omega) | (intro q; have q2 := inA_iff.mp q; omega) | (intro q; omega) | (refine ⟨?_, ?_⟩ <;> rw [nI_int (by omega)] <;> omega) | (rw [nI_int (by omega)]; omega) | (intro q; rw [nI_int (by omega)] at q; omega) | (refine ⟨?_, ?_, ?_⟩ <;> omega) | (intro q; obtain ⟨q1, q2, q3⟩ := q; omega) | fail)] | rw [if_neg (by first | assumption | omega | (refine inA_iff.mpr ?_; omega) | (intro q; have q2 := inA_iff.mp q; omega) | (intro q; omega) | (refine ⟨?_, ?_⟩ <;> rw [nI_int (by omega)] <;> omega) | (rw [nI_int (by omega)]; omega) | (intro q; rw [nI_int (by omega)] at q; omega) | (refine ⟨?_, ?_, ?_⟩ <;> omega) | (intro q; obtain ⟨q1, q2, q3⟩ := q; omega) | fail)])) <;> rfl, rfl⟩)
    · refine WP.run (pc' := 68) (L' := [.ref 271, .int (nI 2)]) (st' := []) (I1 := I) 1 rfl ?_
      refine WP.run (pc' := 73) (L' := [.ref 271, .int (nI 2)]) (st' := [.int (nI 3), .ref 272]) (I1 := I) 3 rfl ?_
      refine WP.iald rfl rfl rfl (by omega) (by decide) ?_
      refine WP.cg (st' := [.int (nI (N 3))]) rfl (congrArg (fun z : Int32 => (.int z :: [] : List Value)) (hM 3 (by omega))) rfl ?_
      exact WP.ret rfl rfl (⟨by (unfold aCount qCount; (repeat rw [nOf_nI (by omega)]); (repeat first | rw [if_pos (by first | assumption | omega | (refine inA_iff.mpr ?_; omega) | (intro q; have q2 := inA_iff.mp q; omega) | (intro q; omega) | (refine ⟨?_, ?_⟩ <;> rw [nI_int (by omega)] <;> omega) | (rw [nI_int (by omega)]; omega) | (intro q; rw [nI_int (by omega)] at q; omega) | (refine ⟨?_, ?_, ?_⟩ <;> omega) | (intro q; obtain ⟨q1, q2, q3⟩ := q; omega) | fail)] | rw [if_neg (by first | assumption | omega | (refine inA_iff.mpr ?_; omega) | (intro q; have q2 := inA_iff.mp q; omega) | (intro q; omega) | (refine ⟨?_, ?_⟩ <;> rw [nI_int (by omega)] <;> omega) | (rw [nI_int (by omega)]; omega) | (intro q; rw [nI_int (by omega)] at q; omega) | (refine ⟨?_, ?_, ?_⟩ <;> omega) | (intro q; obtain ⟨q1, q2, q3⟩ := q; omega) | fail)])) <;> rfl, rfl⟩)
    · refine WP.run (pc' := 75) (L' := [.ref 271, .int (nI 3)]) (st' := []) (I1 := I) 1 rfl ?_
      refine WP.run (pc' := 80) (L' := [.ref 271, .int (nI 3)]) (st' := [.int (nI 4), .ref 272]) (I1 := I) 3 rfl ?_
      refine WP.iald rfl rfl rfl (by omega) (by decide) ?_
      refine WP.cg (st' := [.int (nI (N 4))]) rfl (congrArg (fun z : Int32 => (.int z :: [] : List Value)) (hM 4 (by omega))) rfl ?_
      exact WP.ret rfl rfl (⟨by (unfold aCount qCount; (repeat rw [nOf_nI (by omega)]); (repeat first | rw [if_pos (by first | assumption | omega | (refine inA_iff.mpr ?_; omega) | (intro q; have q2 := inA_iff.mp q; omega) | (intro q; omega) | (refine ⟨?_, ?_⟩ <;> rw [nI_int (by omega)] <;> omega) | (rw [nI_int (by omega)]; omega) | (intro q; rw [nI_int (by omega)] at q; omega) | (refine ⟨?_, ?_, ?_⟩ <;> omega) | (intro q; obtain ⟨q1, q2, q3⟩ := q; omega) | fail)] | rw [if_neg (by first | assumption | omega | (refine inA_iff.mpr ?_; omega) | (intro q; have q2 := inA_iff.mp q; omega) | (intro q; omega) | (refine ⟨?_, ?_⟩ <;> rw [nI_int (by omega)] <;> omega) | (rw [nI_int (by omega)]; omega) | (intro q; rw [nI_int (by omega)] at q; omega) | (refine ⟨?_, ?_, ?_⟩ <;> omega) | (intro q; obtain ⟨q1, q2, q3⟩ := q; omega) | fail)])) <;> rfl, rfl⟩)
    · refine WP.run (pc' := 82) (L' := [.ref 271, .int (nI 4)]) (st' := []) (I1 := I) 1 rfl ?_
      refine WP.run (pc' := 87) (L' := [.ref 271, .int (nI 4)]) (st' := [.int (nI 0), .ref 272]) (I1 := I) 3 rfl ?_
      refine WP.iald rfl rfl rfl (by omega) (by decide) ?_
      refine WP.cg (st' := [.int (nI (N 0))]) rfl (congrArg (fun z : Int32 => (.int z :: [] : List Value)) (hM 0 (by omega))) rfl ?_
      exact WP.ret rfl rfl (⟨by (unfold aCount qCount; (repeat rw [nOf_nI (by omega)]); (repeat first | rw [if_pos (by first | assumption | omega | (refine inA_iff.mpr ?_; omega) | (intro q; have q2 := inA_iff.mp q; omega) | (intro q; omega) | (refine ⟨?_, ?_⟩ <;> rw [nI_int (by omega)] <;> omega) | (rw [nI_int (by omega)]; omega) | (intro q; rw [nI_int (by omega)] at q; omega) | (refine ⟨?_, ?_, ?_⟩ <;> omega) | (intro q; obtain ⟨q1, q2, q3⟩ := q; omega) | fail)] | rw [if_neg (by first | assumption | omega | (refine inA_iff.mpr ?_; omega) | (intro q; have q2 := inA_iff.mp q; omega) | (intro q; omega) | (refine ⟨?_, ?_⟩ <;> rw [nI_int (by omega)] <;> omega) | (rw [nI_int (by omega)]; omega) | (intro q; rw [nI_int (by omega)] at q; omega) | (refine ⟨?_, ?_, ?_⟩ <;> omega) | (intro q; obtain ⟨q1, q2, q3⟩ := q; omega) | fail)])) <;> rfl, rfl⟩)
    · refine WP.run (pc' := 89) (L' := [.ref 271, .int (nI 5)]) (st' := []) (I1 := I) 1 rfl ?_
      refine WP.run (pc' := 94) (L' := [.ref 271, .int (nI 5)]) (st' := [.int (nI 1), .ref 272]) (I1 := I) 3 rfl ?_
      refine WP.iald rfl rfl rfl (by omega) (by decide) ?_
      refine WP.cg (st' := [.int (nI (N 1))]) rfl (congrArg (fun z : Int32 => (.int z :: [] : List Value)) (hM 1 (by omega))) rfl ?_
      exact WP.ret rfl rfl (⟨by (unfold aCount qCount; (repeat rw [nOf_nI (by omega)]); (repeat first | rw [if_pos (by first | assumption | omega | (refine inA_iff.mpr ?_; omega) | (intro q; have q2 := inA_iff.mp q; omega) | (intro q; omega) | (refine ⟨?_, ?_⟩ <;> rw [nI_int (by omega)] <;> omega) | (rw [nI_int (by omega)]; omega) | (intro q; rw [nI_int (by omega)] at q; omega) | (refine ⟨?_, ?_, ?_⟩ <;> omega) | (intro q; obtain ⟨q1, q2, q3⟩ := q; omega) | fail)] | rw [if_neg (by first | assumption | omega | (refine inA_iff.mpr ?_; omega) | (intro q; have q2 := inA_iff.mp q; omega) | (intro q; omega) | (refine ⟨?_, ?_⟩ <;> rw [nI_int (by omega)] <;> omega) | (rw [nI_int (by omega)]; omega) | (intro q; rw [nI_int (by omega)] at q; omega) | (refine ⟨?_, ?_, ?_⟩ <;> omega) | (intro q; obtain ⟨q1, q2, q3⟩ := q; omega) | fail)])) <;> rfl, rfl⟩)
    · refine WP.run (pc' := 96) (L' := [.ref 271, .int (nI 6)]) (st' := []) (I1 := I) 1 rfl ?_
      refine WP.run (pc' := 101) (L' := [.ref 271, .int (nI 6)]) (st' := [.int (nI 5), .ref 272]) (I1 := I) 3 rfl ?_
      refine WP.iald rfl rfl rfl (by omega) (by decide) ?_
      refine WP.cg (st' := [.int (nI (N 5))]) rfl (congrArg (fun z : Int32 => (.int z :: [] : List Value)) (hM 5 (by omega))) rfl ?_
      exact WP.ret rfl rfl (⟨by (unfold aCount qCount; (repeat rw [nOf_nI (by omega)]); (repeat first | rw [if_pos (by first | assumption | omega | (refine inA_iff.mpr ?_; omega) | (intro q; have q2 := inA_iff.mp q; omega) | (intro q; omega) | (refine ⟨?_, ?_⟩ <;> rw [nI_int (by omega)] <;> omega) | (rw [nI_int (by omega)]; omega) | (intro q; rw [nI_int (by omega)] at q; omega) | (refine ⟨?_, ?_, ?_⟩ <;> omega) | (intro q; obtain ⟨q1, q2, q3⟩ := q; omega) | fail)] | rw [if_neg (by first | assumption | omega | (refine inA_iff.mpr ?_; omega) | (intro q; have q2 := inA_iff.mp q; omega) | (intro q; omega) | (refine ⟨?_, ?_⟩ <;> rw [nI_int (by omega)] <;> omega) | (rw [nI_int (by omega)]; omega) | (intro q; rw [nI_int (by omega)] at q; omega) | (refine ⟨?_, ?_, ?_⟩ <;> omega) | (intro q; obtain ⟨q1, q2, q3⟩ := q; omega) | fail)])) <;> rfl, rfl⟩)
    · refine WP.run (pc' := 103) (L' := [.ref 271, .int (nI 7)]) (st' := []) (I1 := I) 1 rfl ?_
      refine WP.run (pc' := 109) (L' := [.ref 271, .int (nI 7)]) (st' := [.int (nI 6), .ref 272]) (I1 := I) 3 rfl ?_
      refine WP.iald rfl rfl rfl (by omega) (by decide) ?_
      refine WP.cg (st' := [.int (nI (N 6))]) rfl (congrArg (fun z : Int32 => (.int z :: [] : List Value)) (hM 6 (by omega))) rfl ?_
      exact WP.ret rfl rfl (⟨by (unfold aCount qCount; (repeat rw [nOf_nI (by omega)]); (repeat first | rw [if_pos (by first | assumption | omega | (refine inA_iff.mpr ?_; omega) | (intro q; have q2 := inA_iff.mp q; omega) | (intro q; omega) | (refine ⟨?_, ?_⟩ <;> rw [nI_int (by omega)] <;> omega) | (rw [nI_int (by omega)]; omega) | (intro q; rw [nI_int (by omega)] at q; omega) | (refine ⟨?_, ?_, ?_⟩ <;> omega) | (intro q; obtain ⟨q1, q2, q3⟩ := q; omega) | fail)] | rw [if_neg (by first | assumption | omega | (refine inA_iff.mpr ?_; omega) | (intro q; have q2 := inA_iff.mp q; omega) | (intro q; omega) | (refine ⟨?_, ?_⟩ <;> rw [nI_int (by omega)] <;> omega) | (rw [nI_int (by omega)]; omega) | (intro q; rw [nI_int (by omega)] at q; omega) | (refine ⟨?_, ?_, ?_⟩ <;> omega) | (intro q; obtain ⟨q1, q2, q3⟩ := q; omega) | fail)])) <;> rfl, rfl⟩)
    · refine WP.run (pc' := 111) (L' := [.ref 271, .int (nI 8)]) (st' := []) (I1 := I) 1 rfl ?_
      refine WP.run (pc' := 115) (L' := [.ref 271, .int (nI 8)]) (st' := [.int (I 271 1)]) (I1 := I) 2 rfl ?_
      refine WP.cg (st' := [.int (nI m)]) rfl (congrArg (fun z : Int32 => (.int z :: [] : List Value)) (hm)) rfl ?_
      exact WP.ret rfl rfl (⟨by (unfold aCount qCount; (repeat rw [nOf_nI (by omega)]); (repeat first | rw [if_pos (by first | assumption | omega | (refine inA_iff.mpr ?_; omega) | (intro q; have q2 := inA_iff.mp q; omega) | (intro q; omega) | (refine ⟨?_, ?_⟩ <;> rw [nI_int (by omega)] <;> omega) | (rw [nI_int (by omega)]; omega) | (intro q; rw [nI_int (by omega)] at q; omega) | (refine ⟨?_, ?_, ?_⟩ <;> omega) | (intro q; obtain ⟨q1, q2, q3⟩ := q; omega) | fail)] | rw [if_neg (by first | assumption | omega | (refine inA_iff.mpr ?_; omega) | (intro q; have q2 := inA_iff.mp q; omega) | (intro q; omega) | (refine ⟨?_, ?_⟩ <;> rw [nI_int (by omega)] <;> omega) | (rw [nI_int (by omega)]; omega) | (intro q; rw [nI_int (by omega)] at q; omega) | (refine ⟨?_, ?_, ?_⟩ <;> omega) | (intro q; obtain ⟨q1, q2, q3⟩ := q; omega) | fail)])) <;> rfl, rfl⟩)
    · refine WP.run (pc' := 116) (L' := [.ref 271, .int (nI 9)]) (st' := []) (I1 := I) 1 rfl ?_
      refine WP.run (pc' := 120) (L' := [.ref 271, .int (nI 9)]) (st' := [.int (I 271 9)]) (I1 := I) 2 rfl ?_
      refine WP.cg (st' := [.int (nI n)]) rfl (congrArg (fun z : Int32 => (.int z :: [] : List Value)) (hn)) rfl ?_
      exact WP.ret rfl rfl (⟨by (unfold aCount qCount; (repeat rw [nOf_nI (by omega)]); (repeat first | rw [if_pos (by first | assumption | omega | (refine inA_iff.mpr ?_; omega) | (intro q; have q2 := inA_iff.mp q; omega) | (intro q; omega) | (refine ⟨?_, ?_⟩ <;> rw [nI_int (by omega)] <;> omega) | (rw [nI_int (by omega)]; omega) | (intro q; rw [nI_int (by omega)] at q; omega) | (refine ⟨?_, ?_, ?_⟩ <;> omega) | (intro q; obtain ⟨q1, q2, q3⟩ := q; omega) | fail)] | rw [if_neg (by first | assumption | omega | (refine inA_iff.mpr ?_; omega) | (intro q; have q2 := inA_iff.mp q; omega) | (intro q; omega) | (refine ⟨?_, ?_⟩ <;> rw [nI_int (by omega)] <;> omega) | (rw [nI_int (by omega)]; omega) | (intro q; rw [nI_int (by omega)] at q; omega) | (refine ⟨?_, ?_, ?_⟩ <;> omega) | (intro q; obtain ⟨q1, q2, q3⟩ := q; omega) | fail)])) <;> rfl, rfl⟩)
  · refine WP.swD (pc' := 121) rfl (notA hw) rfl ?_
    refine WP.run (pc' := 123) (L' := [.ref 271, .int w]) (st' := [.int (-1000001)]) (I1 := I) 1 rfl ?_
    exact WP.ret rfl rfl (⟨by (unfold aCount qCount; (repeat rw [nOf_nI (by omega)]); (repeat first | rw [if_pos (by first | assumption | omega | (refine inA_iff.mpr ?_; omega) | (intro q; have q2 := inA_iff.mp q; omega) | (intro q; omega) | (refine ⟨?_, ?_⟩ <;> rw [nI_int (by omega)] <;> omega) | (rw [nI_int (by omega)]; omega) | (intro q; rw [nI_int (by omega)] at q; omega) | (refine ⟨?_, ?_, ?_⟩ <;> omega) | (intro q; obtain ⟨q1, q2, q3⟩ := q; omega) | fail)] | rw [if_neg (by first | assumption | omega | (refine inA_iff.mpr ?_; omega) | (intro q; have q2 := inA_iff.mp q; omega) | (intro q; omega) | (refine ⟨?_, ?_⟩ <;> rw [nI_int (by omega)] <;> omega) | (rw [nI_int (by omega)]; omega) | (intro q; rw [nI_int (by omega)] at q; omega) | (refine ⟨?_, ?_, ?_⟩ <;> omega) | (intro q; obtain ⟨q1, q2, q3⟩ := q; omega) | fail)])) <;> rfl, rfl⟩)
set_option maxRecDepth 100000 in
theorem ms_trace {d : Nat} {I : Pl} {x : Int32} {n : Nat} (hn : I 271 19 = nI n) (h16 : n ≤ 16) : Ev (d + 2) 203 [.ref 271, .int x] (mem I) (some (.int (aTrace I 282 n x))) (mem I) := by
  refine Ev.only (EvX.enter rfl rfl rfl ?_)
  refine WP.run (pc' := 7) (L' := [.ref 271, .int x]) (st' := [.int (I 271 19), .long (0 : Int64), .long x.toInt64]) (I1 := I) 5 rfl ?_
  refine WP.cg (st' := [.int (nI n), .long (0 : Int64), .long x.toInt64]) rfl (congrArg (fun z : Int32 => (.int z :: [.long (0 : Int64), .long x.toInt64] : List Value)) (hn)) rfl ?_
  refine WP.run (pc' := 10) (L' := [.ref 271, .int x]) (st' := [.long (((nI n) - (nI 1)).toInt64), .long (0 : Int64), .long x.toInt64]) (I1 := I) 3 rfl ?_
  refine WP.callB (rest := []) rfl rfl (sp_inA (d := d) (x := x) (n := n) (hi := ((nI n) - (nI 1)).toInt64) (hi_sub (by omega))) (fun h1 => ?_) (fun h1 => ?_)
  · refine WP.run (pc' := 16) (L' := [.ref 271, .int x]) (st' := []) (I1 := I) 1 rfl ?_
    have hx_j : inA x n := (by assumption)
    obtain ⟨j, hj, rfl⟩ := inA_of hx_j (by omega)
    refine WP.run (pc' := 21) (L' := [.ref 271, .int (nI j)]) (st' := [.int (nI j), .ref 282]) (I1 := I) 3 rfl ?_
    refine WP.iald rfl rfl rfl (by omega) (by decide) ?_
    refine WP.run (pc' := 27) (L' := [.ref 271, .int (nI j)]) (st' := [.int (I 282 j)]) (I1 := I) 1 rfl ?_
    exact WP.ret rfl rfl (⟨by (unfold aTrace; (repeat rw [nOf_nI (by omega)]); (repeat first | rw [if_pos (by first | assumption | omega | (refine inA_iff.mpr ?_; omega) | (intro q; have q2 := inA_iff.mp q; omega) | (intro q; omega) | (refine ⟨?_, ?_⟩ <;> rw [nI_int (by omega)] <;> omega) | (rw [nI_int (by omega)]; omega) | (intro q; rw [nI_int (by omega)] at q; omega) | (refine ⟨?_, ?_, ?_⟩ <;> omega) | (intro q; obtain ⟨q1, q2, q3⟩ := q; omega) | fail)] | rw [if_neg (by first | assumption | omega | (refine inA_iff.mpr ?_; omega) | (intro q; have q2 := inA_iff.mp q; omega) | (intro q; omega) | (refine ⟨?_, ?_⟩ <;> rw [nI_int (by omega)] <;> omega) | (rw [nI_int (by omega)]; omega) | (intro q; rw [nI_int (by omega)] at q; omega) | (refine ⟨?_, ?_, ?_⟩ <;> omega) | (intro q; obtain ⟨q1, q2, q3⟩ := q; omega) | fail)])) <;> rfl, rfl⟩)
  · refine WP.run (pc' := 27) (L' := [.ref 271, .int x]) (st' := [.int (-1000000)]) (I1 := I) 2 rfl ?_
    exact WP.ret rfl rfl (⟨by (unfold aTrace; (repeat rw [nOf_nI (by omega)]); (repeat first | rw [if_pos (by first | assumption | omega | (refine inA_iff.mpr ?_; omega) | (intro q; have q2 := inA_iff.mp q; omega) | (intro q; omega) | (refine ⟨?_, ?_⟩ <;> rw [nI_int (by omega)] <;> omega) | (rw [nI_int (by omega)]; omega) | (intro q; rw [nI_int (by omega)] at q; omega) | (refine ⟨?_, ?_, ?_⟩ <;> omega) | (intro q; obtain ⟨q1, q2, q3⟩ := q; omega) | fail)] | rw [if_neg (by first | assumption | omega | (refine inA_iff.mpr ?_; omega) | (intro q; have q2 := inA_iff.mp q; omega) | (intro q; omega) | (refine ⟨?_, ?_⟩ <;> rw [nI_int (by omega)] <;> omega) | (rw [nI_int (by omega)]; omega) | (intro q; rw [nI_int (by omega)] at q; omega) | (refine ⟨?_, ?_, ?_⟩ <;> omega) | (intro q; obtain ⟨q1, q2, q3⟩ := q; omega) | fail)])) <;> rfl, rfl⟩)
