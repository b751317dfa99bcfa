/-! what the calls that only read answer -/
def nOf (x : Int32) : Nat := x.toNatClampNeg
theorem nOf_nI {j : Nat} (h : j < 2 ^ 31) : nOf (nI j) = j := nI_clamp h
theorem WP.swD {d : Nat} {fc : FC} {pc pc' : Nat} {L st : List Value} {I : Pl} {Q : Option Value → Pl → Prop} {x : Int32} {df lo hi : Int} {offs : Array Int} {ln : Nat} (hq : asc (cdT fc.1) pc = some (.tableswitch df lo hi offs, ln)) (h : x.toInt < lo ∨ hi < x.toInt) (ht : tg pc df = some pc') (g : WP d fc pc' L st I Q) : WP d fc pc L (.int x :: st) I Q := by
  obtain ⟨r, I', g, hQ⟩ := g
  refine ⟨r, I', At.stp1 hq ?_ g, hQ⟩
  dsimp only [stp]
  rw [if_pos h]
  unfold jm
  rw [ht]
theorem notA {x : Int32} {n : Nat} (h : ¬ inA x n) : x.toInt < 0 ∨ (n : Int) - 1 < x.toInt := by
  rw [inA_iff] at h
  omega
theorem bit_pow : ∀ k, k < 6 → ∀ m, m < 64 → m &&& 2 ^ k = bitN m k * 2 ^ k := by decide +kernel
def qStrand (N : Nat → Nat) (k w : Nat) : Nat := if w = 0 then N (15 + k) else if w = 1 then N (21 + k) else if w = 2 then bitN (N 7) k else bitN (N 6) k
def aStrand (N : Nat → Nat) (x w : Int32) : Int32 := if inA x (N 2) then (if inA w 4 then nI (qStrand N (nOf x) (nOf w)) else -1000001) else -1000001
def qClimber (N : Nat → Nat) (c w : Nat) : Nat := if w = 0 then N (27 + c) else if w = 1 then N (32 + c) else if w = 2 then N (37 + c) else if w = 3 then N (42 + c) else if w = 4 then (if bornN N (N (27 + c)) (N 6) = true then 1 else 0) else shareN (pullN N (N (27 + c))) (N 6)
def aClimber (N : Nat → Nat) (x w : Int32) : Int32 := if inA x (N 3) then (if inA w 6 then nI (qClimber N (nOf x) (nOf w)) else -1000001) else -1000001
def aDue (N : Nat → Nat) (x : Int32) : Int32 := if N 8 = 0 then -1000002 else if inA x 100 then nI (dueN N (N 4 + nOf x)) else -1000001
def aBorne (N : Nat → Nat) (x w : Int32) : Int32 := if inA x (N 3) then (if inA w (2 ^ N 2) then (if nOf w &&& N 7 = 0 then (if bornN N (N (27 + nOf x)) (nOf w) = true then nI 1 else nI 0) else -1000002) else -1000001) else -1000001
/-- the strands under k without which the climber is not borne -/
def neP (N : Nat → Nat) (w : Nat) : Nat → Nat
  | 0 => 0
  | k + 1 => neP N w k + if bitN (N 6) k = 1 ∧ ¬ bornN N w (sdf (N 6) (2 ^ k)) = true then 2 ^ k else 0
theorem neP_lt (N : Nat → Nat) (w : Nat) : ∀ k, neP N w k < 2 ^ k := by
  intro k
  induction k with
  | zero => exact Nat.zero_lt_one
  | succ k ih =>
    unfold neP
    rw [Nat.pow_succ]
    split <;> omega
def aNeeded (N : Nat → Nat) (x : Int32) : Int32 := if inA x (N 3) then (if bornN N (N (27 + nOf x)) (N 6) = true then nI (neP N (N (27 + nOf x)) (N 2)) else nI (N 6)) else -1000001
def aStrong (N : Nat → Nat) (x : Int32) : Int32 := if N 8 = 0 then -1000002 else if inA x 3 then nI (if nOf x = 0 then mwN N (N 6) else if nOf x = 1 then stN N else mwN N (stN N)) else -1000001
/-- 200 more than the least that is to spare on days due under k -/
def cmP (N : Nat → Nat) : Nat → Nat
  | 0 => 1000000000
  | k + 1 => if dueN N (N 4 + k) = 0 then cmP N k else min (cmP N k) (N 1 + k + 200 - N 0)
theorem cmP_le (N : Nat → Nat) : ∀ k, cmP N k ≤ 1000000000 := by
  intro k
  induction k with
  | zero => exact Nat.le_refl _
  | succ k ih =>
    unfold cmP
    split
    · exact ih
    · exact Nat.le_trans (Nat.min_le_left _ _) ih
def aCut (N : Nat → Nat) : Int32 := if N 8 = 0 then -1000002 else if N 3 = 0 then -1000000 else if min (N 1 + 200) (cmP N 9) < 200 then -1000000 else nI (min (N 1 + 200) (cmP N 9) - 200)
def aComes (N : Nat → Nat) (x n : Int32) : Int32 := if inA x (N 3) then (if inR n 1 20 then nI (N 4 + fmN (N (37 + nOf x)) (N 4) (N (32 + nOf x)) + (nOf n - 1) * N (32 + nOf x)) else -1000001) else -1000001
def aClimbed (N : Nat → Nat) (x : Int32) : Int32 := if N 8 = 0 then -1000002 else if inA x 100 then nI (whoN N (N 6) (nOf x)) else -1000001
def qStorm (N : Nat → Nat) (c p w : Nat) : Nat := if w = 0 then stoN N c p / Nat.gcd (stoN N c p) (10 ^ popc (N 6)) else 10 ^ popc (N 6) / Nat.gcd (stoN N c p) (10 ^ popc (N 6))
def aStorm (N : Nat → Nat) (x p w : Int32) : Int32 := if inA x (N 3) then (if inA p 11 then (if inA w 2 then nI (qStorm N (nOf x) (nOf p) (nOf w)) else -1000001) else -1000001) else -1000001
def aKind (N : Nat → Nat) (x : Int32) : Int32 := if inA x (N 2) then nI (N (9 + nOf x)) else -1000001
def qCount (N : Nat → Nat) (r m n w : Nat) : Nat := if w = 0 then r else if w = 1 then N 2 else if w = 2 then N 3 else if w = 3 then N 4 else if w = 4 then N 0 else if w = 5 then N 1 else if w = 6 then N 5 else if w = 7 then N 6 else if w = 8 then m else n
def aCount (N : Nat → Nat) (r m n : Nat) (w : Int32) : Int32 := if inA w 10 then nI (qCount N r m n (nOf w)) else -1000001
set_option maxRecDepth 100000 in
theorem cs_status {d : Nat} {I : Pl}  : Ev (d + 1) 122 [.ref 0] (mem I) (some (.int (I 0 9))) (mem I) := by
  refine Ev.only (EvX.enter rfl rfl rfl ?_)
  refine WP.run (pc' := 4) (L' := [.ref 0]) (st' := [.int (I 0 9)]) (I1 := I) 2 rfl ?_
  exact WP.ret rfl rfl (⟨rfl, rfl⟩)
set_option maxRecDepth 100000 in
theorem cs_fault {d : Nat} {I : Pl}  : Ev (d + 1) 89 [.ref 0] (mem I) (some (.int (I 0 8))) (mem I) := by
  refine Ev.only (EvX.enter rfl rfl rfl ?_)
  refine WP.run (pc' := 4) (L' := [.ref 0]) (st' := [.int (I 0 8)]) (I1 := I) 2 rfl ?_
  exact WP.ret rfl rfl (⟨rfl, rfl⟩)
set_option maxRecDepth 100000 in
theorem cs_strand {d : Nat} {I : Pl} {N : Nat → Nat} {x w : Int32} (hT : Tw I 247 N) (hN : TI N)  : Ev (d + 2) 97 [.ref 0, .int x, .int w] (mem I) (some (.int (aStrand N x w))) (mem I) := by
  obtain ⟨b0, b1, b2, b3, b4, b5, b6, b7, b8, bS, bC, bS1, bC1, bZ, bG⟩ := id hN
  obtain ⟨s6, s7, s64⟩ := hN.set64
  refine Ev.only (EvX.enter rfl rfl rfl ?_)
  refine WP.run (pc' := 5) (L' := [.ref 0, .int x, .int w]) (st' := [.int x, .ref 247]) (I1 := I) 3 rfl ?_
  refine WP.callB (rest := []) rfl rfl (sp_isStrand (d := d) (x := x) hT hN) (fun h1 => ?_) (fun h1 => ?_)
  · refine WP.run (pc' := 14) (L' := [.ref 0, .int x, .int w]) (st' := []) (I1 := I) 1 rfl ?_
    have hx_j : inA x (N 2) := (by assumption)
    obtain ⟨j, hj, rfl⟩ := inA_of hx_j (by omega)
    refine WP.run (pc' := 15) (L' := [.ref 0, .int (nI j), .int w]) (st' := [.int w]) (I1 := I) 1 rfl ?_
    by_cases hw : inA w 4
    · obtain ⟨w1, hw1, rfl⟩ := inA_of hw (by decide)
      have hsw : w1 = 0 ∨ w1 = 1 ∨ w1 = 2 ∨ w1 = 3 := by omega
      rcases hsw with rfl | rfl | rfl | rfl
      · refine WP.run (pc' := 44) (L' := [.ref 0, .int (nI j), .int (nI 0)]) (st' := []) (I1 := I) 1 rfl ?_
        refine WP.run (pc' := 52) (L' := [.ref 0, .int (nI j), .int (nI 0)]) (st' := [.int (nI j), .ref 249]) (I1 := I) 4 rfl ?_
        refine WP.iald rfl rfl rfl (by omega) (by decide) ?_
        refine WP.cg (st' := [.int (nI (N (15 + j)))]) rfl (congrArg (fun z : Int32 => (.int z :: [] : List Value)) (hT.a2 (k := j) (by omega))) rfl ?_
        exact WP.ret rfl rfl (⟨by (unfold aStrand qStrand; (repeat rw [nOf_nI (by omega)]); (repeat first | rw [if_pos (by first | assumption | omega | (refine inA_iff.mpr ?_; omega) | (intro q; have q2 := inA_iff.mp q; omega) | (intro q; omega) | (refine ⟨?_, ?_⟩ <;> rw [nI_int (by omega)] <;> omega) | (rw [nI_int (by omega)]; omega) | (intro q; rw [nI_int (by omega)] at q; omega) | (refine ⟨?_, ?_, ?_⟩ <;> omega) | (intro q; obtain ⟨q1, q2, q3⟩ := q; omega) | fail)] | rw [if_neg (by first | assumption | omega | (refine inA_iff.mpr ?_; omega) | (intro q; have q2 := inA_iff.mp q; omega) | (intro q; omega) | (refine ⟨?_, ?_⟩ <;> rw [nI_int (by omega)] <;> omega) | (rw [nI_int (by omega)]; omega) | (intro q; rw [nI_int (by omega)] at q; omega) | (refine ⟨?_, ?_, ?_⟩ <;> omega) | (intro q; obtain ⟨q1, q2, q3⟩ := q; omega) | fail)])) <;> rfl, rfl⟩)
      · refine WP.run (pc' := 54) (L' := [.ref 0, .int (nI j), .int (nI 1)]) (st' := []) (I1 := I) 1 rfl ?_
        refine WP.run (pc' := 62) (L' := [.ref 0, .int (nI j), .int (nI 1)]) (st' := [.int (nI j), .ref 250]) (I1 := I) 4 rfl ?_
        refine WP.iald rfl rfl rfl (by omega) (by decide) ?_
        refine WP.cg (st' := [.int (nI (N (21 + j)))]) rfl (congrArg (fun z : Int32 => (.int z :: [] : List Value)) (hT.a3 (k := j) (by omega))) rfl ?_
        exact WP.ret rfl rfl (⟨by (unfold aStrand qStrand; (repeat rw [nOf_nI (by omega)]); (repeat first | rw [if_pos (by first | assumption | omega | (refine inA_iff.mpr ?_; omega) | (intro q; have q2 := inA_iff.mp q; omega) | (intro q; omega) | (refine ⟨?_, ?_⟩ <;> rw [nI_int (by omega)] <;> omega) | (rw [nI_int (by omega)]; omega) | (intro q; rw [nI_int (by omega)] at q; omega) | (refine ⟨?_, ?_, ?_⟩ <;> omega) | (intro q; obtain ⟨q1, q2, q3⟩ := q; omega) | fail)] | rw [if_neg (by first | assumption | omega | (refine inA_iff.mpr ?_; omega) | (intro q; have q2 := inA_iff.mp q; omega) | (intro q; omega) | (refine ⟨?_, ?_⟩ <;> rw [nI_int (by omega)] <;> omega) | (rw [nI_int (by omega)]; omega) | (intro q; rw [nI_int (by omega)] at q; omega) | (refine ⟨?_, ?_, ?_⟩ <;> omega) | (intro q; obtain ⟨q1, q2, q3⟩ := q; omega) | fail)])) <;> rfl, rfl⟩)
      · refine WP.run (pc' := 64) (L' := [.ref 0, .int (nI j), .int (nI 2)]) (st' := []) (I1 := I) 1 rfl ?_
        refine WP.run (pc' := 71) (L' := [.ref 0, .int (nI j), .int (nI 2)]) (st' := [.int (I 247 6)]) (I1 := I) 3 rfl ?_
        refine WP.cg (st' := [.int (nI (N 7))]) rfl (congrArg (fun z : Int32 => (.int z :: [] : List Value)) (hT.f6)) rfl ?_
        refine WP.run (pc' := 72) (L' := [.ref 0, .int (nI j), .int (nI 2)]) (st' := [.int (nI j), .int (nI (N 7))]) (I1 := I) 1 rfl ?_
        refine WP.callV (rest := []) rfl rfl (sp_bit (d := d) (m := N 7) (i := j) (by omega) (by omega)) ?_
        exact WP.ret rfl rfl (⟨by (unfold aStrand qStrand; (repeat rw [nOf_nI (by omega)]); (repeat first | rw [if_pos (by first | assumption | omega | (refine inA_iff.mpr ?_; omega) | (intro q; have q2 := inA_iff.mp q; omega) | (intro q; omega) | (refine ⟨?_, ?_⟩ <;> rw [nI_int (by omega)] <;> omega) | (rw [nI_int (by omega)]; omega) | (intro q; rw [nI_int (by omega)] at q; omega) | (refine ⟨?_, ?_, ?_⟩ <;> omega) | (intro q; obtain ⟨q1, q2, q3⟩ := q; omega) | fail)] | rw [if_neg (by first | assumption | omega | (refine inA_iff.mpr ?_; omega) | (intro q; have q2 := inA_iff.mp q; omega) | (intro q; omega) | (refine ⟨?_, ?_⟩ <;> rw [nI_int (by omega)] <;> omega) | (rw [nI_int (by omega)]; omega) | (intro q; rw [nI_int (by omega)] at q; omega) | (refine ⟨?_, ?_, ?_⟩ <;> omega) | (intro q; obtain ⟨q1, q2, q3⟩ := q; omega) | fail)])) <;> rfl, rfl⟩)
      · refine WP.run (pc' := 76) (L' := [.ref 0, .int (nI j), .int (nI 3)]) (st' := []) (I1 := I) 1 rfl ?_
        refine WP.run (pc' := 83) (L' := [.ref 0, .int (nI j), .int (nI 3)]) (st' := [.int (I 247 5)]) (I1 := I) 3 rfl ?_
        refine WP.cg (st' := [.int (nI (N 6))]) rfl (congrArg (fun z : Int32 => (.int z :: [] : List Value)) (hT.f5)) rfl ?_
        refine WP.run (pc' := 84) (L' := [.ref 0, .int (nI j), .int (nI 3)]) (st' := [.int (nI j), .int (nI (N 6))]) (I1 := I) 1 rfl ?_
        refine WP.callV (rest := []) rfl rfl (sp_bit (d := d) (m := N 6) (i := j) (by omega) (by omega)) ?_
        exact WP.ret rfl rfl (⟨by (unfold aStrand qStrand; (repeat rw [nOf_nI (by omega)]); (repeat first | rw [if_pos (by first | assumption | omega | (refine inA_iff.mpr ?_; omega) | (intro q; have q2 := inA_iff.mp q; omega) | (intro q; omega) | (refine ⟨?_, ?_⟩ <;> rw [nI_int (by omega)] <;> omega) | (rw [nI_int (by omega)]; omega) | (intro q; rw [nI_int (by omega)] at q; omega) | (refine ⟨?_, ?_, ?_⟩ <;> omega) | (intro q; obtain ⟨q1, q2, q3⟩ := q; omega) | fail)] | rw [if_neg (by first | assumption | omega | (refine inA_iff.mpr ?_; omega) | (intro q; have q2 := inA_iff.mp q; omega) | (intro q; omega) | (refine ⟨?_, ?_⟩ <;> rw [nI_int (by omega)] <;> omega) | (rw [nI_int (by omega)]; omega) | (intro q; rw [nI_int (by omega)] at q; omega) | (refine ⟨?_, ?_, ?_⟩ <;> omega) | (intro q; obtain ⟨q1, q2, q3⟩ := q; omega) | fail)])) <;> rfl, rfl⟩)
    · refine WP.swD (pc' := 88) rfl (notA hw) rfl ?_
      refine WP.run (pc' := 90) (L' := [.ref 0, .int (nI j), .int w]) (st' := [.int (-1000001)]) (I1 := I) 1 rfl ?_
      exact WP.ret rfl rfl (⟨by (unfold aStrand qStrand; (repeat rw [nOf_nI (by omega)]); (repeat first | rw [if_pos (by first | assumption | omega | (refine inA_iff.mpr ?_; omega) | (intro q; have q2 := inA_iff.mp q; omega) | (intro q; omega) | (refine ⟨?_, ?_⟩ <;> rw [nI_int (by omega)] <;> omega) | (rw [nI_int (by omega)]; omega) | (intro q; rw [nI_int (by omega)] at q; omega) | (refine ⟨?_, ?_, ?_⟩ <;> omega) | (intro q; obtain ⟨q1, q2, q3⟩ := q; omega) | fail)] | rw [if_neg (by first | assumption | omega | (refine inA_iff.mpr ?_; omega) | (intro q; have q2 := inA_iff.mp q; omega) | (intro q; omega) | (refine ⟨?_, ?_⟩ <;> rw [nI_int (by omega)] <;> omega) | (rw [nI_int (by omega)]; omega) | (intro q; rw [nI_int (by omega)] at q; omega) | (refine ⟨?_, ?_, ?_⟩ <;> omega) | (intro q; obtain ⟨q1, q2, q3⟩ := q; omega) | fail)])) <;> rfl, rfl⟩)
  · refine WP.run (pc' := 13) (L' := [.ref 0, .int x, .int w]) (st' := [.int (-1000001)]) (I1 := I) 2 rfl ?_
    exact WP.ret rfl rfl (⟨by (unfold aStrand qStrand; (repeat rw [nOf_nI (by omega)]); (repeat first | rw [if_pos (by first | assumption | omega | (refine inA_iff.mpr ?_; omega) | (intro q; have q2 := inA_iff.mp q; omega) | (intro q; omega) | (refine ⟨?_, ?_⟩ <;> rw [nI_int (by omega)] <;> omega) | (rw [nI_int (by omega)]; omega) | (intro q; rw [nI_int (by omega)] at q; omega) | (refine ⟨?_, ?_, ?_⟩ <;> omega) | (intro q; obtain ⟨q1, q2, q3⟩ := q; omega) | fail)] | rw [if_neg (by first | assumption | omega | (refine inA_iff.mpr ?_; omega) | (intro q; have q2 := inA_iff.mp q; omega) | (intro q; omega) | (refine ⟨?_, ?_⟩ <;> rw [nI_int (by omega)] <;> omega) | (rw [nI_int (by omega)]; omega) | (intro q; rw [nI_int (by omega)] at q; omega) | (refine ⟨?_, ?_, ?_⟩ <;> omega) | (intro q; obtain ⟨q1, q2, q3⟩ := q; omega) | fail)])) <;> rfl, rfl⟩)
set_option maxRecDepth 100000 in
theorem cs_climber {d : Nat} {I : Pl} {N : Nat → Nat} {x w : Int32} (hT : Tw I 247 N) (hN : TI N)  : Ev (d + 4) 98 [.ref 0, .int x, .int w] (mem I) (some (.int (aClimber N x w))) (mem I) := by
  obtain ⟨b0, b1, b2, b3, b4, b5, b6, b7, b8, bS, bC, bS1, bC1, bZ, bG⟩ := id hN
  obtain ⟨s6, s7, s64⟩ := hN.set64
  refine Ev.only (EvX.enter rfl rfl rfl ?_)
  refine WP.run (pc' := 5) (L' := [.ref 0, .int x, .int w]) (st' := [.int x, .ref 247]) (I1 := I) 3 rfl ?_
  refine WP.callB (rest := []) rfl rfl (sp_isClimber (d := d + 2) (x := x) hT hN) (fun h1 => ?_) (fun h1 => ?_)
  · refine WP.run (pc' := 14) (L' := [.ref 0, .int x, .int w]) (st' := []) (I1 := I) 1 rfl ?_
    have hx_j : inA x (N 3) := (by assumption)
    obtain ⟨j, hj, rfl⟩ := inA_of hx_j (by omega)
    refine WP.run (pc' := 15) (L' := [.ref 0, .int (nI j), .int w]) (st' := [.int w]) (I1 := I) 1 rfl ?_
    by_cases hw : inA w 6
    · obtain ⟨w1, hw1, rfl⟩ := inA_of hw (by decide)
      have hsw : w1 = 0 ∨ w1 = 1 ∨ w1 = 2 ∨ w1 = 3 ∨ w1 = 4 ∨ w1 = 5 := by omega
      rcases hsw with rfl | rfl | rfl | rfl | rfl | rfl
      · refine WP.run (pc' := 52) (L' := [.ref 0, .int (nI j), .int (nI 0)]) (st' := []) (I1 := I) 1 rfl ?_
        refine WP.run (pc' := 60) (L' := [.ref 0, .int (nI j), .int (nI 0)]) (st' := [.int (nI j), .ref 251]) (I1 := I) 4 rfl ?_
        refine WP.iald rfl rfl rfl (by omega) (by decide) ?_
        refine WP.cg (st' := [.int (nI (N (27 + j)))]) rfl (congrArg (fun z : Int32 => (.int z :: [] : List Value)) (hT.a4 (k := j) (by omega))) rfl ?_
        exact WP.ret rfl rfl (⟨by (unfold aClimber qClimber; (repeat rw [nOf_nI (by omega)]); (repeat first | rw [if_pos (by first | assumption | omega | (refine inA_iff.mpr ?_; omega) | (intro q; have q2 := inA_iff.mp q; omega) | (intro q; omega) | (refine ⟨?_, ?_⟩ <;> rw [nI_int (by omega)] <;> omega) | (rw [nI_int (by omega)]; omega) | (intro q; rw [nI_int (by omega)] at q; omega) | (refine ⟨?_, ?_, ?_⟩ <;> omega) | (intro q; obtain ⟨q1, q2, q3⟩ := q; omega) | fail)] | rw [if_neg (by first | assumption | omega | (refine inA_iff.mpr ?_; omega) | (intro q; have q2 := inA_iff.mp q; omega) | (intro q; omega) | (refine ⟨?_, ?_⟩ <;> rw [nI_int (by omega)] <;> omega) | (rw [nI_int (by omega)]; omega) | (intro q; rw [nI_int (by omega)] at q; omega) | (refine ⟨?_, ?_, ?_⟩ <;> omega) | (intro q; obtain ⟨q1, q2, q3⟩ := q; omega) | fail)])) <;> rfl, rfl⟩)
      · refine WP.run (pc' := 62) (L' := [.ref 0, .int (nI j), .int (nI 1)]) (st' := []) (I1 := I) 1 rfl ?_
        refine WP.run (pc' := 70) (L' := [.ref 0, .int (nI j), .int (nI 1)]) (st' := [.int (nI j), .ref 252]) (I1 := I) 4 rfl ?_
        refine WP.iald rfl rfl rfl (by omega) (by decide) ?_
        refine WP.cg (st' := [.int (nI (N (32 + j)))]) rfl (congrArg (fun z : Int32 => (.int z :: [] : List Value)) (hT.a5 (k := j) (by omega))) rfl ?_
        exact WP.ret rfl rfl (⟨by (unfold aClimber qClimber; (repeat rw [nOf_nI (by omega)]); (repeat first | rw [if_pos (by first | assumption | omega | (refine inA_iff.mpr ?_; omega) | (intro q; have q2 := inA_iff.mp q; omega) | (intro q; omega) | (refine ⟨?_, ?_⟩ <;> rw [nI_int (by omega)] <;> omega) | (rw [nI_int (by omega)]; omega) | (intro q; rw [nI_int (by omega)] at q; omega) | (refine ⟨?_, ?_, ?_⟩ <;> omega) | (intro q; obtain ⟨q1, q2, q3⟩ := q; omega) | fail)] | rw [if_neg (by first | assumption | omega | (refine inA_iff.mpr ?_; omega) | (intro q; have q2 := inA_iff.mp q; omega) | (intro q; omega) | (refine ⟨?_, ?_⟩ <;> rw [nI_int (by omega)] <;> omega) | (rw [nI_int (by omega)]; omega) | (intro q; rw [nI_int (by omega)] at q; omega) | (refine ⟨?_, ?_, ?_⟩ <;> omega) | (intro q; obtain ⟨q1, q2, q3⟩ := q; omega) | fail)])) <;> rfl, rfl⟩)
      · refine WP.run (pc' := 72) (L' := [.ref 0, .int (nI j), .int (nI 2)]) (st' := []) (I1 := I) 1 rfl ?_
        refine WP.run (pc' := 80) (L' := [.ref 0, .int (nI j), .int (nI 2)]) (st' := [.int (nI j), .ref 253]) (I1 := I) 4 rfl ?_
        refine WP.iald rfl rfl rfl (by omega) (by decide) ?_
        refine WP.cg (st' := [.int (nI (N (37 + j)))]) rfl (congrArg (fun z : Int32 => (.int z :: [] : List Value)) (hT.a6 (k := j) (by omega))) rfl ?_
        exact WP.ret rfl rfl (⟨by (unfold aClimber qClimber; (repeat rw [nOf_nI (by omega)]); (repeat first | rw [if_pos (by first | assumption | omega | (refine inA_iff.mpr ?_; omega) | (intro q; have q2 := inA_iff.mp q; omega) | (intro q; omega) | (refine ⟨?_, ?_⟩ <;> rw [nI_int (by omega)] <;> omega) | (rw [nI_int (by omega)]; omega) | (intro q; rw [nI_int (by omega)] at q; omega) | (refine ⟨?_, ?_, ?_⟩ <;> omega) | (intro q; obtain ⟨q1, q2, q3⟩ := q; omega) | fail)] | rw [if_neg (by first | assumption | omega | (refine inA_iff.mpr ?_; omega) | (intro q; have q2 := inA_iff.mp q; omega) | (intro q; omega) | (refine ⟨?_, ?_⟩ <;> rw [nI_int (by omega)] <;> omega) | (rw [nI_int (by omega)]; omega) | (intro q; rw [nI_int (by omega)] at q; omega) | (refine ⟨?_, ?_, ?_⟩ <;> omega) | (intro q; obtain ⟨q1, q2, q3⟩ := q; omega) | fail)])) <;> rfl, rfl⟩)
      · refine WP.run (pc' := 82) (L' := [.ref 0, .int (nI j), .int (nI 3)]) (st' := []) (I1 := I) 1 rfl ?_
        refine WP.run (pc' := 90) (L' := [.ref 0, .int (nI j), .int (nI 3)]) (st' := [.int (nI j), .ref 254]) (I1 := I) 4 rfl ?_
        refine WP.iald rfl rfl rfl (by omega) (by decide) ?_
        refine WP.cg (st' := [.int (nI (N (42 + j)))]) rfl (congrArg (fun z : Int32 => (.int z :: [] : List Value)) (hT.a7 (k := j) (by omega))) rfl ?_
        exact WP.ret rfl rfl (⟨by (unfold aClimber qClimber; (repeat rw [nOf_nI (by omega)]); (repeat first | rw [if_pos (by first | assumption | omega | (refine inA_iff.mpr ?_; omega) | (intro q; have q2 := inA_iff.mp q; omega) | (intro q; omega) | (refine ⟨?_, ?_⟩ <;> rw [nI_int (by omega)] <;> omega) | (rw [nI_int (by omega)]; omega) | (intro q; rw [nI_int (by omega)] at q; omega) | (refine ⟨?_, ?_, ?_⟩ <;> omega) | (intro q; obtain ⟨q1, q2, q3⟩ := q; omega) | fail)] | rw [if_neg (by first | assumption | omega | (refine inA_iff.mpr ?_; omega) | (intro q; have q2 := inA_iff.mp q; omega) | (intro q; omega) | (refine ⟨?_, ?_⟩ <;> rw [nI_int (by omega)] <;> omega) | (rw [nI_int (by omega)]; omega) | (intro q; rw [nI_int (by omega)] at q; omega) | (refine ⟨?_, ?_, ?_⟩ <;> omega) | (intro q; obtain ⟨q1, q2, q3⟩ := q; omega) | fail)])) <;> rfl, rfl⟩)
      · refine WP.run (pc' := 92) (L' := [.ref 0, .int (nI j), .int (nI 4)]) (st' := []) (I1 := I) 1 rfl ?_
        refine WP.run (pc' := 104) (L' := [.ref 0, .int (nI j), .int (nI 4)]) (st' := [.int (I 247 5), .int (nI j), .ref 247]) (I1 := I) 6 rfl ?_
        refine WP.cg (st' := [.int (nI (N 6)), .int (nI j), .ref 247]) rfl (congrArg (fun z : Int32 => (.int z :: [.int (nI j), .ref 247] : List Value)) (hT.f5)) rfl ?_
        refine WP.callB (rest := []) rfl rfl (sp_isBorne (d := d) (c := j) (m := N 6) hT hN (by omega) (by omega)) (fun h2 => ?_) (fun h2 => ?_)
        · refine WP.run (pc' := 115) (L' := [.ref 0, .int (nI j), .int (nI 4)]) (st' := [.int (nI 1)]) (I1 := I) 3 rfl ?_
          exact WP.ret rfl rfl (⟨by (unfold aClimber qClimber; (repeat rw [nOf_nI (by omega)]); (repeat first | rw [if_pos (by first | assumption | omega | (refine inA_iff.mpr ?_; omega) | (intro q; have q2 := inA_iff.mp q; omega) | (intro q; omega) | (refine ⟨?_, ?_⟩ <;> rw [nI_int (by omega)] <;> omega) | (rw [nI_int (by omega)]; omega) | (intro q; rw [nI_int (by omega)] at q; omega) | (refine ⟨?_, ?_, ?_⟩ <;> omega) | (intro q; obtain ⟨q1, q2, q3⟩ := q; omega) | fail)] | rw [if_neg (by first | assumption | omega | (refine inA_iff.mpr ?_; omega) | (intro q; have q2 := inA_iff.mp q; omega) | (intro q; omega) | (refine ⟨?_, ?_⟩ <;> rw [nI_int (by omega)] <;> omega) | (rw [nI_int (by omega)]; omega) | (intro q; rw [nI_int (by omega)] at q; omega) | (refine ⟨?_, ?_, ?_⟩ <;> omega) | (intro q; obtain ⟨q1, q2, q3⟩ := q; omega) | fail)])) <;> rfl, rfl⟩)
        · refine WP.run (pc' := 115) (L' := [.ref 0, .int (nI j), .int (nI 4)]) (st' := [.int (nI 0)]) (I1 := I) 2 rfl ?_
          exact WP.ret rfl rfl (⟨by (unfold aClimber qClimber; (repeat rw [nOf_nI (by omega)]); (repeat first | rw [if_pos (by first | assumption | omega | (refine inA_iff.mpr ?_; omega) | (intro q; have q2 := inA_iff.mp q; omega) | (intro q; omega) | (refine ⟨?_, ?_⟩ <;> rw [nI_int (by omega)] <;> omega) | (rw [nI_int (by omega)]; omega) | (intro q; rw [nI_int (by omega)] at q; omega) | (refine ⟨?_, ?_, ?_⟩ <;> omega) | (intro q; obtain ⟨q1, q2, q3⟩ := q; omega) | fail)] | rw [if_neg (by first | assumption | omega | (refine inA_iff.mpr ?_; omega) | (intro q; have q2 := inA_iff.mp q; omega) | (intro q; omega) | (refine ⟨?_, ?_⟩ <;> rw [nI_int (by omega)] <;> omega) | (rw [nI_int (by omega)]; omega) | (intro q; rw [nI_int (by omega)] at q; omega) | (refine ⟨?_, ?_, ?_⟩ <;> omega) | (intro q; obtain ⟨q1, q2, q3⟩ := q; omega) | fail)])) <;> rfl, rfl⟩)
      · refine WP.run (pc' := 116) (L' := [.ref 0, .int (nI j), .int (nI 5)]) (st' := []) (I1 := I) 1 rfl ?_
        refine WP.run (pc' := 128) (L' := [.ref 0, .int (nI j), .int (nI 5)]) (st' := [.int (I 247 5), .int (nI j), .ref 247]) (I1 := I) 6 rfl ?_
        refine WP.cg (st' := [.int (nI (N 6)), .int (nI j), .ref 247]) rfl (congrArg (fun z : Int32 => (.int z :: [.int (nI j), .ref 247] : List Value)) (hT.f5)) rfl ?_
        refine WP.callV (rest := []) rfl rfl (sp_strain (d := d + 1) (c := j) (m := N 6) hT hN (by omega) (by omega)) ?_
        exact WP.ret rfl rfl (⟨by (unfold aClimber qClimber; (repeat rw [nOf_nI (by omega)]); (repeat first | rw [if_pos (by first | assumption | omega | (refine inA_iff.mpr ?_; omega) | (intro q; have q2 := inA_iff.mp q; omega) | (intro q; omega) | (refine ⟨?_, ?_⟩ <;> rw [nI_int (by omega)] <;> omega) | (rw [nI_int (by omega)]; omega) | (intro q; rw [nI_int (by omega)] at q; omega) | (refine ⟨?_, ?_, ?_⟩ <;> omega) | (intro q; obtain ⟨q1, q2, q3⟩ := q; omega) | fail)] | rw [if_neg (by first | assumption | omega | (refine inA_iff.mpr ?_; omega) | (intro q; have q2 := inA_iff.mp q; omega) | (intro q; omega) | (refine ⟨?_, ?_⟩ <;> rw [nI_int (by omega)] <;> omega) | (rw [nI_int (by omega)]; omega) | (intro q; rw [nI_int (by omega)] at q; omega) | (refine ⟨?_, ?_, ?_⟩ <;> omega) | (intro q; obtain ⟨q1, q2, q3⟩ := q; omega) | fail)])) <;> rfl, rfl⟩)
    · refine WP.swD (pc' := 132) rfl (notA hw) rfl ?_
      refine WP.run (pc' := 134) (L' := [.ref 0, .int (nI j), .int w]) (st' := [.int (-1000001)]) (I1 := I) 1 rfl ?_
      exact WP.ret rfl rfl (⟨by (unfold aClimber qClimber; (repeat rw [nOf_nI (by omega)]); (repeat first | rw [if_pos (by first | assumption | omega | (refine inA_iff.mpr ?_; omega) | (intro q; have q2 := inA_iff.mp q; omega) | (intro q; omega) | (refine ⟨?_, ?_⟩ <;> rw [nI_int (by omega)] <;> omega) | (rw [nI_int (by omega)]; omega) | (intro q; rw [nI_int (by omega)] at q; omega) | (refine ⟨?_, ?_, ?_⟩ <;> omega) | (intro q; obtain ⟨q1, q2, q3⟩ := q; omega) | fail)] | rw [if_neg (by first | assumption | omega | (refine inA_iff.mpr ?_; omega) | (intro q; have q2 := inA_iff.mp q; omega) | (intro q; omega) | (refine ⟨?_, ?_⟩ <;> rw [nI_int (by omega)] <;> omega) | (rw [nI_int (by omega)]; omega) | (intro q; rw [nI_int (by omega)] at q; omega) | (refine ⟨?_, ?_, ?_⟩ <;> omega) | (intro q; obtain ⟨q1, q2, q3⟩ := q; omega) | fail)])) <;> rfl, rfl⟩)
  · refine WP.run (pc' := 13) (L' := [.ref 0, .int x, .int w]) (st' := [.int (-1000001)]) (I1 := I) 2 rfl ?_
    exact WP.ret rfl rfl (⟨by (unfold aClimber qClimber; (repeat rw [nOf_nI (by omega)]); (repeat first | rw [if_pos (by first | assumption | omega | (refine inA_iff.mpr ?_; omega) | (intro q; have q2 := inA_iff.mp q; omega) | (intro q; omega) | (refine ⟨?_, ?_⟩ <;> rw [nI_int (by omega)] <;> omega) | (rw [nI_int (by omega)]; omega) | (intro q; rw [nI_int (by omega)] at q; omega) | (refine ⟨?_, ?_, ?_⟩ <;> omega) | (intro q; obtain ⟨q1, q2, q3⟩ := q; omega) | fail)] | rw [if_neg (by first | assumption | omega | (refine inA_iff.mpr ?_; omega) | (intro q; have q2 := inA_iff.mp q; omega) | (intro q; omega) | (refine ⟨?_, ?_⟩ <;> rw [nI_int (by omega)] <;> omega) | (rw [nI_int (by omega)]; omega) | (intro q; rw [nI_int (by omega)] at q; omega) | (refine ⟨?_, ?_, ?_⟩ <;> omega) | (intro q; obtain ⟨q1, q2, q3⟩ := q; omega) | fail)])) <;> rfl, rfl⟩)
set_option maxRecDepth 100000 in
theorem cs_due {d : Nat} {I : Pl} {N : Nat → Nat} {x : Int32} (hT : Tw I 247 N) (hN : TI N)  : Ev (d + 2) 99 [.ref 0, .int x] (mem I) (some (.int (aDue N x))) (mem I) := by
  obtain ⟨b0, b1, b2, b3, b4, b5, b6, b7, b8, bS, bC, bS1, bC1, bZ, bG⟩ := id hN
  obtain ⟨s6, s7, s64⟩ := hN.set64
  refine Ev.only (EvX.enter rfl rfl rfl ?_)
  refine WP.run (pc' := 7) (L' := [.ref 0, .int x]) (st' := [.int (I 247 0)]) (I1 := I) 3 rfl ?_
  refine WP.cg (st' := [.int (nI (N 8))]) rfl (congrArg (fun z : Int32 => (.int z :: [] : List Value)) (hT.f0)) rfl ?_
  refine WP.run (pc' := if ¬ (nI (N 8)) = 0 then 13 else 10) (L' := [.ref 0, .int x]) (st' := []) (I1 := I) 1 rfl ?_
  refine WP.br (fun h1 => ?_) (fun h1 => ?_)
  · have h1 : ¬ N 8 = 0 := fun q => h1 (nI_eq_r q)
    refine WP.run (pc' := if x < 0 then 23 else 17) (L' := [.ref 0, .int x]) (st' := []) (I1 := I) 2 rfl ?_
    refine WP.br (fun h2 => ?_) (fun h2 => ?_)
    · have h2 : x.toInt < 0 := (iLtZ).mp h2
      refine WP.run (pc' := 25) (L' := [.ref 0, .int x]) (st' := [.int (-1000001)]) (I1 := I) 1 rfl ?_
      exact WP.ret rfl rfl (⟨by (unfold aDue; (repeat rw [nOf_nI (by omega)]); (repeat first | rw [if_pos (by first | assumption | omega | (refine inA_iff.mpr ?_; omega) | (intro q; have q2 := inA_iff.mp q; omega) | (intro q; omega) | (refine ⟨?_, ?_⟩ <;> rw [nI_int (by omega)] <;> omega) | (rw [nI_int (by omega)]; omega) | (intro q; rw [nI_int (by omega)] at q; omega) | (refine ⟨?_, ?_, ?_⟩ <;> omega) | (intro q; obtain ⟨q1, q2, q3⟩ := q; omega) | fail)] | rw [if_neg (by first | assumption | omega | (refine inA_iff.mpr ?_; omega) | (intro q; have q2 := inA_iff.mp q; omega) | (intro q; omega) | (refine ⟨?_, ?_⟩ <;> rw [nI_int (by omega)] <;> omega) | (rw [nI_int (by omega)]; omega) | (intro q; rw [nI_int (by omega)] at q; omega) | (refine ⟨?_, ?_, ?_⟩ <;> omega) | (intro q; obtain ⟨q1, q2, q3⟩ := q; omega) | fail)])) <;> rfl, rfl⟩)
    · have h2 : ¬ (x.toInt < 0) := fun q => h2 ((iLtZ).mpr q)
      refine WP.run (pc' := if x ≤ (nI 99) then 26 else 23) (L' := [.ref 0, .int x]) (st' := []) (I1 := I) 3 rfl ?_
      refine WP.br (fun h3 => ?_) (fun h3 => ?_)
      · have h3 : x.toInt ≤ 99 := (iLeL (n := 99) (by omega)).mp h3
        have hx_j : inA x 100 := (by refine inA_iff.mpr ?_; omega)
        obtain ⟨j, hj, rfl⟩ := inA_of hx_j (by omega)
        refine WP.run (pc' := 31) (L' := [.ref 0, .int (nI j)]) (st' := [.int (nI j), .ref 247]) (I1 := I) 3 rfl ?_
        refine WP.callV (rest := []) rfl rfl (sp_dueIn (d := d) (n := j) hT hN (by omega)) ?_
        exact WP.ret rfl rfl (⟨by (unfold aDue; (repeat rw [nOf_nI (by omega)]); (repeat first | rw [if_pos (by first | assumption | omega | (refine inA_iff.mpr ?_; omega) | (intro q; have q2 := inA_iff.mp q; omega) | (intro q; omega) | (refine ⟨?_, ?_⟩ <;> rw [nI_int (by omega)] <;> omega) | (rw [nI_int (by omega)]; omega) | (intro q; rw [nI_int (by omega)] at q; omega) | (refine ⟨?_, ?_, ?_⟩ <;> omega) | (intro q; obtain ⟨q1, q2, q3⟩ := q; omega) | fail)] | rw [if_neg (by first | assumption | omega | (refine inA_iff.mpr ?_; omega) | (intro q; have q2 := inA_iff.mp q; omega) | (intro q; omega) | (refine ⟨?_, ?_⟩ <;> rw [nI_int (by omega)] <;> omega) | (rw [nI_int (by omega)]; omega) | (intro q; rw [nI_int (by omega)] at q; omega) | (refine ⟨?_, ?_, ?_⟩ <;> omega) | (intro q; obtain ⟨q1, q2, q3⟩ := q; omega) | fail)])) <;> rfl, rfl⟩)
      · have h3 : ¬ (x.toInt ≤ 99) := fun q => h3 ((iLeL (n := 99) (by omega)).mpr q)
        refine WP.run (pc' := 25) (L' := [.ref 0, .int x]) (st' := [.int (-1000001)]) (I1 := I) 1 rfl ?_
        exact WP.ret rfl rfl (⟨by (unfold aDue; (repeat rw [nOf_nI (by omega)]); (repeat first | rw [if_pos (by first | assumption | omega | (refine inA_iff.mpr ?_; omega) | (intro q; have q2 := inA_iff.mp q; omega) | (intro q; omega) | (refine ⟨?_, ?_⟩ <;> rw [nI_int (by omega)] <;> omega) | (rw [nI_int (by omega)]; omega) | (intro q; rw [nI_int (by omega)] at q; omega) | (refine ⟨?_, ?_, ?_⟩ <;> omega) | (intro q; obtain ⟨q1, q2, q3⟩ := q; omega) | fail)] | rw [if_neg (by first | assumption | omega | (refine inA_iff.mpr ?_; omega) | (intro q; have q2 := inA_iff.mp q; omega) | (intro q; omega) | (refine ⟨?_, ?_⟩ <;> rw [nI_int (by omega)] <;> omega) | (rw [nI_int (by omega)]; omega) | (intro q; rw [nI_int (by omega)] at q; omega) | (refine ⟨?_, ?_, ?_⟩ <;> omega) | (intro q; obtain ⟨q1, q2, q3⟩ := q; omega) | fail)])) <;> rfl, rfl⟩)
  · have h1 : N 8 = 0 := nI_eq_ (by omega) (by omega) (Decidable.byContradiction h1)
    refine WP.run (pc' := 12) (L' := [.ref 0, .int x]) (st' := [.int (-1000002)]) (I1 := I) 1 rfl ?_
    exact WP.ret rfl rfl (⟨by (unfold aDue; (repeat rw [nOf_nI (by omega)]); (repeat first | rw [if_pos (by first | assumption | omega | (refine inA_iff.mpr ?_; omega) | (intro q; have q2 := inA_iff.mp q; omega) | (intro q; omega) | (refine ⟨?_, ?_⟩ <;> rw [nI_int (by omega)] <;> omega) | (rw [nI_int (by omega)]; omega) | (intro q; rw [nI_int (by omega)] at q; omega) | (refine ⟨?_, ?_, ?_⟩ <;> omega) | (intro q; obtain ⟨q1, q2, q3⟩ := q; omega) | fail)] | rw [if_neg (by first | assumption | omega | (refine inA_iff.mpr ?_; omega) | (intro q; have q2 := inA_iff.mp q; omega) | (intro q; omega) | (refine ⟨?_, ?_⟩ <;> rw [nI_int (by omega)] <;> omega) | (rw [nI_int (by omega)]; omega) | (intro q; rw [nI_int (by omega)] at q; omega) | (refine ⟨?_, ?_, ?_⟩ <;> omega) | (intro q; obtain ⟨q1, q2, q3⟩ := q; omega) | fail)])) <;> rfl, rfl⟩)
set_option maxRecDepth 100000 in
theorem cs_borne {d : Nat} {I : Pl} {N : Nat → Nat} {x w : Int32} (hT : Tw I 247 N) (hN : TI N)  : Ev (d + 4) 100 [.ref 0, .int x, .int w] (mem I) (some (.int (aBorne N x w))) (mem I) := by
  obtain ⟨b0, b1, b2, b3, b4, b5, b6, b7, b8, bS, bC, bS1, bC1, bZ, bG⟩ := id hN
  obtain ⟨s6, s7, s64⟩ := hN.set64
  refine Ev.only (EvX.enter rfl rfl rfl ?_)
  refine WP.run (pc' := 5) (L' := [.ref 0, .int x, .int w]) (st' := [.int x, .ref 247]) (I1 := I) 3 rfl ?_
  refine WP.callB (rest := []) rfl rfl (sp_isClimber (d := d + 2) (x := x) hT hN) (fun h1 => ?_) (fun h1 => ?_)
  · refine WP.run (pc' := 16) (L' := [.ref 0, .int x, .int w]) (st' := [.int w, .ref 247]) (I1 := I) 4 rfl ?_
    refine WP.callB (rest := []) rfl rfl (sp_isSet (d := d + 2) (x := w) hT hN) (fun h2 => ?_) (fun h2 => ?_)
    · refine WP.run (pc' := 25) (L' := [.ref 0, .int x, .int w]) (st' := []) (I1 := I) 1 rfl ?_
      have hx_j : inA x (N 3) := (by assumption)
      obtain ⟨j, hj, rfl⟩ := inA_of hx_j (by omega)
      have hx_m : inA w (2 ^ N 2) := (by assumption)
      obtain ⟨m, hm, rfl⟩ := inA_of hx_m (by omega)
      have hand := Nat.and_le_left (n := m) (m := N 7)
      refine WP.run (pc' := 33) (L' := [.ref 0, .int (nI j), .int (nI m)]) (st' := [.int (I 247 6), .int (nI m)]) (I1 := I) 4 rfl ?_
      refine WP.cg (st' := [.int (nI (N 7)), .int (nI m)]) rfl (congrArg (fun z : Int32 => (.int z :: [.int (nI m)] : List Value)) (hT.f6)) rfl ?_
      refine WP.run (pc' := 34) (L' := [.ref 0, .int (nI j), .int (nI m)]) (st' := [.int ((nI m) &&& (nI (N 7)))]) (I1 := I) 1 rfl ?_
      refine WP.cg (st' := [.int (nI (m &&& (N 7)))]) rfl (congrArg (fun z : Int32 => (.int z :: [] : List Value)) (nI_and m (N 7))) rfl ?_
      refine WP.run (pc' := if (nI (m &&& (N 7))) = 0 then 40 else 37) (L' := [.ref 0, .int (nI j), .int (nI m)]) (st' := []) (I1 := I) 1 rfl ?_
      refine WP.br (fun h3 => ?_) (fun h3 => ?_)
      · have h3 : m &&& (N 7) = 0 := nI_eq_ (by omega) (by omega) h3
        refine WP.run (pc' := 46) (L' := [.ref 0, .int (nI j), .int (nI m)]) (st' := [.int (nI m), .int (nI j), .ref 247]) (I1 := I) 4 rfl ?_
        refine WP.callB (rest := []) rfl rfl (sp_isBorne (d := d) (c := j) (m := m) hT hN (by omega) (by omega)) (fun h4 => ?_) (fun h4 => ?_)
        · refine WP.run (pc' := 57) (L' := [.ref 0, .int (nI j), .int (nI m)]) (st' := [.int (nI 1)]) (I1 := I) 3 rfl ?_
          exact WP.ret rfl rfl (⟨by (unfold aBorne; (repeat rw [nOf_nI (by omega)]); (repeat first | rw [if_pos (by first | assumption | omega | (refine inA_iff.mpr ?_; omega) | (intro q; have q2 := inA_iff.mp q; omega) | (intro q; omega) | (refine ⟨?_, ?_⟩ <;> rw [nI_int (by omega)] <;> omega) | (rw [nI_int (by omega)]; omega) | (intro q; rw [nI_int (by omega)] at q; omega) | (refine ⟨?_, ?_, ?_⟩ <;> omega) | (intro q; obtain ⟨q1, q2, q3⟩ := q; omega) | fail)] | rw [if_neg (by first | assumption | omega | (refine inA_iff.mpr ?_; omega) | (intro q; have q2 := inA_iff.mp q; omega) | (intro q; omega) | (refine ⟨?_, ?_⟩ <;> rw [nI_int (by omega)] <;> omega) | (rw [nI_int (by omega)]; omega) | (intro q; rw [nI_int (by omega)] at q; omega) | (refine ⟨?_, ?_, ?_⟩ <;> omega) | (intro q; obtain ⟨q1, q2, q3⟩ := q; omega) | fail)])) <;> rfl, rfl⟩)
        · refine WP.run (pc' := 57) (L' := [.ref 0, .int (nI j), .int (nI m)]) (st' := [.int (nI 0)]) (I1 := I) 2 rfl ?_
          exact WP.ret rfl rfl (⟨by (unfold aBorne; (repeat rw [nOf_nI (by omega)]); (repeat first | rw [if_pos (by first | assumption | omega | (refine inA_iff.mpr ?_; omega) | (intro q; have q2 := inA_iff.mp q; omega) | (intro q; omega) | (refine ⟨?_, ?_⟩ <;> rw [nI_int (by omega)] <;> omega) | (rw [nI_int (by omega)]; omega) | (intro q; rw [nI_int (by omega)] at q; omega) | (refine ⟨?_, ?_, ?_⟩ <;> omega) | (intro q; obtain ⟨q1, q2, q3⟩ := q; omega) | fail)] | rw [if_neg (by first | assumption | omega | (refine inA_iff.mpr ?_; omega) | (intro q; have q2 := inA_iff.mp q; omega) | (intro q; omega) | (refine ⟨?_, ?_⟩ <;> rw [nI_int (by omega)] <;> omega) | (rw [nI_int (by omega)]; omega) | (intro q; rw [nI_int (by omega)] at q; omega) | (refine ⟨?_, ?_, ?_⟩ <;> omega) | (intro q; obtain ⟨q1, q2, q3⟩ := q; omega) | fail)])) <;> rfl, rfl⟩)
      · have h3 : ¬ m &&& (N 7) = 0 := fun q => h3 (nI_eq_r q)
        refine WP.run (pc' := 39) (L' := [.ref 0, .int (nI j), .int (nI m)]) (st' := [.int (-1000002)]) (I1 := I) 1 rfl ?_
        exact WP.ret rfl rfl (⟨by (unfold aBorne; (repeat rw [nOf_nI (by omega)]); (repeat first | rw [if_pos (by first | assumption | omega | (refine inA_iff.mpr ?_; omega) | (intro q; have q2 := inA_iff.mp q; omega) | (intro q; omega) | (refine ⟨?_, ?_⟩ <;> rw [nI_int (by omega)] <;> omega) | (rw [nI_int (by omega)]; omega) | (intro q; rw [nI_int (by omega)] at q; omega) | (refine ⟨?_, ?_, ?_⟩ <;> omega) | (intro q; obtain ⟨q1, q2, q3⟩ := q; omega) | fail)] | rw [if_neg (by first | assumption | omega | (refine inA_iff.mpr ?_; omega) | (intro q; have q2 := inA_iff.mp q; omega) | (intro q; omega) | (refine ⟨?_, ?_⟩ <;> rw [nI_int (by omega)] <;> omega) | (rw [nI_int (by omega)]; omega) | (intro q; rw [nI_int (by omega)] at q; omega) | (refine ⟨?_, ?_, ?_⟩ <;> omega) | (intro q; obtain ⟨q1, q2, q3⟩ := q; omega) | fail)])) <;> rfl, rfl⟩)
    · refine WP.run (pc' := 24) (L' := [.ref 0, .int x, .int w]) (st' := [.int (-1000001)]) (I1 := I) 2 rfl ?_
      exact WP.ret rfl rfl (⟨by (unfold aBorne; (repeat rw [nOf_nI (by omega)]); (repeat first | rw [if_pos (by first | assumption | omega | (refine inA_iff.mpr ?_; omega) | (intro q; have q2 := inA_iff.mp q; omega) | (intro q; omega) | (refine ⟨?_, ?_⟩ <;> rw [nI_int (by omega)] <;> omega) | (rw [nI_int (by omega)]; omega) | (intro q; rw [nI_int (by omega)] at q; omega) | (refine ⟨?_, ?_, ?_⟩ <;> omega) | (intro q; obtain ⟨q1, q2, q3⟩ := q; omega) | fail)] | rw [if_neg (by first | assumption | omega | (refine inA_iff.mpr ?_; omega) | (intro q; have q2 := inA_iff.mp q; omega) | (intro q; omega) | (refine ⟨?_, ?_⟩ <;> rw [nI_int (by omega)] <;> omega) | (rw [nI_int (by omega)]; omega) | (intro q; rw [nI_int (by omega)] at q; omega) | (refine ⟨?_, ?_, ?_⟩ <;> omega) | (intro q; obtain ⟨q1, q2, q3⟩ := q; omega) | fail)])) <;> rfl, rfl⟩)
  · refine WP.run (pc' := 24) (L' := [.ref 0, .int x, .int w]) (st' := [.int (-1000001)]) (I1 := I) 2 rfl ?_
    exact WP.ret rfl rfl (⟨by (unfold aBorne; (repeat rw [nOf_nI (by omega)]); (repeat first | rw [if_pos (by first | assumption | omega | (refine inA_iff.mpr ?_; omega) | (intro q; have q2 := inA_iff.mp q; omega) | (intro q; omega) | (refine ⟨?_, ?_⟩ <;> rw [nI_int (by omega)] <;> omega) | (rw [nI_int (by omega)]; omega) | (intro q; rw [nI_int (by omega)] at q; omega) | (refine ⟨?_, ?_, ?_⟩ <;> omega) | (intro q; obtain ⟨q1, q2, q3⟩ := q; omega) | fail)] | rw [if_neg (by first | assumption | omega | (refine inA_iff.mpr ?_; omega) | (intro q; have q2 := inA_iff.mp q; omega) | (intro q; omega) | (refine ⟨?_, ?_⟩ <;> rw [nI_int (by omega)] <;> omega) | (rw [nI_int (by omega)]; omega) | (intro q; rw [nI_int (by omega)] at q; omega) | (refine ⟨?_, ?_, ?_⟩ <;> omega) | (intro q; obtain ⟨q1, q2, q3⟩ := q; omega) | fail)])) <;> rfl, rfl⟩)
set_option maxRecDepth 100000 in
theorem cs_strong {d : Nat} {I : Pl} {N : Nat → Nat} {x : Int32} (hT : Tw I 247 N) (hN : TI N)  : Ev (d + 4) 104 [.ref 0, .int x] (mem I) (some (.int (aStrong N x))) (mem I) := by
  obtain ⟨b0, b1, b2, b3, b4, b5, b6, b7, b8, bS, bC, bS1, bC1, bZ, bG⟩ := id hN
  obtain ⟨s6, s7, s64⟩ := hN.set64
  have hst := (stP_le N 63).1
  have hst2 : stN N < 64 := Nat.lt_succ_of_le hst
  refine Ev.only (EvX.enter rfl rfl rfl ?_)
  refine WP.run (pc' := 7) (L' := [.ref 0, .int x]) (st' := [.int (I 247 0)]) (I1 := I) 3 rfl ?_
  refine WP.cg (st' := [.int (nI (N 8))]) rfl (congrArg (fun z : Int32 => (.int z :: [] : List Value)) (hT.f0)) rfl ?_
  refine WP.run (pc' := if ¬ (nI (N 8)) = 0 then 13 else 10) (L' := [.ref 0, .int x]) (st' := []) (I1 := I) 1 rfl ?_
  refine WP.br (fun h1 => ?_) (fun h1 => ?_)
  · have h1 : ¬ N 8 = 0 := fun q => h1 (nI_eq_r q)
    refine WP.run (pc' := 14) (L' := [.ref 0, .int x]) (st' := [.int x]) (I1 := I) 1 rfl ?_
    by_cases hw : inA x 3
    · obtain ⟨w1, hw1, rfl⟩ := inA_of hw (by decide)
      have hsw : w1 = 0 ∨ w1 = 1 ∨ w1 = 2 := by omega
      rcases hsw with rfl | rfl | rfl
      · refine WP.run (pc' := 40) (L' := [.ref 0, .int (nI 0)]) (st' := []) (I1 := I) 1 rfl ?_
        refine WP.run (pc' := 51) (L' := [.ref 0, .int (nI 0)]) (st' := [.int (I 247 5), .ref 247]) (I1 := I) 5 rfl ?_
        refine WP.cg (st' := [.int (nI (N 6)), .ref 247]) rfl (congrArg (fun z : Int32 => (.int z :: [.ref 247] : List Value)) (hT.f5)) rfl ?_
        refine WP.callV (rest := []) rfl rfl (sp_mostWeight (d := d + 1) (m := N 6) hT hN (by omega)) ?_
        exact WP.ret rfl rfl (⟨by (unfold aStrong; (repeat rw [nOf_nI (by omega)]); (repeat first | rw [if_pos (by first | assumption | omega | (refine inA_iff.mpr ?_; omega) | (intro q; have q2 := inA_iff.mp q; omega) | (intro q; omega) | (refine ⟨?_, ?_⟩ <;> rw [nI_int (by omega)] <;> omega) | (rw [nI_int (by omega)]; omega) | (intro q; rw [nI_int (by omega)] at q; omega) | (refine ⟨?_, ?_, ?_⟩ <;> omega) | (intro q; obtain ⟨q1, q2, q3⟩ := q; omega) | fail)] | rw [if_neg (by first | assumption | omega | (refine inA_iff.mpr ?_; omega) | (intro q; have q2 := inA_iff.mp q; omega) | (intro q; omega) | (refine ⟨?_, ?_⟩ <;> rw [nI_int (by omega)] <;> omega) | (rw [nI_int (by omega)]; omega) | (intro q; rw [nI_int (by omega)] at q; omega) | (refine ⟨?_, ?_, ?_⟩ <;> omega) | (intro q; obtain ⟨q1, q2, q3⟩ := q; omega) | fail)])) <;> rfl, rfl⟩)
      · refine WP.run (pc' := 55) (L' := [.ref 0, .int (nI 1)]) (st' := []) (I1 := I) 1 rfl ?_
        refine WP.run (pc' := 59) (L' := [.ref 0, .int (nI 1)]) (st' := [.ref 247]) (I1 := I) 2 rfl ?_
        refine WP.callV (rest := []) rfl rfl (sp_stoutest (d := d) hT hN) ?_
        exact WP.ret rfl rfl (⟨by (unfold aStrong; (repeat rw [nOf_nI (by omega)]); (repeat first | rw [if_pos (by first | assumption | omega | (refine inA_iff.mpr ?_; omega) | (intro q; have q2 := inA_iff.mp q; omega) | (intro q; omega) | (refine ⟨?_, ?_⟩ <;> rw [nI_int (by omega)] <;> omega) | (rw [nI_int (by omega)]; omega) | (intro q; rw [nI_int (by omega)] at q; omega) | (refine ⟨?_, ?_, ?_⟩ <;> omega) | (intro q; obtain ⟨q1, q2, q3⟩ := q; omega) | fail)] | rw [if_neg (by first | assumption | omega | (refine inA_iff.mpr ?_; omega) | (intro q; have q2 := inA_iff.mp q; omega) | (intro q; omega) | (refine ⟨?_, ?_⟩ <;> rw [nI_int (by omega)] <;> omega) | (rw [nI_int (by omega)]; omega) | (intro q; rw [nI_int (by omega)] at q; omega) | (refine ⟨?_, ?_, ?_⟩ <;> omega) | (intro q; obtain ⟨q1, q2, q3⟩ := q; omega) | fail)])) <;> rfl, rfl⟩)
      · refine WP.run (pc' := 63) (L' := [.ref 0, .int (nI 2)]) (st' := []) (I1 := I) 1 rfl ?_
        refine WP.run (pc' := 71) (L' := [.ref 0, .int (nI 2)]) (st' := [.ref 247, .ref 247]) (I1 := I) 4 rfl ?_
        refine WP.callV (rest := [.ref 247]) rfl rfl (sp_stoutest (d := d) hT hN) ?_
        refine WP.callV (rest := []) rfl rfl (sp_mostWeight (d := d + 1) (m := stN N) hT hN (by omega)) ?_
        exact WP.ret rfl rfl (⟨by (unfold aStrong; (repeat rw [nOf_nI (by omega)]); (repeat first | rw [if_pos (by first | assumption | omega | (refine inA_iff.mpr ?_; omega) | (intro q; have q2 := inA_iff.mp q; omega) | (intro q; omega) | (refine ⟨?_, ?_⟩ <;> rw [nI_int (by omega)] <;> omega) | (rw [nI_int (by omega)]; omega) | (intro q; rw [nI_int (by omega)] at q; omega) | (refine ⟨?_, ?_, ?_⟩ <;> omega) | (intro q; obtain ⟨q1, q2, q3⟩ := q; omega) | fail)] | rw [if_neg (by first | assumption | omega | (refine inA_iff.mpr ?_; omega) | (intro q; have q2 := inA_iff.mp q; omega) | (intro q; omega) | (refine ⟨?_, ?_⟩ <;> rw [nI_int (by omega)] <;> omega) | (rw [nI_int (by omega)]; omega) | (intro q; rw [nI_int (by omega)] at q; omega) | (refine ⟨?_, ?_, ?_⟩ <;> omega) | (intro q; obtain ⟨q1, q2, q3⟩ := q; omega) | fail)])) <;> rfl, rfl⟩)
    · refine WP.swD (pc' := 78) rfl (notA hw) rfl ?_
      refine WP.run (pc' := 80) (L' := [.ref 0, .int x]) (st' := [.int (-1000001)]) (I1 := I) 1 rfl ?_
      exact WP.ret rfl rfl (⟨by (unfold aStrong; (repeat rw [nOf_nI (by omega)]); (repeat first | rw [if_pos (by first | assumption | omega | (refine inA_iff.mpr ?_; omega) | (intro q; have q2 := inA_iff.mp q; omega) | (intro q; omega) | (refine ⟨?_, ?_⟩ <;> rw [nI_int (by omega)] <;> omega) | (rw [nI_int (by omega)]; omega) | (intro q; rw [nI_int (by omega)] at q; omega) | (refine ⟨?_, ?_, ?_⟩ <;> omega) | (intro q; obtain ⟨q1, q2, q3⟩ := q; omega) | fail)] | rw [if_neg (by first | assumption | omega | (refine inA_iff.mpr ?_; omega) | (intro q; have q2 := inA_iff.mp q; omega) | (intro q; omega) | (refine ⟨?_, ?_⟩ <;> rw [nI_int (by omega)] <;> omega) | (rw [nI_int (by omega)]; omega) | (intro q; rw [nI_int (by omega)] at q; omega) | (refine ⟨?_, ?_, ?_⟩ <;> omega) | (intro q; obtain ⟨q1, q2, q3⟩ := q; omega) | fail)])) <;> rfl, rfl⟩)
  · have h1 : N 8 = 0 := nI_eq_ (by omega) (by omega) (Decidable.byContradiction h1)
    refine WP.run (pc' := 12) (L' := [.ref 0, .int x]) (st' := [.int (-1000002)]) (I1 := I) 1 rfl ?_
    exact WP.ret rfl rfl (⟨by (unfold aStrong; (repeat rw [nOf_nI (by omega)]); (repeat first | rw [if_pos (by first | assumption | omega | (refine inA_iff.mpr ?_; omega) | (intro q; have q2 := inA_iff.mp q; omega) | (intro q; omega) | (refine ⟨?_, ?_⟩ <;> rw [nI_int (by omega)] <;> omega) | (rw [nI_int (by omega)]; omega) | (intro q; rw [nI_int (by omega)] at q; omega) | (refine ⟨?_, ?_, ?_⟩ <;> omega) | (intro q; obtain ⟨q1, q2, q3⟩ := q; omega) | fail)] | rw [if_neg (by first | assumption | omega | (refine inA_iff.mpr ?_; omega) | (intro q; have q2 := inA_iff.mp q; omega) | (intro q; omega) | (refine ⟨?_, ?_⟩ <;> rw [nI_int (by omega)] <;> omega) | (rw [nI_int (by omega)]; omega) | (intro q; rw [nI_int (by omega)] at q; omega) | (refine ⟨?_, ?_, ?_⟩ <;> omega) | (intro q; obtain ⟨q1, q2, q3⟩ := q; omega) | fail)])) <;> rfl, rfl⟩)
set_option maxRecDepth 100000 in
theorem cs_comes {d : Nat} {I : Pl} {N : Nat → Nat} {x n : Int32} (hT : Tw I 247 N) (hN : TI N)  : Ev (d + 3) 106 [.ref 0, .int x, .int n] (mem I) (some (.int (aComes N x n))) (mem I) := by
  obtain ⟨b0, b1, b2, b3, b4, b5, b6, b7, b8, bS, bC, bS1, bC1, bZ, bG⟩ := id hN
  obtain ⟨s6, s7, s64⟩ := hN.set64
  refine Ev.only (EvX.enter rfl rfl rfl ?_)
  refine WP.run (pc' := 5) (L' := [.ref 0, .int x, .int n]) (st' := [.int x, .ref 247]) (I1 := I) 3 rfl ?_
  refine WP.callB (rest := []) rfl rfl (sp_isClimber (d := d + 1) (x := x) hT hN) (fun h1 => ?_) (fun h1 => ?_)
  · refine WP.run (pc' := 11) (L' := [.ref 0, .int x, .int n]) (st' := []) (I1 := I) 1 rfl ?_
    have hx_j : inA x (N 3) := (by assumption)
    obtain ⟨j, hj, rfl⟩ := inA_of hx_j (by omega)
    refine WP.run (pc' := if n < (nI 1) then 22 else 16) (L' := [.ref 0, .int (nI j), .int n]) (st' := []) (I1 := I) 3 rfl ?_
    refine WP.br (fun h2 => ?_) (fun h2 => ?_)
    · have h2 : n.toInt < 1 := (iLtL (n := 1) (by omega)).mp h2
      refine WP.run (pc' := 24) (L' := [.ref 0, .int (nI j), .int n]) (st' := [.int (-1000001)]) (I1 := I) 1 rfl ?_
      exact WP.ret rfl rfl (⟨by (unfold aComes; (repeat rw [nOf_nI (by omega)]); (repeat first | rw [if_pos (by first | assumption | omega | (refine inA_iff.mpr ?_; omega) | (intro q; have q2 := inA_iff.mp q; omega) | (intro q; omega) | (refine ⟨?_, ?_⟩ <;> rw [nI_int (by omega)] <;> omega) | (rw [nI_int (by omega)]; omega) | (intro q; rw [nI_int (by omega)] at q; omega) | (refine ⟨?_, ?_, ?_⟩ <;> omega) | (intro q; obtain ⟨q1, q2, q3⟩ := q; omega) | fail)] | rw [if_neg (by first | assumption | omega | (refine inA_iff.mpr ?_; omega) | (intro q; have q2 := inA_iff.mp q; omega) | (intro q; omega) | (refine ⟨?_, ?_⟩ <;> rw [nI_int (by omega)] <;> omega) | (rw [nI_int (by omega)]; omega) | (intro q; rw [nI_int (by omega)] at q; omega) | (refine ⟨?_, ?_, ?_⟩ <;> omega) | (intro q; obtain ⟨q1, q2, q3⟩ := q; omega) | fail)])) <;> rfl, rfl⟩)
    · have h2 : ¬ (n.toInt < 1) := fun q => h2 ((iLtL (n := 1) (by omega)).mpr q)
      refine WP.run (pc' := if n ≤ (nI 20) then 25 else 22) (L' := [.ref 0, .int (nI j), .int n]) (st' := []) (I1 := I) 3 rfl ?_
      refine WP.br (fun h3 => ?_) (fun h3 => ?_)
      · have h3 : n.toInt ≤ 20 := (iLeL (n := 20) (by omega)).mp h3
        have hx_m : inA n 21 := (by refine inA_iff.mpr ?_; omega)
        obtain ⟨m, hm, rfl⟩ := inA_of hx_m (by omega)
        rw [nI_int (by omega)] at *
        refine WP.run (pc' := 31) (L' := [.ref 0, .int (nI j), .int (nI m)]) (st' := [.int (nI m), .int (nI j), .ref 247]) (I1 := I) 4 rfl ?_
        refine WP.callV (rest := []) rfl rfl (sp_dayOfComing (d := d) (c := j) (n := m) hT hN (by omega) (by omega) (by omega)) ?_
        exact WP.ret rfl rfl (⟨by (unfold aComes; (repeat rw [nOf_nI (by omega)]); (repeat first | rw [if_pos (by first | assumption | omega | (refine inA_iff.mpr ?_; omega) | (intro q; have q2 := inA_iff.mp q; omega) | (intro q; omega) | (refine ⟨?_, ?_⟩ <;> rw [nI_int (by omega)] <;> omega) | (rw [nI_int (by omega)]; omega) | (intro q; rw [nI_int (by omega)] at q; omega) | (refine ⟨?_, ?_, ?_⟩ <;> omega) | (intro q; obtain ⟨q1, q2, q3⟩ := q; omega) | fail)] | rw [if_neg (by first | assumption | omega | (refine inA_iff.mpr ?_; omega) | (intro q; have q2 := inA_iff.mp q; omega) | (intro q; omega) | (refine ⟨?_, ?_⟩ <;> rw [nI_int (by omega)] <;> omega) | (rw [nI_int (by omega)]; omega) | (intro q; rw [nI_int (by omega)] at q; omega) | (refine ⟨?_, ?_, ?_⟩ <;> omega) | (intro q; obtain ⟨q1, q2, q3⟩ := q; omega) | fail)])) <;> rfl, rfl⟩)
      · have h3 : ¬ (n.toInt ≤ 20) := fun q => h3 ((iLeL (n := 20) (by omega)).mpr q)
        refine WP.run (pc' := 24) (L' := [.ref 0, .int (nI j), .int n]) (st' := [.int (-1000001)]) (I1 := I) 1 rfl ?_
        exact WP.ret rfl rfl (⟨by (unfold aComes; (repeat rw [nOf_nI (by omega)]); (repeat first | rw [if_pos (by first | assumption | omega | (refine inA_iff.mpr ?_; omega) | (intro q; have q2 := inA_iff.mp q; omega) | (intro q; omega) | (refine ⟨?_, ?_⟩ <;> rw [nI_int (by omega)] <;> omega) | (rw [nI_int (by omega)]; omega) | (intro q; rw [nI_int (by omega)] at q; omega) | (refine ⟨?_, ?_, ?_⟩ <;> omega) | (intro q; obtain ⟨q1, q2, q3⟩ := q; omega) | fail)] | rw [if_neg (by first | assumption | omega | (refine inA_iff.mpr ?_; omega) | (intro q; have q2 := inA_iff.mp q; omega) | (intro q; omega) | (refine ⟨?_, ?_⟩ <;> rw [nI_int (by omega)] <;> omega) | (rw [nI_int (by omega)]; omega) | (intro q; rw [nI_int (by omega)] at q; omega) | (refine ⟨?_, ?_, ?_⟩ <;> omega) | (intro q; obtain ⟨q1, q2, q3⟩ := q; omega) | fail)])) <;> rfl, rfl⟩)
  · refine WP.run (pc' := 24) (L' := [.ref 0, .int x, .int n]) (st' := [.int (-1000001)]) (I1 := I) 2 rfl ?_
    exact WP.ret rfl rfl (⟨by (unfold aComes; (repeat rw [nOf_nI (by omega)]); (repeat first | rw [if_pos (by first | assumption | omega | (refine inA_iff.mpr ?_; omega) | (intro q; have q2 := inA_iff.mp q; omega) | (intro q; omega) | (refine ⟨?_, ?_⟩ <;> rw [nI_int (by omega)] <;> omega) | (rw [nI_int (by omega)]; omega) | (intro q; rw [nI_int (by omega)] at q; omega) | (refine ⟨?_, ?_, ?_⟩ <;> omega) | (intro q; obtain ⟨q1, q2, q3⟩ := q; omega) | fail)] | rw [if_neg (by first | assumption | omega | (refine inA_iff.mpr ?_; omega) | (intro q; have q2 := inA_iff.mp q; omega) | (intro q; omega) | (refine ⟨?_, ?_⟩ <;> rw [nI_int (by omega)] <;> omega) | (rw [nI_int (by omega)]; omega) | (intro q; rw [nI_int (by omega)] at q; omega) | (refine ⟨?_, ?_, ?_⟩ <;> omega) | (intro q; obtain ⟨q1, q2, q3⟩ := q; omega) | fail)])) <;> rfl, rfl⟩)
set_option maxRecDepth 100000 in
theorem cs_climbed {d : Nat} {I : Pl} {N : Nat → Nat} {x : Int32} (hT : Tw I 247 N) (hN : TI N)  : Ev (d + 4) 108 [.ref 0, .int x] (mem I) (some (.int (aClimbed N x))) (mem I) := by
  obtain ⟨b0, b1, b2, b3, b4, b5, b6, b7, b8, bS, bC, bS1, bC1, bZ, bG⟩ := id hN
  obtain ⟨s6, s7, s64⟩ := hN.set64
  refine Ev.only (EvX.enter rfl rfl rfl ?_)
  refine WP.run (pc' := 7) (L' := [.ref 0, .int x]) (st' := [.int (I 247 0)]) (I1 := I) 3 rfl ?_
  refine WP.cg (st' := [.int (nI (N 8))]) rfl (congrArg (fun z : Int32 => (.int z :: [] : List Value)) (hT.f0)) rfl ?_
  refine WP.run (pc' := if ¬ (nI (N 8)) = 0 then 13 else 10) (L' := [.ref 0, .int x]) (st' := []) (I1 := I) 1 rfl ?_
  refine WP.br (fun h1 => ?_) (fun h1 => ?_)
  · have h1 : ¬ N 8 = 0 := fun q => h1 (nI_eq_r q)
    refine WP.run (pc' := 14) (L' := [.ref 0, .int x]) (st' := [.int x]) (I1 := I) 1 rfl ?_
    refine WP.callB (rest := []) rfl rfl (sp_isStrain (d := d + 2) (x := x)) (fun h2 => ?_) (fun h2 => ?_)
    · refine WP.run (pc' := 23) (L' := [.ref 0, .int x]) (st' := []) (I1 := I) 1 rfl ?_
      have hx_j : inA x 100 := (by assumption)
      obtain ⟨j, hj, rfl⟩ := inA_of hx_j (by omega)
      refine WP.run (pc' := 34) (L' := [.ref 0, .int (nI j)]) (st' := [.int (I 247 5), .ref 247]) (I1 := I) 5 rfl ?_
      refine WP.cg (st' := [.int (nI (N 6)), .ref 247]) rfl (congrArg (fun z : Int32 => (.int z :: [.ref 247] : List Value)) (hT.f5)) rfl ?_
      refine WP.run (pc' := 35) (L' := [.ref 0, .int (nI j)]) (st' := [.int (nI j), .int (nI (N 6)), .ref 247]) (I1 := I) 1 rfl ?_
      refine WP.callV (rest := []) rfl rfl (sp_whoStrain (d := d) (m := N 6) (x := j) hT hN (by omega) (by omega)) ?_
      exact WP.ret rfl rfl (⟨by (unfold aClimbed; (repeat rw [nOf_nI (by omega)]); (repeat first | rw [if_pos (by first | assumption | omega | (refine inA_iff.mpr ?_; omega) | (intro q; have q2 := inA_iff.mp q; omega) | (intro q; omega) | (refine ⟨?_, ?_⟩ <;> rw [nI_int (by omega)] <;> omega) | (rw [nI_int (by omega)]; omega) | (intro q; rw [nI_int (by omega)] at q; omega) | (refine ⟨?_, ?_, ?_⟩ <;> omega) | (intro q; obtain ⟨q1, q2, q3⟩ := q; omega) | fail)] | rw [if_neg (by first | assumption | omega | (refine inA_iff.mpr ?_; omega) | (intro q; have q2 := inA_iff.mp q; omega) | (intro q; omega) | (refine ⟨?_, ?_⟩ <;> rw [nI_int (by omega)] <;> omega) | (rw [nI_int (by omega)]; omega) | (intro q; rw [nI_int (by omega)] at q; omega) | (refine ⟨?_, ?_, ?_⟩ <;> omega) | (intro q; obtain ⟨q1, q2, q3⟩ := q; omega) | fail)])) <;> rfl, rfl⟩)
    · refine WP.run (pc' := 22) (L' := [.ref 0, .int x]) (st' := [.int (-1000001)]) (I1 := I) 2 rfl ?_
      exact WP.ret rfl rfl (⟨by (unfold aClimbed; (repeat rw [nOf_nI (by omega)]); (repeat first | rw [if_pos (by first | assumption | omega | (refine inA_iff.mpr ?_; omega) | (intro q; have q2 := inA_iff.mp q; omega) | (intro q; omega) | (refine ⟨?_, ?_⟩ <;> rw [nI_int (by omega)] <;> omega) | (rw [nI_int (by omega)]; omega) | (intro q; rw [nI_int (by omega)] at q; omega) | (refine ⟨?_, ?_, ?_⟩ <;> omega) | (intro q; obtain ⟨q1, q2, q3⟩ := q; omega) | fail)] | rw [if_neg (by first | assumption | omega | (refine inA_iff.mpr ?_; omega) | (intro q; have q2 := inA_iff.mp q; omega) | (intro q; omega) | (refine ⟨?_, ?_⟩ <;> rw [nI_int (by omega)] <;> omega) | (rw [nI_int (by omega)]; omega) | (intro q; rw [nI_int (by omega)] at q; omega) | (refine ⟨?_, ?_, ?_⟩ <;> omega) | (intro q; obtain ⟨q1, q2, q3⟩ := q; omega) | fail)])) <;> rfl, rfl⟩)
  · have h1 : N 8 = 0 := nI_eq_ (by omega) (by omega) (Decidable.byContradiction h1)
    refine WP.run (pc' := 12) (L' := [.ref 0, .int x]) (st' := [.int (-1000002)]) (I1 := I) 1 rfl ?_
    exact WP.ret rfl rfl (⟨by (unfold aClimbed; (repeat rw [nOf_nI (by omega)]); (repeat first | rw [if_pos (by first | assumption | omega | (refine inA_iff.mpr ?_; omega) | (intro q; have q2 := inA_iff.mp q; omega) | (intro q; omega) | (refine ⟨?_, ?_⟩ <;> rw [nI_int (by omega)] <;> omega) | (rw [nI_int (by omega)]; omega) | (intro q; rw [nI_int (by omega)] at q; omega) | (refine ⟨?_, ?_, ?_⟩ <;> omega) | (intro q; obtain ⟨q1, q2, q3⟩ := q; omega) | fail)] | rw [if_neg (by first | assumption | omega | (refine inA_iff.mpr ?_; omega) | (intro q; have q2 := inA_iff.mp q; omega) | (intro q; omega) | (refine ⟨?_, ?_⟩ <;> rw [nI_int (by omega)] <;> omega) | (rw [nI_int (by omega)]; omega) | (intro q; rw [nI_int (by omega)] at q; omega) | (refine ⟨?_, ?_, ?_⟩ <;> omega) | (intro q; obtain ⟨q1, q2, q3⟩ := q; omega) | fail)])) <;> rfl, rfl⟩)
set_option maxRecDepth 100000 in
theorem cs_kind {d : Nat} {I : Pl} {N : Nat → Nat} {x : Int32} (hT : Tw I 247 N) (hN : TI N)  : Ev (d + 2) 116 [.ref 0, .int x] (mem I) (some (.int (aKind N x))) (mem I) := by
  obtain ⟨b0, b1, b2, b3, b4, b5, b6, b7, b8, bS, bC, bS1, bC1, bZ, bG⟩ := id hN
  obtain ⟨s6, s7, s64⟩ := hN.set64
  refine Ev.only (EvX.enter rfl rfl rfl ?_)
  refine WP.run (pc' := 5) (L' := [.ref 0, .int x]) (st' := [.int x, .ref 247]) (I1 := I) 3 rfl ?_
  refine WP.callB (rest := []) rfl rfl (sp_isStrand (d := d) (x := x) hT hN) (fun h1 => ?_) (fun h1 => ?_)
  · refine WP.run (pc' := 11) (L' := [.ref 0, .int x]) (st' := []) (I1 := I) 1 rfl ?_
    have hx_j : inA x (N 2) := (by assumption)
    obtain ⟨j, hj, rfl⟩ := inA_of hx_j (by omega)
    refine WP.run (pc' := 19) (L' := [.ref 0, .int (nI j)]) (st' := [.int (nI j), .ref 248]) (I1 := I) 4 rfl ?_
    refine WP.iald rfl rfl rfl (by omega) (by decide) ?_
    refine WP.cg (st' := [.int (nI (N (9 + j)))]) rfl (congrArg (fun z : Int32 => (.int z :: [] : List Value)) (hT.a1 (k := j) (by omega))) rfl ?_
    refine WP.run (pc' := 25) (L' := [.ref 0, .int (nI j)]) (st' := [.int (nI (N (9 + j)))]) (I1 := I) 1 rfl ?_
    exact WP.ret rfl rfl (⟨by (unfold aKind; (repeat rw [nOf_nI (by omega)]); (repeat first | rw [if_pos (by first | assumption | omega | (refine inA_iff.mpr ?_; omega) | (intro q; have q2 := inA_iff.mp q; omega) | (intro q; omega) | (refine ⟨?_, ?_⟩ <;> rw [nI_int (by omega)] <;> omega) | (rw [nI_int (by omega)]; omega) | (intro q; rw [nI_int (by omega)] at q; omega) | (refine ⟨?_, ?_, ?_⟩ <;> omega) | (intro q; obtain ⟨q1, q2, q3⟩ := q; omega) | fail)] | rw [if_neg (by first | assumption | omega | (refine inA_iff.mpr ?_; omega) | (intro q; have q2 := inA_iff.mp q; omega) | (intro q; omega) | (refine ⟨?_, ?_⟩ <;> rw [nI_int (by omega)] <;> omega) | (rw [nI_int (by omega)]; omega) | (intro q; rw [nI_int (by omega)] at q; omega) | (refine ⟨?_, ?_, ?_⟩ <;> omega) | (intro q; obtain ⟨q1, q2, q3⟩ := q; omega) | fail)])) <;> rfl, rfl⟩)
  · refine WP.run (pc' := 25) (L' := [.ref 0, .int x]) (st' := [.int (-1000001)]) (I1 := I) 2 rfl ?_
    exact WP.ret rfl rfl (⟨by (unfold aKind; (repeat rw [nOf_nI (by omega)]); (repeat first | rw [if_pos (by first | assumption | omega | (refine inA_iff.mpr ?_; omega) | (intro q; have q2 := inA_iff.mp q; omega) | (intro q; omega) | (refine ⟨?_, ?_⟩ <;> rw [nI_int (by omega)] <;> omega) | (rw [nI_int (by omega)]; omega) | (intro q; rw [nI_int (by omega)] at q; omega) | (refine ⟨?_, ?_, ?_⟩ <;> omega) | (intro q; obtain ⟨q1, q2, q3⟩ := q; omega) | fail)] | rw [if_neg (by first | assumption | omega | (refine inA_iff.mpr ?_; omega) | (intro q; have q2 := inA_iff.mp q; omega) | (intro q; omega) | (refine ⟨?_, ?_⟩ <;> rw [nI_int (by omega)] <;> omega) | (rw [nI_int (by omega)]; omega) | (intro q; rw [nI_int (by omega)] at q; omega) | (refine ⟨?_, ?_, ?_⟩ <;> omega) | (intro q; obtain ⟨q1, q2, q3⟩ := q; omega) | fail)])) <;> rfl, rfl⟩)
