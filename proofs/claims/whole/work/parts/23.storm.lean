/-! storms -/
theorem sdf_pop : ∀ a, a < 64 → ∀ b, b < 64 → sdf a b = 0 → popc a ≤ popc b := by decide +kernel
/-- the parts by which the climber c is borne, in the sets 1 .. k -/
def stoP (N : Nat → Nat) (c p : Nat) : Nat → Nat
  | 0 => 0
  | k + 1 => if sdf (k + 1) (N 6) = 0 ∧ bornN N (N (27 + c)) (k + 1) = true then stoP N c p k + (10 - p) ^ popc (k + 1) * p ^ (popc (N 6) - popc (k + 1)) else stoP N c p k
def stoN (N : Nat → Nat) (c p : Nat) : Nat := stoP N c p 63
theorem stoP_le {N : Nat → Nat} {c p : Nat} (hp : p ≤ 10) (h6 : N 6 < 64) : ∀ k, k ≤ 63 → stoP N c p k ≤ k * 1000000 := by
  intro k
  induction k with
  | zero => intro _; exact Nat.le_refl _
  | succ k ih =>
    intro hk
    have h := ih (by omega)
    unfold stoP
    split
    · rename_i hq
      have h1 := sdf_pop (k + 1) (by omega) (N 6) h6 hq.1
      have h2 := popc_le (N 6)
      have h3 : (10 - p) ^ popc (k + 1) ≤ 10 ^ popc (k + 1) := Nat.pow_le_pow_left (by omega) _
      have h4 : p ^ (popc (N 6) - popc (k + 1)) ≤ 10 ^ (popc (N 6) - popc (k + 1)) := Nat.pow_le_pow_left hp _
      have h5 := Nat.mul_le_mul h3 h4
      rw [← Nat.pow_add] at h5
      have h7 : 10 ^ (popc (k + 1) + (popc (N 6) - popc (k + 1))) ≤ 10 ^ 6 := Nat.pow_le_pow_right (by decide) (by omega)
      have h8 := Nat.le_trans h5 (Nat.le_trans h7 (show (10 : Nat) ^ 6 ≤ 1000000 by decide))
      clear h3 h4 h5 h7
      rw [Nat.succ_mul]
      exact Nat.add_le_add h h8
    · exact Nat.le_trans h (Nat.mul_le_mul_right _ (Nat.le_succ k))
/-- the steps of Euclid -/
def gcS (a b : Nat) : Nat → Nat × Nat
  | 0 => (a, b)
  | k + 1 => if (gcS a b k).2 = 0 then gcS a b k else ((gcS a b k).2, (gcS a b k).1 % (gcS a b k).2)
theorem gcS_e {a b k : Nat} : gcS a b (k + 1) = if (gcS a b k).2 = 0 then gcS a b k else ((gcS a b k).2, (gcS a b k).1 % (gcS a b k).2) := rfl
theorem gcS_gcd (a b : Nat) : ∀ k, Nat.gcd (gcS a b k).1 (gcS a b k).2 = Nat.gcd a b := by
  intro k
  induction k with
  | zero => rfl
  | succ k ih =>
    rw [gcS_e]
    split
    · exact ih
    · show Nat.gcd (gcS a b k).2 ((gcS a b k).1 % (gcS a b k).2) = _
      rw [Nat.gcd_comm, ← Nat.gcd_rec, Nat.gcd_comm]
      exact ih
theorem gcS_lt {a b m : Nat} (ha : a < m) (hb : b < m) : ∀ k, (gcS a b k).1 < m ∧ (gcS a b k).2 < m := by
  intro k
  induction k with
  | zero => exact ⟨ha, hb⟩
  | succ k ih =>
    rw [gcS_e]
    split
    · exact ih
    · rename_i h
      exact ⟨ih.2, Nat.lt_trans (Nat.mod_lt _ (by omega)) ih.2⟩
theorem gcS_stay {a b k : Nat} (h : (gcS a b k).2 = 0) : ∀ j, gcS a b (k + j) = gcS a b k := by
  intro j
  induction j with
  | zero => rfl
  | succ j ih => rw [show k + (j + 1) = (k + j) + 1 from rfl, gcS_e, ih, if_pos h]
theorem gcS_two {a b k : Nat} (h : ¬ (gcS a b k).2 = 0) : (gcS a b (k + 2)).2 * 2 ≤ (gcS a b k).2 := by
  rw [gcS_e (k := k + 1)]
  have e : gcS a b (k + 1) = ((gcS a b k).2, (gcS a b k).1 % (gcS a b k).2) := by rw [gcS_e, if_neg h]
  rw [e]
  dsimp only
  split
  · rename_i h2
    rw [h2]
    omega
  · rename_i h2
    dsimp only
    have h3 : (gcS a b k).1 % (gcS a b k).2 < (gcS a b k).2 := Nat.mod_lt _ (by omega)
    generalize (gcS a b k).1 % (gcS a b k).2 = r at *
    generalize (gcS a b k).2 = q at *
    have h4 := Nat.mod_lt q (show r > 0 by omega)
    have h5 := Nat.div_add_mod q r
    have h6 : 1 ≤ q / r := (Nat.le_div_iff_mul_le (by omega)).mpr (by omega)
    have h7 : r * 1 ≤ r * (q / r) := Nat.mul_le_mul_left r h6
    omega
theorem gcS_half {a b : Nat} : ∀ j, (gcS a b (2 * j)).2 * 2 ^ j ≤ b := by
  intro j
  induction j with
  | zero => show b * 1 ≤ b; omega
  | succ j ih =>
    by_cases h : (gcS a b (2 * j)).2 = 0
    · have := gcS_stay h 2
      rw [show 2 * (j + 1) = 2 * j + 2 by omega, this, h]
      omega
    · have h2 := gcS_two h
      rw [show 2 * (j + 1) = 2 * j + 2 by omega, Nat.pow_succ]
      have h3 := Nat.mul_le_mul_right (2 ^ j) h2
      have h4 : (gcS a b (2 * j + 2)).2 * (2 ^ j * 2) = (gcS a b (2 * j + 2)).2 * 2 * 2 ^ j := by
        rw [Nat.mul_assoc, Nat.mul_comm 2 (2 ^ j)]
      omega
theorem gcS_end {a b : Nat} (hb : b < 2 ^ 31) : (gcS a b 100).1 = Nat.gcd a b ∧ (gcS a b 100).2 = 0 := by
  have h := gcS_half (a := a) (b := b) 50
  have hz : (gcS a b 100).2 = 0 := by
    rcases Nat.eq_zero_or_pos (gcS a b 100).2 with q | q
    · exact q
    · have h1 : 1 * 2 ^ 50 ≤ (gcS a b (2 * 50)).2 * 2 ^ 50 := Nat.mul_le_mul_right _ q
      have h2 : (2 : Nat) ^ 31 < 1 * 2 ^ 50 := by decide
      omega
  have h2 := gcS_gcd a b 100
  rw [hz, Nat.gcd_zero_right] at h2
  exact ⟨h2, hz⟩
theorem gcS_hun {a b k : Nat} (hk : k ≤ 100) (h : (gcS a b k).2 = 0) : gcS a b 100 = gcS a b k := by
  have := gcS_stay h (100 - k)
  rw [show k + (100 - k) = 100 by omega] at this
  exact this
set_option maxRecDepth 100000 in
theorem lp_storm {d : Nat} {I : Pl} {c p : Nat} {N : Nat → Nat} (hT : Tw I 247 N) (hN : TI N) (hc : c < N 3) (hp : p ≤ 10) : ∀ k, k ≤ 63 → ∀ y : Value, WP (d + 3) (78, 5, (some .int), sc0) 14 ([.ref 247, .int (nI c), .int (nI p), .int (nI (popc (N 6))), .int (nI (stoP N c p k)), .int (nI (k + 1)), y]) [] I (fun v J => v = some (.int (nI (stoN N c p))) ∧ J = I) := by
  refine loopUp (fun k hk ih => ?_)
  intro y
  obtain ⟨b0, b1, b2, b3, b4, b5, b6, b7, b8, bS, bC, bS1, bC1, bZ, bG⟩ := id hN
  obtain ⟨s6, s7, s64⟩ := hN.set64
  have hsd := sdf_le (k + 1) (N 6)
  refine WP.run (pc' := if (nI 64) ≤ (nI (k + 1)) then 79 else 21) (L' := [.ref 247, .int (nI c), .int (nI p), .int (nI (popc (N 6))), .int (nI (stoP N c p k)), .int (nI (k + 1)), y]) (st' := []) (I1 := I) 3 rfl ?_
  refine WP.br (fun h1 => ?_) (fun h1 => ?_)
  · have h1 : 64 ≤ k + 1 := nI_le_ (by omega) (by omega) h1
    refine WP.run (pc' := 81) (L' := [.ref 247, .int (nI c), .int (nI p), .int (nI (popc (N 6))), .int (nI (stoP N c p k)), .int (nI (k + 1)), y]) (st' := [.int (nI (stoP N c p k))]) (I1 := I) 1 rfl ?_
    exact WP.ret rfl rfl (⟨by rw [show k = 63 by omega]; rfl, rfl⟩)
  · have h1 : ¬ 64 ≤ k + 1 := fun q => h1 (nI_le_r (by omega) q)
    refine WP.run (pc' := 27) (L' := [.ref 247, .int (nI c), .int (nI p), .int (nI (popc (N 6))), .int (nI (stoP N c p k)), .int (nI (k + 1)), y]) (st' := [.int (I 247 5), .int (nI (k + 1))]) (I1 := I) 3 rfl ?_
    refine WP.cg (st' := [.int (nI (N 6)), .int (nI (k + 1))]) rfl (congrArg (fun z : Int32 => (.int z :: [.int (nI (k + 1))] : List Value)) (hT.f5)) rfl ?_
    refine WP.run (pc' := 30) (L' := [.ref 247, .int (nI c), .int (nI p), .int (nI (popc (N 6))), .int (nI (stoP N c p k)), .int (nI (k + 1)), y]) (st' := [.int ((nI (k + 1)) &&& ((nI (N 6)) ^^^ (-1)))]) (I1 := I) 3 rfl ?_
    refine WP.cg (st' := [.int (nI (sdf (k + 1) (N 6)))]) rfl (congrArg (fun z : Int32 => (.int z :: [] : List Value)) (nI_not _ _ (by omega) (by omega))) rfl ?_
    refine WP.run (pc' := if ¬ (nI (sdf (k + 1) (N 6))) = 0 then 73 else 33) (L' := [.ref 247, .int (nI c), .int (nI p), .int (nI (popc (N 6))), .int (nI (stoP N c p k)), .int (nI (k + 1)), y]) (st' := []) (I1 := I) 1 rfl ?_
    refine WP.br (fun h2 => ?_) (fun h2 => ?_)
    · have h2 : ¬ sdf (k + 1) (N 6) = 0 := fun q => h2 (nI_eq_r q)
      refine WP.run (pc' := 76) (L' := [.ref 247, .int (nI c), .int (nI p), .int (nI (popc (N 6))), .int (nI (stoP N c p k)), .int ((nI (k + 1)) + nI 1), y]) (st' := []) (I1 := I) 1 rfl ?_
      refine WP.cg (L' := [.ref 247, .int (nI c), .int (nI p), .int (nI (popc (N 6))), .int (nI (stoP N c p k)), .int (nI (k + 1 + 1)), y]) (congrArg (fun z : Int32 => ([.ref 247, .int (nI c), .int (nI p), .int (nI (popc (N 6))), .int (nI (stoP N c p k)), .int z, y] : List Value)) (nI_add (k + 1) 1)) rfl rfl ?_
      refine WP.run (pc' := 14) (L' := [.ref 247, .int (nI c), .int (nI p), .int (nI (popc (N 6))), .int (nI (stoP N c p k)), .int (nI (k + 1 + 1)), y]) (st' := []) (I1 := I) 1 rfl ?_
      refine WP.cg (L' := [.ref 247, .int (nI c), .int (nI p), .int (nI (popc (N 6))), .int (nI (stoP N c p (k + 1))), .int (nI (k + 1 + 1)), y]) (by first | rw [show stoP N c p (k + 1) = _ from if_pos ⟨by assumption, by assumption⟩] | rw [show stoP N c p (k + 1) = _ from if_neg (fun q => absurd q.1 (by assumption))] | rw [show stoP N c p (k + 1) = _ from if_neg (fun q => absurd q.2 (by assumption))]) rfl rfl (ih (by omega) _)
    · have h2 : sdf (k + 1) (N 6) = 0 := nI_eq_ (by omega) (by omega) (Decidable.byContradiction h2)
      refine WP.run (pc' := 37) (L' := [.ref 247, .int (nI c), .int (nI p), .int (nI (popc (N 6))), .int (nI (stoP N c p k)), .int (nI (k + 1)), y]) (st' := [.int (nI (k + 1)), .int (nI c), .ref 247]) (I1 := I) 3 rfl ?_
      refine WP.callB (rest := []) rfl rfl (sp_isBorne (d := d) (c := c) (m := k + 1) hT hN (by omega) (by omega)) (fun h3 => ?_) (fun h3 => ?_)
      · refine WP.run (pc' := 43) (L' := [.ref 247, .int (nI c), .int (nI p), .int (nI (popc (N 6))), .int (nI (stoP N c p k)), .int (nI (k + 1)), y]) (st' := []) (I1 := I) 1 rfl ?_
        have hpl := sdf_pop (k + 1) (by omega) (N 6) (by omega) (by assumption)
        have hp1 := popc_le (k + 1)
        have hp2 := popc_le (N 6)
        refine WP.run (pc' := 45) (L' := [.ref 247, .int (nI c), .int (nI p), .int (nI (popc (N 6))), .int (nI (stoP N c p k)), .int (nI (k + 1)), y]) (st' := [.int (nI (k + 1))]) (I1 := I) 1 rfl ?_
        refine WP.callV (rest := []) rfl rfl (sp_bitCount (d := d + 2) (m := k + 1) (by omega)) ?_
        refine WP.run (pc' := 56) (L' := [.ref 247, .int (nI c), .int (nI p), .int (nI (popc (N 6))), .int (nI (stoP N c p k)), .int (nI (k + 1)), .int (nI (popc (k + 1)))]) (st' := [.int ((nI 10) - (nI p)), .int (nI (stoP N c p k))]) (I1 := I) 5 rfl ?_
        refine WP.cg (st' := [.int (nI (10 - p)), .int (nI (stoP N c p k))]) rfl (congrArg (fun z : Int32 => (.int z :: [.int (nI (stoP N c p k))] : List Value)) (pk_sub (a := 10) (b := p) (by omega))) rfl ?_
        refine WP.run (pc' := 58) (L' := [.ref 247, .int (nI c), .int (nI p), .int (nI (popc (N 6))), .int (nI (stoP N c p k)), .int (nI (k + 1)), .int (nI (popc (k + 1)))]) (st' := [.int (nI (popc (k + 1))), .int (nI (10 - p)), .int (nI (stoP N c p k))]) (I1 := I) 1 rfl ?_
        refine WP.callV (rest := [.int (nI (stoP N c p k))]) rfl rfl (sp_power (d := d + 2) (b := 10 - p) (t := popc (k + 1)) (by omega)) ?_
        refine WP.run (pc' := 66) (L' := [.ref 247, .int (nI c), .int (nI p), .int (nI (popc (N 6))), .int (nI (stoP N c p k)), .int (nI (k + 1)), .int (nI (popc (k + 1)))]) (st' := [.int ((nI (popc (N 6))) - (nI (popc (k + 1)))), .int (nI p), .int (nI ((10 - p) ^ (popc (k + 1)))), .int (nI (stoP N c p k))]) (I1 := I) 4 rfl ?_
        refine WP.cg (st' := [.int (nI ((popc (N 6)) - (popc (k + 1)))), .int (nI p), .int (nI ((10 - p) ^ (popc (k + 1)))), .int (nI (stoP N c p k))]) rfl (congrArg (fun z : Int32 => (.int z :: [.int (nI p), .int (nI ((10 - p) ^ (popc (k + 1)))), .int (nI (stoP N c p k))] : List Value)) (pk_sub (a := popc (N 6)) (b := popc (k + 1)) (by omega))) rfl ?_
        refine WP.callV (rest := [.int (nI ((10 - p) ^ (popc (k + 1)))), .int (nI (stoP N c p k))]) rfl rfl (sp_power (d := d + 2) (b := p) (t := (popc (N 6)) - (popc (k + 1))) (by omega)) ?_
        refine WP.run (pc' := 70) (L' := [.ref 247, .int (nI c), .int (nI p), .int (nI (popc (N 6))), .int (nI (stoP N c p k)), .int (nI (k + 1)), .int (nI (popc (k + 1)))]) (st' := [.int ((nI ((10 - p) ^ (popc (k + 1)))) * (nI (p ^ ((popc (N 6)) - (popc (k + 1)))))), .int (nI (stoP N c p k))]) (I1 := I) 1 rfl ?_
        refine WP.cg (st' := [.int (nI (((10 - p) ^ (popc (k + 1))) * (p ^ ((popc (N 6)) - (popc (k + 1)))))), .int (nI (stoP N c p k))]) rfl (congrArg (fun z : Int32 => (.int z :: [.int (nI (stoP N c p k))] : List Value)) (pk_mul ((10 - p) ^ (popc (k + 1))) (p ^ ((popc (N 6)) - (popc (k + 1)))))) rfl ?_
        refine WP.run (pc' := 71) (L' := [.ref 247, .int (nI c), .int (nI p), .int (nI (popc (N 6))), .int (nI (stoP N c p k)), .int (nI (k + 1)), .int (nI (popc (k + 1)))]) (st' := [.int ((nI (stoP N c p k)) + (nI (((10 - p) ^ (popc (k + 1))) * (p ^ ((popc (N 6)) - (popc (k + 1)))))))]) (I1 := I) 1 rfl ?_
        refine WP.cg (st' := [.int (nI ((stoP N c p k) + (((10 - p) ^ (popc (k + 1))) * (p ^ ((popc (N 6)) - (popc (k + 1)))))))]) rfl (congrArg (fun z : Int32 => (.int z :: [] : List Value)) (nI_add (stoP N c p k) (((10 - p) ^ (popc (k + 1))) * (p ^ ((popc (N 6)) - (popc (k + 1))))))) rfl ?_
        refine WP.run (pc' := 76) (L' := [.ref 247, .int (nI c), .int (nI p), .int (nI (popc (N 6))), .int (nI ((stoP N c p k) + (((10 - p) ^ (popc (k + 1))) * (p ^ ((popc (N 6)) - (popc (k + 1))))))), .int ((nI (k + 1)) + nI 1), .int (nI (popc (k + 1)))]) (st' := []) (I1 := I) 2 rfl ?_
        refine WP.cg (L' := [.ref 247, .int (nI c), .int (nI p), .int (nI (popc (N 6))), .int (nI ((stoP N c p k) + (((10 - p) ^ (popc (k + 1))) * (p ^ ((popc (N 6)) - (popc (k + 1))))))), .int (nI (k + 1 + 1)), .int (nI (popc (k + 1)))]) (congrArg (fun z : Int32 => ([.ref 247, .int (nI c), .int (nI p), .int (nI (popc (N 6))), .int (nI ((stoP N c p k) + (((10 - p) ^ (popc (k + 1))) * (p ^ ((popc (N 6)) - (popc (k + 1))))))), .int z, .int (nI (popc (k + 1)))] : List Value)) (nI_add (k + 1) 1)) rfl rfl ?_
        refine WP.run (pc' := 14) (L' := [.ref 247, .int (nI c), .int (nI p), .int (nI (popc (N 6))), .int (nI ((stoP N c p k) + (((10 - p) ^ (popc (k + 1))) * (p ^ ((popc (N 6)) - (popc (k + 1))))))), .int (nI (k + 1 + 1)), .int (nI (popc (k + 1)))]) (st' := []) (I1 := I) 1 rfl ?_
        refine WP.cg (L' := [.ref 247, .int (nI c), .int (nI p), .int (nI (popc (N 6))), .int (nI (stoP N c p (k + 1))), .int (nI (k + 1 + 1)), .int (nI (popc (k + 1)))]) (by first | rw [show stoP N c p (k + 1) = _ from if_pos ⟨by assumption, by assumption⟩] | rw [show stoP N c p (k + 1) = _ from if_neg (fun q => absurd q.1 (by assumption))] | rw [show stoP N c p (k + 1) = _ from if_neg (fun q => absurd q.2 (by assumption))]) rfl rfl (ih (by omega) _)
      · refine WP.run (pc' := 76) (L' := [.ref 247, .int (nI c), .int (nI p), .int (nI (popc (N 6))), .int (nI (stoP N c p k)), .int ((nI (k + 1)) + nI 1), y]) (st' := []) (I1 := I) 2 rfl ?_
        refine WP.cg (L' := [.ref 247, .int (nI c), .int (nI p), .int (nI (popc (N 6))), .int (nI (stoP N c p k)), .int (nI (k + 1 + 1)), y]) (congrArg (fun z : Int32 => ([.ref 247, .int (nI c), .int (nI p), .int (nI (popc (N 6))), .int (nI (stoP N c p k)), .int z, y] : List Value)) (nI_add (k + 1) 1)) rfl rfl ?_
        refine WP.run (pc' := 14) (L' := [.ref 247, .int (nI c), .int (nI p), .int (nI (popc (N 6))), .int (nI (stoP N c p k)), .int (nI (k + 1 + 1)), y]) (st' := []) (I1 := I) 1 rfl ?_
        refine WP.cg (L' := [.ref 247, .int (nI c), .int (nI p), .int (nI (popc (N 6))), .int (nI (stoP N c p (k + 1))), .int (nI (k + 1 + 1)), y]) (by first | rw [show stoP N c p (k + 1) = _ from if_pos ⟨by assumption, by assumption⟩] | rw [show stoP N c p (k + 1) = _ from if_neg (fun q => absurd q.1 (by assumption))] | rw [show stoP N c p (k + 1) = _ from if_neg (fun q => absurd q.2 (by assumption))]) rfl rfl (ih (by omega) _)
set_option maxRecDepth 100000 in
theorem sp_storm {d : Nat} {I : Pl} {c p : Nat} {N : Nat → Nat} (hT : Tw I 247 N) (hN : TI N) (hc : c < N 3) (hp : p ≤ 10) : Ev (d + 4) 78 [.ref 247, .int (nI c), .int (nI p)] (mem I) (some (.int (nI (stoN N c p)))) (mem I) := by
  obtain ⟨b0, b1, b2, b3, b4, b5, b6, b7, b8, bS, bC, bS1, bC1, bZ, bG⟩ := id hN
  obtain ⟨s6, s7, s64⟩ := hN.set64
  refine Ev.only (EvX.enter rfl rfl rfl ?_)
  refine WP.run (pc' := 4) (L' := [.ref 247, .int (nI c), .int (nI p), UU, UU, UU, UU]) (st' := [.int (I 247 5)]) (I1 := I) 2 rfl ?_
  refine WP.cg (st' := [.int (nI (N 6))]) rfl (congrArg (fun z : Int32 => (.int z :: [] : List Value)) (hT.f5)) rfl ?_
  refine WP.callV (rest := []) rfl rfl (sp_bitCount (d := d + 2) (m := N 6) (by omega)) ?_
  refine WP.run (pc' := 14) (L' := [.ref 247, .int (nI c), .int (nI p), .int (nI (popc (N 6))), .int (nI 0), .int (nI 1), UU]) (st' := []) (I1 := I) 5 rfl ?_
  exact lp_storm hT hN hc hp 0 (Nat.zero_le _) _
set_option maxRecDepth 100000 in
theorem lp_gcd {d : Nat} {I : Pl} {a b : Nat} (ha : a < 2 ^ 31) (hb : b < 2 ^ 31) : ∀ k, k ≤ 100 → ∀ y : Value, WP d (111, 6, (some .int), sc0) 7 ([.int (nI a), .int (nI b), .int (nI ((gcS a b k).1)), .int (nI ((gcS a b k).2)), .int (nI k), y]) [] I (fun v J => v = some (.int (nI (Nat.gcd a b))) ∧ J = I) := by
  refine loopUp (fun k hk ih => ?_)
  intro y
  obtain ⟨g1, g2⟩ := gcS_lt ha hb k
  refine WP.run (pc' := if (nI 100) ≤ (nI k) then 34 else 14) (L' := [.int (nI a), .int (nI b), .int (nI ((gcS a b k).1)), .int (nI ((gcS a b k).2)), .int (nI k), y]) (st' := []) (I1 := I) 3 rfl ?_
  refine WP.br (fun h1 => ?_) (fun h1 => ?_)
  · have h1 : 100 ≤ k := nI_le_ (by omega) (by omega) h1
    refine WP.run (pc' := 35) (L' := [.int (nI a), .int (nI b), .int (nI ((gcS a b k).1)), .int (nI ((gcS a b k).2)), .int (nI k), y]) (st' := [.int (nI ((gcS a b k).1))]) (I1 := I) 1 rfl ?_
    exact WP.ret rfl rfl (⟨by rw [← (gcS_end (a := a) hb).1]; first | rw [gcS_hun (k := k) (by omega) (by assumption)] | rw [show k = 100 by omega], rfl⟩)
  · have h1 : ¬ 100 ≤ k := fun q => h1 (nI_le_r (by omega) q)
    refine WP.run (pc' := if (nI ((gcS a b k).2)) = 0 then 34 else 18) (L' := [.int (nI a), .int (nI b), .int (nI ((gcS a b k).1)), .int (nI ((gcS a b k).2)), .int (nI k), y]) (st' := []) (I1 := I) 2 rfl ?_
    refine WP.br (fun h2 => ?_) (fun h2 => ?_)
    · have h2 : (gcS a b k).2 = 0 := nI_eq_ (by omega) (by omega) h2
      refine WP.run (pc' := 35) (L' := [.int (nI a), .int (nI b), .int (nI ((gcS a b k).1)), .int (nI ((gcS a b k).2)), .int (nI k), y]) (st' := [.int (nI ((gcS a b k).1))]) (I1 := I) 1 rfl ?_
      exact WP.ret rfl rfl (⟨by rw [← (gcS_end (a := a) hb).1]; first | rw [gcS_hun (k := k) (by omega) (by assumption)] | rw [show k = 100 by omega], rfl⟩)
    · have h2 : ¬ (gcS a b k).2 = 0 := fun q => h2 (nI_eq_r q)
      refine WP.run (pc' := 20) (L' := [.int (nI a), .int (nI b), .int (nI ((gcS a b k).1)), .int (nI ((gcS a b k).2)), .int (nI k), y]) (st' := [.int (nI ((gcS a b k).2)), .int (nI ((gcS a b k).1))]) (I1 := I) 2 rfl ?_
      refine WP.irem (a := (gcS a b k).1) (b := (gcS a b k).2) rfl (by omega) (by omega) (by omega) ?_
      have hdv3 : ((gcS a b k).1) % ((gcS a b k).2) < ((gcS a b k).2) := Nat.mod_lt _ (by omega)
      refine WP.run (pc' := 31) (L' := [.int (nI a), .int (nI b), .int (nI ((gcS a b k).2)), .int (nI (((gcS a b k).1) % ((gcS a b k).2))), .int ((nI k) + nI 1), .int (nI (((gcS a b k).1) % ((gcS a b k).2)))]) (st' := []) (I1 := I) 6 rfl ?_
      refine WP.cg (L' := [.int (nI a), .int (nI b), .int (nI ((gcS a b k).2)), .int (nI (((gcS a b k).1) % ((gcS a b k).2))), .int (nI (k + 1)), .int (nI (((gcS a b k).1) % ((gcS a b k).2)))]) (congrArg (fun z : Int32 => ([.int (nI a), .int (nI b), .int (nI ((gcS a b k).2)), .int (nI (((gcS a b k).1) % ((gcS a b k).2))), .int z, .int (nI (((gcS a b k).1) % ((gcS a b k).2)))] : List Value)) (nI_add k 1)) rfl rfl ?_
      refine WP.run (pc' := 7) (L' := [.int (nI a), .int (nI b), .int (nI ((gcS a b k).2)), .int (nI (((gcS a b k).1) % ((gcS a b k).2))), .int (nI (k + 1)), .int (nI (((gcS a b k).1) % ((gcS a b k).2)))]) (st' := []) (I1 := I) 1 rfl ?_
      refine WP.cg (L' := [.int (nI a), .int (nI b), .int (nI ((gcS a b (k + 1)).1)), .int (nI ((gcS a b (k + 1)).2)), .int (nI (k + 1)), .int (nI (((gcS a b k).1) % ((gcS a b k).2)))]) (by rw [gcS_e, if_neg (by assumption)]) rfl rfl (ih (by omega) _)
set_option maxRecDepth 100000 in
theorem sp_gcd {d : Nat} {I : Pl} {a b : Nat} (ha : a < 2 ^ 31) (hb : b < 2 ^ 31) : Ev (d + 1) 111 [.int (nI a), .int (nI b)] (mem I) (some (.int (nI (Nat.gcd a b)))) (mem I) := by
  refine Ev.only (EvX.enter rfl rfl rfl ?_)
  refine WP.run (pc' := 7) (L' := [.int (nI a), .int (nI b), .int (nI a), .int (nI b), .int (nI 0), UU]) (st' := []) (I1 := I) 6 rfl ?_
  exact lp_gcd ha hb 0 (Nat.zero_le _) _
