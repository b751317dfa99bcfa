/-! the reference: storm -/
set_option maxRecDepth 100000 in
theorem lm_sgcd {d : Nat} {I : Pl} {j p w A B : Nat} (hA : A < 2 ^ 31) (hB : B < 2 ^ 31) (hB0 : 0 < B) (hw : w < 2) : ∀ k, k ≤ 100 → ∀ y2 : Value, WP (d + 3) (187, 7, (some .int), sc0) 201 ([.ref 271, .int (nI j), .int (nI p), .int (nI w), .int (nI A), .int (nI B), .int (nI ((gcS A B k).1)), .int (nI ((gcS A B k).2)), y2]) [] I (fun v J => v = some (.int (nI (if w = 0 then A / Nat.gcd A B else B / Nat.gcd A B))) ∧ J = I) := by
  refine loopUp (fun k hk ih => ?_)
  intro y2
  obtain ⟨g1, g2⟩ := gcS_lt (a := A) (b := B) (m := 2 ^ 31) (by omega) (by omega) k
  have hgp : 0 < Nat.gcd A B := Nat.gcd_pos_of_pos_right _ hB0
  have hgl : Nat.gcd A B ≤ B := Nat.gcd_le_right _ hB0
  refine WP.run (pc' := if (nI ((gcS A B k).2)) = 0 then 224 else 206) (L' := [.ref 271, .int (nI j), .int (nI p), .int (nI w), .int (nI A), .int (nI B), .int (nI ((gcS A B k).1)), .int (nI ((gcS A B k).2)), y2]) (st' := []) (I1 := I) 2 rfl ?_
  refine WP.br (fun h1 => ?_) (fun h1 => ?_)
  · have h1 : (gcS A B k).2 = 0 := nI_eq_ (by omega) (by omega) h1
    refine WP.cg (L' := [.ref 271, .int (nI j), .int (nI p), .int (nI w), .int (nI A), .int (nI B), .int (nI (Nat.gcd A B)), .int (nI ((gcS A B k).2)), y2]) (by rw [← (gcS_end (a := A) (b := B) (by omega)).1, gcS_hun (k := k) (by omega) (by assumption)]) rfl rfl ?_
    refine WP.run (pc' := if ¬ (nI w) = 0 then 236 else 228) (L' := [.ref 271, .int (nI j), .int (nI p), .int (nI w), .int (nI A), .int (nI B), .int (nI (Nat.gcd A B)), .int (nI ((gcS A B k).2)), y2]) (st' := []) (I1 := I) 2 rfl ?_
    refine WP.br (fun h2 => ?_) (fun h2 => ?_)
    · have h2 : ¬ w = 0 := fun q => h2 (nI_eq_r q)
      refine WP.run (pc' := 240) (L' := [.ref 271, .int (nI j), .int (nI p), .int (nI w), .int (nI A), .int (nI B), .int (nI (Nat.gcd A B)), .int (nI ((gcS A B k).2)), y2]) (st' := [.int (nI (Nat.gcd A B)), .int (nI B)]) (I1 := I) 2 rfl ?_
      refine WP.idiv (a := B) (b := Nat.gcd A B) rfl (by omega) (by omega) (by omega) ?_
      have hdv3 : B / (Nat.gcd A B) ≤ B := Nat.div_le_self _ _
      exact WP.ret rfl rfl (⟨by first | rw [if_pos (by assumption)] | rw [if_neg (by assumption)], rfl⟩)
    · have h2 : w = 0 := nI_eq_ (by omega) (by omega) (Decidable.byContradiction h2)
      refine WP.run (pc' := 232) (L' := [.ref 271, .int (nI j), .int (nI p), .int (nI w), .int (nI A), .int (nI B), .int (nI (Nat.gcd A B)), .int (nI ((gcS A B k).2)), y2]) (st' := [.int (nI (Nat.gcd A B)), .int (nI A)]) (I1 := I) 2 rfl ?_
      refine WP.idiv (a := A) (b := Nat.gcd A B) rfl (by omega) (by omega) (by omega) ?_
      have hdv4 : A / (Nat.gcd A B) ≤ A := Nat.div_le_self _ _
      refine WP.run (pc' := 241) (L' := [.ref 271, .int (nI j), .int (nI p), .int (nI w), .int (nI A), .int (nI B), .int (nI (Nat.gcd A B)), .int (nI ((gcS A B k).2)), y2]) (st' := [.int (nI (A / (Nat.gcd A B)))]) (I1 := I) 1 rfl ?_
      exact WP.ret rfl rfl (⟨by first | rw [if_pos (by assumption)] | rw [if_neg (by assumption)], rfl⟩)
  · have h1 : ¬ (gcS A B k).2 = 0 := fun q => h1 (nI_eq_r q)
    refine WP.run (pc' := 210) (L' := [.ref 271, .int (nI j), .int (nI p), .int (nI w), .int (nI A), .int (nI B), .int (nI ((gcS A B k).1)), .int (nI ((gcS A B k).2)), y2]) (st' := [.int (nI ((gcS A B k).2)), .int (nI ((gcS A B k).1))]) (I1 := I) 2 rfl ?_
    refine WP.irem (a := (gcS A B k).1) (b := (gcS A B k).2) rfl (by omega) (by omega) (by omega) ?_
    have hdv5 : ((gcS A B k).1) % ((gcS A B k).2) < ((gcS A B k).2) := Nat.mod_lt _ (by omega)
    refine WP.run (pc' := 201) (L' := [.ref 271, .int (nI j), .int (nI p), .int (nI w), .int (nI A), .int (nI B), .int (nI ((gcS A B k).2)), .int (nI (((gcS A B k).1) % ((gcS A B k).2))), .int (nI (((gcS A B k).1) % ((gcS A B k).2)))]) (st' := []) (I1 := I) 6 rfl ?_
    have hk1 : k < 100 := by
      rcases Nat.lt_or_ge k 100 with q | q
      · exact q
      · exfalso
        have e : k = 100 := by omega
        subst e
        have ge2 := (gcS_end (a := A) (b := B) (by omega)).2
        omega
    refine WP.cg (L' := [.ref 271, .int (nI j), .int (nI p), .int (nI w), .int (nI A), .int (nI B), .int (nI ((gcS A B (k + 1)).1)), .int (nI ((gcS A B (k + 1)).2)), .int (nI (((gcS A B k).1) % ((gcS A B k).2)))]) (by rw [gcS_e, if_neg (by assumption)]) rfl rfl (ih hk1 _)
theorem stoM_le {N : Nat → Nat} {c p : Nat} (hN : TI N) (hp : p ≤ 10) : ∀ k, k ≤ 64 → stoM N c p k ≤ k * 1000000 := by
  have h6 := hN.set64.1
  intro k
  cases k with
  | zero => intro _; exact Nat.le_refl _
  | succ k =>
    intro hk
    rw [stoM_P]
    exact Nat.le_trans (stoP_le (N := N) (c := c) hp h6 k (by omega)) (Nat.mul_le_mul_right _ (Nat.le_succ k))
set_option maxRecDepth 100000 in
theorem lm_ways {d : Nat} {I : Pl} {j p w : Nat} {N : Nat → Nat} (hM : T0 I N) (hN : TI N) (hj : j < N 3) (hp : p ≤ 10) (hw : w < 2) {k : Nat} (hk : k < 2 ^ N 2) (hd : sdf k (N 6) = 0) (hb : bornN N (N (27 + j)) k = true) (g : ∀ y y2 : Value, WP (d + 3) (187, 7, (some .int), sc0) 73 ([.ref 271, .int (nI j), .int (nI p), .int (nI w), .int (nI (stoM N j p (k + 1))), .int (nI (10 ^ popc (N 6))), .int (nI (k + 1)), y, y2]) [] I (fun v J => v = some (.int (nI (if w = 0 then stoN N j p / Nat.gcd (stoN N j p) (10 ^ popc (N 6)) else 10 ^ popc (N 6) / Nat.gcd (stoN N j p) (10 ^ popc (N 6))))) ∧ J = I)) : ∀ s, s ≤ N 2 → WP (d + 3) (187, 7, (some .int), sc0) 121 ([.ref 271, .int (nI j), .int (nI p), .int (nI w), .int (nI (stoM N j p k)), .int (nI (10 ^ popc (N 6))), .int (nI k), .int (nI (wyP (N 6) k p s)), .int (nI s)]) [] I (fun v J => v = some (.int (nI (if w = 0 then stoN N j p / Nat.gcd (stoN N j p) (10 ^ popc (N 6)) else 10 ^ popc (N 6) / Nat.gcd (stoN N j p) (10 ^ popc (N 6))))) ∧ J = I) := by
  refine loopUp (fun s hs ih => ?_)
  obtain ⟨b0, b1, b2, b3, b4, b5, b6, b7, b8, bS, bC, bS1, bC1, bZ, bG⟩ := id hN
  obtain ⟨s6, s7, s64⟩ := hN.set64
  have hp6 := popc_le (N 6)
  have h10 : 10 ^ popc (N 6) ≤ 10 ^ 6 := Nat.pow_le_pow_right (by decide) hp6
  have h10p : 0 < 10 ^ popc (N 6) := Nat.pow_pos (by decide)
  have hst := stoP_le (N := N) (c := j) (p := p) (by omega) s6 63 (by omega)
  have hst2 : stoN N j p ≤ 63000000 := by unfold stoN; omega
  obtain ⟨bw, be, bo⟩ := bC j (by omega)
  have hwl := wyP_le (p := N 6) (set := k) (c := p) hp s
  have hw6 : 10 ^ s ≤ 10 ^ 6 := Nat.pow_le_pow_right (by decide) (by omega)
  have hsm := stoM_le (N := N) (c := j) hN hp k (by omega)
  refine WP.run (pc' := 128) (L' := [.ref 271, .int (nI j), .int (nI p), .int (nI w), .int (nI (stoM N j p k)), .int (nI (10 ^ popc (N 6))), .int (nI k), .int (nI (wyP (N 6) k p s)), .int (nI s)]) (st' := [.int (nI 2), .ref 272, .int (nI s)]) (I1 := I) 4 rfl ?_
  refine WP.iald rfl rfl rfl (by omega) (by decide) ?_
  refine WP.cg (st' := [.int (nI (N 2)), .int (nI s)]) rfl (congrArg (fun z : Int32 => (.int z :: [.int (nI s)] : List Value)) (hM 2 (by omega))) rfl ?_
  refine WP.run (pc' := if (nI (N 2)) ≤ (nI s) then 180 else 132) (L' := [.ref 271, .int (nI j), .int (nI p), .int (nI w), .int (nI (stoM N j p k)), .int (nI (10 ^ popc (N 6))), .int (nI k), .int (nI (wyP (N 6) k p s)), .int (nI s)]) (st' := []) (I1 := I) 1 rfl ?_
  refine WP.br (fun h1 => ?_) (fun h1 => ?_)
  · have h1 : N 2 ≤ s := nI_le_ (by omega) (by omega) h1
    have hE := wy_end (c := p) b2 b6 (show k < 64 by omega) hd
    have hs2 : N 2 = s := by omega
    rw [hs2] at hE
    rw [hE] at hwl
    refine WP.cg (L' := [.ref 271, .int (nI j), .int (nI p), .int (nI w), .int (nI (stoM N j p k)), .int (nI (10 ^ popc (N 6))), .int (nI k), .int (nI ((10 - p) ^ popc k * p ^ (popc (N 6) - popc k))), .int (nI s)]) (by rw [hE]) rfl rfl ?_
    refine WP.run (pc' := 185) (L' := [.ref 271, .int (nI j), .int (nI p), .int (nI w), .int (nI (stoM N j p k)), .int (nI (10 ^ popc (N 6))), .int (nI k), .int (nI ((10 - p) ^ popc k * p ^ (popc (N 6) - popc k))), .int (nI s)]) (st' := [.int ((nI (stoM N j p k)) + (nI ((10 - p) ^ popc k * p ^ (popc (N 6) - popc k))))]) (I1 := I) 3 rfl ?_
    refine WP.cg (st' := [.int (nI ((stoM N j p k) + ((10 - p) ^ popc k * p ^ (popc (N 6) - popc k))))]) rfl (congrArg (fun z : Int32 => (.int z :: [] : List Value)) (nI_add (stoM N j p k) ((10 - p) ^ popc k * p ^ (popc (N 6) - popc k)))) rfl ?_
    refine WP.run (pc' := 190) (L' := [.ref 271, .int (nI j), .int (nI p), .int (nI w), .int (nI ((stoM N j p k) + ((10 - p) ^ popc k * p ^ (popc (N 6) - popc k)))), .int (nI (10 ^ popc (N 6))), .int ((nI k) + nI 1), .int (nI ((10 - p) ^ popc k * p ^ (popc (N 6) - popc k))), .int (nI s)]) (st' := []) (I1 := I) 2 rfl ?_
    refine WP.cg (L' := [.ref 271, .int (nI j), .int (nI p), .int (nI w), .int (nI ((stoM N j p k) + ((10 - p) ^ popc k * p ^ (popc (N 6) - popc k)))), .int (nI (10 ^ popc (N 6))), .int (nI (k + 1)), .int (nI ((10 - p) ^ popc k * p ^ (popc (N 6) - popc k))), .int (nI s)]) (congrArg (fun z : Int32 => ([.ref 271, .int (nI j), .int (nI p), .int (nI w), .int (nI ((stoM N j p k) + ((10 - p) ^ popc k * p ^ (popc (N 6) - popc k)))), .int (nI (10 ^ popc (N 6))), .int z, .int (nI ((10 - p) ^ popc k * p ^ (popc (N 6) - popc k))), .int (nI s)] : List Value)) (nI_add k 1)) rfl rfl ?_
    refine WP.run (pc' := 73) (L' := [.ref 271, .int (nI j), .int (nI p), .int (nI w), .int (nI ((stoM N j p k) + ((10 - p) ^ popc k * p ^ (popc (N 6) - popc k)))), .int (nI (10 ^ popc (N 6))), .int (nI (k + 1)), .int (nI ((10 - p) ^ popc k * p ^ (popc (N 6) - popc k))), .int (nI s)]) (st' := []) (I1 := I) 1 rfl ?_
    refine WP.cg (L' := [.ref 271, .int (nI j), .int (nI p), .int (nI w), .int (nI (stoM N j p (k + 1))), .int (nI (10 ^ popc (N 6))), .int (nI (k + 1)), .int (nI ((10 - p) ^ popc k * p ^ (popc (N 6) - popc k))), .int (nI s)]) (by rw [show stoM N j p (k + 1) = _ from if_pos ⟨hd, hb⟩]) rfl rfl (g _ _)
  · have h1 : ¬ N 2 ≤ s := fun q => h1 (nI_le_r (by omega) q)
    refine WP.run (pc' := 140) (L' := [.ref 271, .int (nI j), .int (nI p), .int (nI w), .int (nI (stoM N j p k)), .int (nI (10 ^ popc (N 6))), .int (nI k), .int (nI (wyP (N 6) k p s)), .int (nI s)]) (st' := [.int (nI 6), .ref 272, .int (nI (wyP (N 6) k p s))]) (I1 := I) 4 rfl ?_
    refine WP.iald rfl rfl rfl (by omega) (by decide) ?_
    refine WP.cg (st' := [.int (nI (N 6)), .int (nI (wyP (N 6) k p s))]) rfl (congrArg (fun z : Int32 => (.int z :: [.int (nI (wyP (N 6) k p s))] : List Value)) (hM 6 (by omega))) rfl ?_
    refine WP.run (pc' := 143) (L' := [.ref 271, .int (nI j), .int (nI p), .int (nI w), .int (nI (stoM N j p k)), .int (nI (10 ^ popc (N 6))), .int (nI k), .int (nI (wyP (N 6) k p s)), .int (nI s)]) (st' := [.int (nI s), .int (nI (N 6)), .int (nI (wyP (N 6) k p s))]) (I1 := I) 1 rfl ?_
    refine WP.callB (rest := [.int (nI (wyP (N 6) k p s))]) rfl rfl (ms_has (d := d + 2) (m := N 6) (k := s) (by omega) (by omega)) (fun h2 => ?_) (fun h2 => ?_)
    · refine WP.run (pc' := 157) (L' := [.ref 271, .int (nI j), .int (nI p), .int (nI w), .int (nI (stoM N j p k)), .int (nI (10 ^ popc (N 6))), .int (nI k), .int (nI (wyP (N 6) k p s)), .int (nI s)]) (st' := [.int (nI s), .int (nI k), .int (nI (wyP (N 6) k p s))]) (I1 := I) 3 rfl ?_
      refine WP.callB (rest := [.int (nI (wyP (N 6) k p s))]) rfl rfl (ms_has (d := d + 2) (m := k) (k := s) (by omega) (by omega)) (fun h3 => ?_) (fun h3 => ?_)
      · refine WP.run (pc' := 167) (L' := [.ref 271, .int (nI j), .int (nI p), .int (nI w), .int (nI (stoM N j p k)), .int (nI (10 ^ popc (N 6))), .int (nI k), .int (nI (wyP (N 6) k p s)), .int (nI s)]) (st' := [.int ((nI 10) - (nI p)), .int (nI (wyP (N 6) k p s))]) (I1 := I) 4 rfl ?_
        refine WP.cg (st' := [.int (nI (10 - p)), .int (nI (wyP (N 6) k p s))]) rfl (congrArg (fun z : Int32 => (.int z :: [.int (nI (wyP (N 6) k p s))] : List Value)) (pk_sub (a := 10) (b := p) (by omega))) rfl ?_
        refine WP.run (pc' := 172) (L' := [.ref 271, .int (nI j), .int (nI p), .int (nI w), .int (nI (stoM N j p k)), .int (nI (10 ^ popc (N 6))), .int (nI k), .int (nI (wyP (N 6) k p s)), .int (nI s)]) (st' := [.int ((nI (wyP (N 6) k p s)) * (nI (10 - p)))]) (I1 := I) 2 rfl ?_
        refine WP.cg (st' := [.int (nI ((wyP (N 6) k p s) * (10 - p)))]) rfl (congrArg (fun z : Int32 => (.int z :: [] : List Value)) (pk_mul (wyP (N 6) k p s) (10 - p))) rfl ?_
        refine WP.run (pc' := 177) (L' := [.ref 271, .int (nI j), .int (nI p), .int (nI w), .int (nI (stoM N j p k)), .int (nI (10 ^ popc (N 6))), .int (nI k), .int (nI ((wyP (N 6) k p s) * (10 - p))), .int ((nI s) + nI 1)]) (st' := []) (I1 := I) 2 rfl ?_
        refine WP.cg (L' := [.ref 271, .int (nI j), .int (nI p), .int (nI w), .int (nI (stoM N j p k)), .int (nI (10 ^ popc (N 6))), .int (nI k), .int (nI ((wyP (N 6) k p s) * (10 - p))), .int (nI (s + 1))]) (congrArg (fun z : Int32 => ([.ref 271, .int (nI j), .int (nI p), .int (nI w), .int (nI (stoM N j p k)), .int (nI (10 ^ popc (N 6))), .int (nI k), .int (nI ((wyP (N 6) k p s) * (10 - p))), .int z] : List Value)) (nI_add s 1)) rfl rfl ?_
        refine WP.run (pc' := 121) (L' := [.ref 271, .int (nI j), .int (nI p), .int (nI w), .int (nI (stoM N j p k)), .int (nI (10 ^ popc (N 6))), .int (nI k), .int (nI ((wyP (N 6) k p s) * (10 - p))), .int (nI (s + 1))]) (st' := []) (I1 := I) 1 rfl ?_
        refine WP.cg (L' := [.ref 271, .int (nI j), .int (nI p), .int (nI w), .int (nI (stoM N j p k)), .int (nI (10 ^ popc (N 6))), .int (nI k), .int (nI (wyP (N 6) k p (s + 1))), .int (nI (s + 1))]) (by rw [show wyP (N 6) k p (s + 1) = wyP (N 6) k p s * wyF (N 6) k p s from rfl]; unfold wyF; first | rw [if_neg (by assumption)] | rw [if_pos (by assumption), if_pos (by assumption)] | rw [if_pos (by assumption), if_neg (by assumption)]) rfl rfl (ih (by omega))
      · refine WP.run (pc' := 172) (L' := [.ref 271, .int (nI j), .int (nI p), .int (nI w), .int (nI (stoM N j p k)), .int (nI (10 ^ popc (N 6))), .int (nI k), .int (nI (wyP (N 6) k p s)), .int (nI s)]) (st' := [.int ((nI (wyP (N 6) k p s)) * (nI p))]) (I1 := I) 3 rfl ?_
        refine WP.cg (st' := [.int (nI ((wyP (N 6) k p s) * p))]) rfl (congrArg (fun z : Int32 => (.int z :: [] : List Value)) (pk_mul (wyP (N 6) k p s) p)) rfl ?_
        refine WP.run (pc' := 177) (L' := [.ref 271, .int (nI j), .int (nI p), .int (nI w), .int (nI (stoM N j p k)), .int (nI (10 ^ popc (N 6))), .int (nI k), .int (nI ((wyP (N 6) k p s) * p)), .int ((nI s) + nI 1)]) (st' := []) (I1 := I) 2 rfl ?_
        refine WP.cg (L' := [.ref 271, .int (nI j), .int (nI p), .int (nI w), .int (nI (stoM N j p k)), .int (nI (10 ^ popc (N 6))), .int (nI k), .int (nI ((wyP (N 6) k p s) * p)), .int (nI (s + 1))]) (congrArg (fun z : Int32 => ([.ref 271, .int (nI j), .int (nI p), .int (nI w), .int (nI (stoM N j p k)), .int (nI (10 ^ popc (N 6))), .int (nI k), .int (nI ((wyP (N 6) k p s) * p)), .int z] : List Value)) (nI_add s 1)) rfl rfl ?_
        refine WP.run (pc' := 121) (L' := [.ref 271, .int (nI j), .int (nI p), .int (nI w), .int (nI (stoM N j p k)), .int (nI (10 ^ popc (N 6))), .int (nI k), .int (nI ((wyP (N 6) k p s) * p)), .int (nI (s + 1))]) (st' := []) (I1 := I) 1 rfl ?_
        refine WP.cg (L' := [.ref 271, .int (nI j), .int (nI p), .int (nI w), .int (nI (stoM N j p k)), .int (nI (10 ^ popc (N 6))), .int (nI k), .int (nI (wyP (N 6) k p (s + 1))), .int (nI (s + 1))]) (by rw [show wyP (N 6) k p (s + 1) = wyP (N 6) k p s * wyF (N 6) k p s from rfl]; unfold wyF; first | rw [if_neg (by assumption)] | rw [if_pos (by assumption), if_pos (by assumption)] | rw [if_pos (by assumption), if_neg (by assumption)]) rfl rfl (ih (by omega))
    · refine WP.run (pc' := 172) (L' := [.ref 271, .int (nI j), .int (nI p), .int (nI w), .int (nI (stoM N j p k)), .int (nI (10 ^ popc (N 6))), .int (nI k), .int (nI (wyP (N 6) k p s)), .int (nI s)]) (st' := [.int ((nI (wyP (N 6) k p s)) * (nI 1))]) (I1 := I) 4 rfl ?_
      refine WP.cg (st' := [.int (nI ((wyP (N 6) k p s) * 1))]) rfl (congrArg (fun z : Int32 => (.int z :: [] : List Value)) (pk_mul (wyP (N 6) k p s) 1)) rfl ?_
      refine WP.run (pc' := 177) (L' := [.ref 271, .int (nI j), .int (nI p), .int (nI w), .int (nI (stoM N j p k)), .int (nI (10 ^ popc (N 6))), .int (nI k), .int (nI ((wyP (N 6) k p s) * 1)), .int ((nI s) + nI 1)]) (st' := []) (I1 := I) 2 rfl ?_
      refine WP.cg (L' := [.ref 271, .int (nI j), .int (nI p), .int (nI w), .int (nI (stoM N j p k)), .int (nI (10 ^ popc (N 6))), .int (nI k), .int (nI ((wyP (N 6) k p s) * 1)), .int (nI (s + 1))]) (congrArg (fun z : Int32 => ([.ref 271, .int (nI j), .int (nI p), .int (nI w), .int (nI (stoM N j p k)), .int (nI (10 ^ popc (N 6))), .int (nI k), .int (nI ((wyP (N 6) k p s) * 1)), .int z] : List Value)) (nI_add s 1)) rfl rfl ?_
      refine WP.run (pc' := 121) (L' := [.ref 271, .int (nI j), .int (nI p), .int (nI w), .int (nI (stoM N j p k)), .int (nI (10 ^ popc (N 6))), .int (nI k), .int (nI ((wyP (N 6) k p s) * 1)), .int (nI (s + 1))]) (st' := []) (I1 := I) 1 rfl ?_
      refine WP.cg (L' := [.ref 271, .int (nI j), .int (nI p), .int (nI w), .int (nI (stoM N j p k)), .int (nI (10 ^ popc (N 6))), .int (nI k), .int (nI (wyP (N 6) k p (s + 1))), .int (nI (s + 1))]) (by rw [show wyP (N 6) k p (s + 1) = wyP (N 6) k p s * wyF (N 6) k p s from rfl]; unfold wyF; first | rw [if_neg (by assumption)] | rw [if_pos (by assumption), if_pos (by assumption)] | rw [if_pos (by assumption), if_neg (by assumption)]) rfl rfl (ih (by omega))
set_option maxRecDepth 100000 in
theorem lm_sets {d : Nat} {I : Pl} {j p w : Nat} {N : Nat → Nat} (hM : T0 I N) (hN : TI N) (hj : j < N 3) (hp : p ≤ 10) (hw : w < 2) : ∀ k, k ≤ 2 ^ N 2 → ∀ y y2 : Value, WP (d + 3) (187, 7, (some .int), sc0) 73 ([.ref 271, .int (nI j), .int (nI p), .int (nI w), .int (nI (stoM N j p k)), .int (nI (10 ^ popc (N 6))), .int (nI k), y, y2]) [] I (fun v J => v = some (.int (nI (if w = 0 then stoN N j p / Nat.gcd (stoN N j p) (10 ^ popc (N 6)) else 10 ^ popc (N 6) / Nat.gcd (stoN N j p) (10 ^ popc (N 6))))) ∧ J = I) := by
  refine loopUp (fun k hk ih => ?_)
  intro y y2
  obtain ⟨b0, b1, b2, b3, b4, b5, b6, b7, b8, bS, bC, bS1, bC1, bZ, bG⟩ := id hN
  obtain ⟨s6, s7, s64⟩ := hN.set64
  have hp6 := popc_le (N 6)
  have h10 : 10 ^ popc (N 6) ≤ 10 ^ 6 := Nat.pow_le_pow_right (by decide) hp6
  have h10p : 0 < 10 ^ popc (N 6) := Nat.pow_pos (by decide)
  have hst := stoP_le (N := N) (c := j) (p := p) (by omega) s6 63 (by omega)
  have hst2 : stoN N j p ≤ 63000000 := by unfold stoN; omega
  obtain ⟨bw, be, bo⟩ := bC j (by omega)
  have hsm := stoM_le (N := N) (c := j) hN hp k (by omega)
  have hsd := sdf_le k (N 6)
  refine WP.run (pc' := 76) (L' := [.ref 271, .int (nI j), .int (nI p), .int (nI w), .int (nI (stoM N j p k)), .int (nI (10 ^ popc (N 6))), .int (nI k), y, y2]) (st' := [.int (nI k), .ref 271]) (I1 := I) 2 rfl ?_
  refine WP.callB (rest := []) rfl rfl (ms_isSet (d := d + 1) (x := (nI k)) hM hN) (fun h1 => ?_) (fun h1 => ?_)
  · refine WP.run (pc' := 82) (L' := [.ref 271, .int (nI j), .int (nI p), .int (nI w), .int (nI (stoM N j p k)), .int (nI (10 ^ popc (N 6))), .int (nI k), y, y2]) (st' := []) (I1 := I) 1 rfl ?_
    have hkl : k < 2 ^ N 2 := (inA_nI (by omega)).mp (by assumption)
    refine WP.run (pc' := 90) (L' := [.ref 271, .int (nI j), .int (nI p), .int (nI w), .int (nI (stoM N j p k)), .int (nI (10 ^ popc (N 6))), .int (nI k), y, y2]) (st' := [.int (nI 6), .ref 272, .int (nI k)]) (I1 := I) 4 rfl ?_
    refine WP.iald rfl rfl rfl (by omega) (by decide) ?_
    refine WP.cg (st' := [.int (nI (N 6)), .int (nI k)]) rfl (congrArg (fun z : Int32 => (.int z :: [.int (nI k)] : List Value)) (hM 6 (by omega))) rfl ?_
    refine WP.run (pc' := 94) (L' := [.ref 271, .int (nI j), .int (nI p), .int (nI w), .int (nI (stoM N j p k)), .int (nI (10 ^ popc (N 6))), .int (nI k), y, y2]) (st' := [.int ((nI k) &&& ((nI (N 6)) ^^^ (-1)))]) (I1 := I) 3 rfl ?_
    refine WP.cg (st' := [.int (nI (sdf k (N 6)))]) rfl (congrArg (fun z : Int32 => (.int z :: [] : List Value)) (nI_not _ _ (by omega) (by omega))) rfl ?_
    refine WP.run (pc' := if ¬ (nI (sdf k (N 6))) = 0 then 187 else 97) (L' := [.ref 271, .int (nI j), .int (nI p), .int (nI w), .int (nI (stoM N j p k)), .int (nI (10 ^ popc (N 6))), .int (nI k), y, y2]) (st' := []) (I1 := I) 1 rfl ?_
    refine WP.br (fun h2 => ?_) (fun h2 => ?_)
    · have h2 : ¬ sdf k (N 6) = 0 := fun q => h2 (nI_eq_r q)
      refine WP.run (pc' := 190) (L' := [.ref 271, .int (nI j), .int (nI p), .int (nI w), .int (nI (stoM N j p k)), .int (nI (10 ^ popc (N 6))), .int ((nI k) + nI 1), y, y2]) (st' := []) (I1 := I) 1 rfl ?_
      refine WP.cg (L' := [.ref 271, .int (nI j), .int (nI p), .int (nI w), .int (nI (stoM N j p k)), .int (nI (10 ^ popc (N 6))), .int (nI (k + 1)), y, y2]) (congrArg (fun z : Int32 => ([.ref 271, .int (nI j), .int (nI p), .int (nI w), .int (nI (stoM N j p k)), .int (nI (10 ^ popc (N 6))), .int z, y, y2] : List Value)) (nI_add k 1)) rfl rfl ?_
      refine WP.run (pc' := 73) (L' := [.ref 271, .int (nI j), .int (nI p), .int (nI w), .int (nI (stoM N j p k)), .int (nI (10 ^ popc (N 6))), .int (nI (k + 1)), y, y2]) (st' := []) (I1 := I) 1 rfl ?_
      refine WP.cg (L' := [.ref 271, .int (nI j), .int (nI p), .int (nI w), .int (nI (stoM N j p (k + 1))), .int (nI (10 ^ popc (N 6))), .int (nI (k + 1)), y, y2]) (by rw [show stoM N j p (k + 1) = _ from if_neg (fun q => by first | exact absurd q.1 (by assumption) | exact absurd q.2 (by assumption))]) rfl rfl (ih (by omega) _ _)
    · have h2 : sdf k (N 6) = 0 := nI_eq_ (by omega) (by omega) (Decidable.byContradiction h2)
      refine WP.run (pc' := 106) (L' := [.ref 271, .int (nI j), .int (nI p), .int (nI w), .int (nI (stoM N j p k)), .int (nI (10 ^ popc (N 6))), .int (nI k), y, y2]) (st' := [.int ((nI 27) + (nI j)), .ref 272, .ref 271]) (I1 := I) 6 rfl ?_
      refine WP.cg (st' := [.int (nI (27 + j)), .ref 272, .ref 271]) rfl (congrArg (fun z : Int32 => (.int z :: [.ref 272, .ref 271] : List Value)) (nI_add 27 j)) rfl ?_
      refine WP.iald rfl rfl rfl (by omega) (by decide) ?_
      refine WP.cg (st' := [.int (nI (N (27 + j))), .ref 271]) rfl (congrArg (fun z : Int32 => (.int z :: [.ref 271] : List Value)) (hM (27 + j) (by omega))) rfl ?_
      refine WP.run (pc' := 109) (L' := [.ref 271, .int (nI j), .int (nI p), .int (nI w), .int (nI (stoM N j p k)), .int (nI (10 ^ popc (N 6))), .int (nI k), y, y2]) (st' := [.int (nI k), .int (nI (N (27 + j))), .ref 271]) (I1 := I) 1 rfl ?_
      refine WP.callB (rest := []) rfl rfl (ms_isBorne (d := d) (w := N (27 + j)) (m := k) hM hN (by omega) (by omega)) (fun h3 => ?_) (fun h3 => ?_)
      · refine WP.run (pc' := 121) (L' := [.ref 271, .int (nI j), .int (nI p), .int (nI w), .int (nI (stoM N j p k)), .int (nI (10 ^ popc (N 6))), .int (nI k), .int (nI 1), .int (nI 0)]) (st' := []) (I1 := I) 5 rfl ?_
        exact lm_ways hM hN hj hp hw (by omega) (by assumption) (by assumption) (ih (by omega)) 0 (Nat.zero_le _)
      · refine WP.run (pc' := 190) (L' := [.ref 271, .int (nI j), .int (nI p), .int (nI w), .int (nI (stoM N j p k)), .int (nI (10 ^ popc (N 6))), .int ((nI k) + nI 1), y, y2]) (st' := []) (I1 := I) 2 rfl ?_
        refine WP.cg (L' := [.ref 271, .int (nI j), .int (nI p), .int (nI w), .int (nI (stoM N j p k)), .int (nI (10 ^ popc (N 6))), .int (nI (k + 1)), y, y2]) (congrArg (fun z : Int32 => ([.ref 271, .int (nI j), .int (nI p), .int (nI w), .int (nI (stoM N j p k)), .int (nI (10 ^ popc (N 6))), .int z, y, y2] : List Value)) (nI_add k 1)) rfl rfl ?_
        refine WP.run (pc' := 73) (L' := [.ref 271, .int (nI j), .int (nI p), .int (nI w), .int (nI (stoM N j p k)), .int (nI (10 ^ popc (N 6))), .int (nI (k + 1)), y, y2]) (st' := []) (I1 := I) 1 rfl ?_
        refine WP.cg (L' := [.ref 271, .int (nI j), .int (nI p), .int (nI w), .int (nI (stoM N j p (k + 1))), .int (nI (10 ^ popc (N 6))), .int (nI (k + 1)), y, y2]) (by rw [show stoM N j p (k + 1) = _ from if_neg (fun q => by first | exact absurd q.1 (by assumption) | exact absurd q.2 (by assumption))]) rfl rfl (ih (by omega) _ _)
  · refine WP.run (pc' := 201) (L' := [.ref 271, .int (nI j), .int (nI p), .int (nI w), .int (nI (stoM N j p k)), .int (nI (10 ^ popc (N 6))), .int (nI (stoM N j p k)), .int (nI (10 ^ popc (N 6))), y2]) (st' := []) (I1 := I) 5 rfl ?_
    have hkl : ¬ k < 2 ^ N 2 := fun q => absurd ((inA_nI (by omega)).mpr q) (by assumption)
    have hE := stoM_end (c := j) (p := p) hN
    rw [show 2 ^ N 2 = k by omega] at hE
    refine WP.cg (L' := [.ref 271, .int (nI j), .int (nI p), .int (nI w), .int (nI (stoN N j p)), .int (nI (10 ^ popc (N 6))), .int (nI (stoN N j p)), .int (nI (10 ^ popc (N 6))), y2]) (by rw [hE]) rfl rfl ?_
    exact lm_sgcd (A := stoN N j p) (B := 10 ^ popc (N 6)) (by omega) (by omega) h10p hw 0 (Nat.zero_le _) _
set_option maxRecDepth 100000 in
theorem lm_tens {d : Nat} {I : Pl} {j p w : Nat} {N : Nat → Nat} (hM : T0 I N) (hN : TI N) (hj : j < N 3) (hp : p ≤ 10) (hw : w < 2) : ∀ k, k ≤ popc (N 6) → ∀ y y2 : Value, WP (d + 3) (187, 7, (some .int), sc0) 42 ([.ref 271, .int (nI j), .int (nI p), .int (nI w), .int (nI 0), .int (nI (10 ^ k)), .int (nI k), y, y2]) [] I (fun v J => v = some (.int (nI (if w = 0 then stoN N j p / Nat.gcd (stoN N j p) (10 ^ popc (N 6)) else 10 ^ popc (N 6) / Nat.gcd (stoN N j p) (10 ^ popc (N 6))))) ∧ J = I) := by
  refine loopUp (fun k hk ih => ?_)
  intro y y2
  obtain ⟨b0, b1, b2, b3, b4, b5, b6, b7, b8, bS, bC, bS1, bC1, bZ, bG⟩ := id hN
  obtain ⟨s6, s7, s64⟩ := hN.set64
  have hp6 := popc_le (N 6)
  have h10 : 10 ^ popc (N 6) ≤ 10 ^ 6 := Nat.pow_le_pow_right (by decide) hp6
  have h10p : 0 < 10 ^ popc (N 6) := Nat.pow_pos (by decide)
  have hst := stoP_le (N := N) (c := j) (p := p) (by omega) s6 63 (by omega)
  have hst2 : stoN N j p ≤ 63000000 := by unfold stoN; omega
  obtain ⟨bw, be, bo⟩ := bC j (by omega)
  refine WP.run (pc' := 50) (L' := [.ref 271, .int (nI j), .int (nI p), .int (nI w), .int (nI 0), .int (nI (10 ^ k)), .int (nI k), y, y2]) (st' := [.int (nI 6), .ref 272, .int (nI k)]) (I1 := I) 4 rfl ?_
  refine WP.iald rfl rfl rfl (by omega) (by decide) ?_
  refine WP.cg (st' := [.int (nI (N 6)), .int (nI k)]) rfl (congrArg (fun z : Int32 => (.int z :: [.int (nI k)] : List Value)) (hM 6 (by omega))) rfl ?_
  refine WP.callV (rest := [.int (nI k)]) rfl rfl (ms_ones (d := d + 2) (m := N 6) (by omega)) ?_
  refine WP.run (pc' := if (nI (popc (N 6))) ≤ (nI k) then 70 else 57) (L' := [.ref 271, .int (nI j), .int (nI p), .int (nI w), .int (nI 0), .int (nI (10 ^ k)), .int (nI k), y, y2]) (st' := []) (I1 := I) 1 rfl ?_
  refine WP.br (fun h1 => ?_) (fun h1 => ?_)
  · have h1 : popc (N 6) ≤ k := nI_le_ (by omega) (by omega) h1
    refine WP.run (pc' := 73) (L' := [.ref 271, .int (nI j), .int (nI p), .int (nI w), .int (nI 0), .int (nI (10 ^ k)), .int (nI 0), y, y2]) (st' := []) (I1 := I) 2 rfl ?_
    refine WP.cg (L' := [.ref 271, .int (nI j), .int (nI p), .int (nI w), .int (nI (stoM N j p 0)), .int (nI (10 ^ popc (N 6))), .int (nI 0), y, y2]) (by rw [show k = popc (N 6) by omega]; rfl) rfl rfl ?_
    exact lm_sets hM hN hj hp hw 0 (Nat.zero_le _) _ _
  · have h1 : ¬ popc (N 6) ≤ k := fun q => h1 (nI_le_r (by omega) q)
    refine WP.run (pc' := 62) (L' := [.ref 271, .int (nI j), .int (nI p), .int (nI w), .int (nI 0), .int (nI (10 ^ k)), .int (nI k), y, y2]) (st' := [.int ((nI (10 ^ k)) * (nI 10))]) (I1 := I) 3 rfl ?_
    refine WP.cg (st' := [.int (nI ((10 ^ k) * 10))]) rfl (congrArg (fun z : Int32 => (.int z :: [] : List Value)) (pk_mul (10 ^ k) 10)) rfl ?_
    refine WP.run (pc' := 67) (L' := [.ref 271, .int (nI j), .int (nI p), .int (nI w), .int (nI 0), .int (nI ((10 ^ k) * 10)), .int ((nI k) + nI 1), y, y2]) (st' := []) (I1 := I) 2 rfl ?_
    refine WP.cg (L' := [.ref 271, .int (nI j), .int (nI p), .int (nI w), .int (nI 0), .int (nI ((10 ^ k) * 10)), .int (nI (k + 1)), y, y2]) (congrArg (fun z : Int32 => ([.ref 271, .int (nI j), .int (nI p), .int (nI w), .int (nI 0), .int (nI ((10 ^ k) * 10)), .int z, y, y2] : List Value)) (nI_add k 1)) rfl rfl ?_
    refine WP.run (pc' := 42) (L' := [.ref 271, .int (nI j), .int (nI p), .int (nI w), .int (nI 0), .int (nI ((10 ^ k) * 10)), .int (nI (k + 1)), y, y2]) (st' := []) (I1 := I) 1 rfl ?_
    refine WP.cg (L' := [.ref 271, .int (nI j), .int (nI p), .int (nI w), .int (nI 0), .int (nI (10 ^ (k + 1))), .int (nI (k + 1)), y, y2]) (by rw [Nat.pow_succ]) rfl rfl (ih (by omega) _ _)
set_option maxRecDepth 100000 in
theorem ms_storm {d : Nat} {I : Pl} {N : Nat → Nat} {x p w : Int32} (hM : T0 I N) (hN : TI N)  : Ev (d + 4) 187 [.ref 271, .int x, .int p, .int w] (mem I) (some (.int (aStorm N x p w))) (mem I) := by
  obtain ⟨b0, b1, b2, b3, b4, b5, b6, b7, b8, bS, bC, bS1, bC1, bZ, bG⟩ := id hN
  obtain ⟨s6, s7, s64⟩ := hN.set64
  refine Ev.only (EvX.enter rfl rfl rfl ?_)
  refine WP.run (pc' := 2) (L' := [.ref 271, .int x, .int p, .int w, UU, UU, UU, UU, UU]) (st' := [.int x, .ref 271]) (I1 := I) 2 rfl ?_
  refine WP.callB (rest := []) rfl rfl (ms_isClimber (d := d + 1) (x := x) hM hN) (fun h1 => ?_) (fun h1 => ?_)
  · refine WP.run (pc' := 14) (L' := [.ref 271, .int x, .int p, .int w, UU, UU, UU, UU, UU]) (st' := [.long (10 : Int64), .long (0 : Int64), .long p.toInt64]) (I1 := I) 5 rfl ?_
    refine WP.callB (rest := []) rfl rfl (sp_inA (d := d + 2) (x := p) (n := 11) (hi := (10 : Int64)) rfl) (fun h2 => ?_) (fun h2 => ?_)
    · refine WP.run (pc' := 24) (L' := [.ref 271, .int x, .int p, .int w, UU, UU, UU, UU, UU]) (st' := [.long (1 : Int64), .long (0 : Int64), .long w.toInt64]) (I1 := I) 5 rfl ?_
      refine WP.callB (rest := []) rfl rfl (sp_inA (d := d + 2) (x := w) (n := 2) (hi := (1 : Int64)) rfl) (fun h3 => ?_) (fun h3 => ?_)
      · refine WP.run (pc' := 33) (L' := [.ref 271, .int x, .int p, .int w, UU, UU, UU, UU, UU]) (st' := []) (I1 := I) 1 rfl ?_
        have hx_j : inA x (N 3) := (by assumption)
        obtain ⟨j, hj, rfl⟩ := inA_of hx_j (by omega)
        have hx_m : inA p 11 := (by assumption)
        obtain ⟨m, hm, rfl⟩ := inA_of hx_m (by omega)
        have hx_r : inA w 2 := (by assumption)
        obtain ⟨r, hr, rfl⟩ := inA_of hx_r (by omega)
        refine WP.run (pc' := 42) (L' := [.ref 271, .int (nI j), .int (nI m), .int (nI r), .int (nI 0), .int (nI 1), .int (nI 0), UU, UU]) (st' := []) (I1 := I) 6 rfl ?_
        unfold aStorm qStorm
        rw [nOf_nI (by omega), nOf_nI (by omega), nOf_nI (by omega), if_pos (by assumption), if_pos (by assumption), if_pos (by assumption)]
        exact lm_tens hM hN hj (by omega) (by omega) 0 (Nat.zero_le _) _ _
      · refine WP.run (pc' := 32) (L' := [.ref 271, .int x, .int p, .int w, UU, UU, UU, UU, UU]) (st' := [.int (-1000001)]) (I1 := I) 2 rfl ?_
        exact WP.ret rfl rfl (⟨by (unfold aStorm qStorm; (repeat rw [nOf_nI (by omega)]); (repeat first | rw [if_pos (by first | assumption | omega | (refine inA_iff.mpr ?_; omega) | (intro q; have q2 := inA_iff.mp q; omega) | (intro q; omega) | (refine ⟨?_, ?_⟩ <;> rw [nI_int (by omega)] <;> omega) | (rw [nI_int (by omega)]; omega) | (intro q; rw [nI_int (by omega)] at q; omega) | (refine ⟨?_, ?_, ?_⟩ <;> omega) | (intro q; obtain ⟨q1, q2, q3⟩ := q; omega) | fail)] | rw [if_neg (by first | assumption | omega | (refine inA_iff.mpr ?_; omega) | (intro q; have q2 := inA_iff.mp q; omega) | (intro q; omega) | (refine ⟨?_, ?_⟩ <;> rw [nI_int (by omega)] <;> omega) | (rw [nI_int (by omega)]; omega) | (intro q; rw [nI_int (by omega)] at q; omega) | (refine ⟨?_, ?_, ?_⟩ <;> omega) | (intro q; obtain ⟨q1, q2, q3⟩ := q; omega) | fail)])) <;> rfl, rfl⟩)
    · refine WP.run (pc' := 32) (L' := [.ref 271, .int x, .int p, .int w, UU, UU, UU, UU, UU]) (st' := [.int (-1000001)]) (I1 := I) 2 rfl ?_
      exact WP.ret rfl rfl (⟨by (unfold aStorm qStorm; (repeat rw [nOf_nI (by omega)]); (repeat first | rw [if_pos (by first | assumption | omega | (refine inA_iff.mpr ?_; omega) | (intro q; have q2 := inA_iff.mp q; omega) | (intro q; omega) | (refine ⟨?_, ?_⟩ <;> rw [nI_int (by omega)] <;> omega) | (rw [nI_int (by omega)]; omega) | (intro q; rw [nI_int (by omega)] at q; omega) | (refine ⟨?_, ?_, ?_⟩ <;> omega) | (intro q; obtain ⟨q1, q2, q3⟩ := q; omega) | fail)] | rw [if_neg (by first | assumption | omega | (refine inA_iff.mpr ?_; omega) | (intro q; have q2 := inA_iff.mp q; omega) | (intro q; omega) | (refine ⟨?_, ?_⟩ <;> rw [nI_int (by omega)] <;> omega) | (rw [nI_int (by omega)]; omega) | (intro q; rw [nI_int (by omega)] at q; omega) | (refine ⟨?_, ?_, ?_⟩ <;> omega) | (intro q; obtain ⟨q1, q2, q3⟩ := q; omega) | fail)])) <;> rfl, rfl⟩)
  · refine WP.run (pc' := 32) (L' := [.ref 271, .int x, .int p, .int w, UU, UU, UU, UU, UU]) (st' := [.int (-1000001)]) (I1 := I) 2 rfl ?_
    exact WP.ret rfl rfl (⟨by (unfold aStorm qStorm; (repeat rw [nOf_nI (by omega)]); (repeat first | rw [if_pos (by first | assumption | omega | (refine inA_iff.mpr ?_; omega) | (intro q; have q2 := inA_iff.mp q; omega) | (intro q; omega) | (refine ⟨?_, ?_⟩ <;> rw [nI_int (by omega)] <;> omega) | (rw [nI_int (by omega)]; omega) | (intro q; rw [nI_int (by omega)] at q; omega) | (refine ⟨?_, ?_, ?_⟩ <;> omega) | (intro q; obtain ⟨q1, q2, q3⟩ := q; omega) | fail)] | rw [if_neg (by first | assumption | omega | (refine inA_iff.mpr ?_; omega) | (intro q; have q2 := inA_iff.mp q; omega) | (intro q; omega) | (refine ⟨?_, ?_⟩ <;> rw [nI_int (by omega)] <;> omega) | (rw [nI_int (by omega)]; omega) | (intro q; rw [nI_int (by omega)] at q; omega) | (refine ⟨?_, ?_, ?_⟩ <;> omega) | (intro q; obtain ⟨q1, q2, q3⟩ := q; omega) | fail)])) <;> rfl, rfl⟩)
