/-! copy and climbers, asked by the reference -/
theorem mask1 : ∀ c, c < 5 → ∀ p, p < 2 ^ c → (p + (32 - 2 ^ c)) &&& (2 ^ c ^^^ 63) = p + (32 - 2 ^ (c + 1)) := by decide +kernel
theorem mask2 : ∀ c, c < 5 → ∀ p, p < 2 ^ c → p + (32 - 2 ^ c) = p + 2 ^ c + (32 - 2 ^ (c + 1)) := by decide +kernel
theorem mask3 : ∀ n, n ≤ 5 → ∀ w, w < 2 ^ n → ∀ p, p < 2 ^ n → w &&& (p + (32 - 2 ^ n)) = w &&& p := by decide +kernel
theorem nI_m1 (a : Nat) (h : a < 64) : nI a &&& -1 = nI a := by
  have h2 : ∀ a, a < 64 → nI a &&& -1 = nI a := by decide +kernel
  exact h2 a h
/-- w without those under c who don't strain so -/
def acM (N : Nat → Nat) (m x w c : Nat) : Nat := w &&& (whoP N m x c + (32 - 2 ^ c))
theorem acM_t {N : Nat → Nat} {m x w c : Nat} (hc : c < 5) (h : shareN (pullN N (N (27 + c))) m = x) : acM N m x w c = acM N m x w (c + 1) := by
  unfold acM
  have e : whoP N m x (c + 1) = whoP N m x c + 2 ^ c := by
    show whoP N m x c + (if _ then _ else _) = _
    rw [if_pos h]
  rw [e, mask2 c hc _ (whoP_lt N m x c)]
theorem acM_f {N : Nat → Nat} {m x w c : Nat} (hc : c < 5) (h : ¬ shareN (pullN N (N (27 + c))) m = x) : sdf (acM N m x w c) (2 ^ c) = acM N m x w (c + 1) := by
  unfold acM sdf
  have e : whoP N m x (c + 1) = whoP N m x c := by
    show whoP N m x c + (if _ then _ else _) = _
    rw [if_neg h]
    rfl
  rw [e, Nat.and_assoc, mask1 c hc _ (whoP_lt N m x c)]
theorem acM_0 {N : Nat → Nat} {m x w : Nat} (h : w < 32) : acM N m x w 0 = w := by
  have h2 : ∀ w, w < 32 → w &&& (0 + (32 - 2 ^ 0)) = w := by decide +kernel
  exact h2 w h
theorem acM_e {N : Nat → Nat} {m x w : Nat} (hN : TI N) (h : w < 2 ^ N 3) : acM N m x w (N 3) = w &&& whoN N m x := mask3 (N 3) hN.2.2.2.1 w h _ (whoP_lt N m x (N 3))
theorem acM_le {N : Nat → Nat} {m x w c : Nat} : acM N m x w c ≤ w := Nat.and_le_left
set_option maxRecDepth 100000 in
theorem lm_copy2 {d : Nat} {I : Pl} {R : RS} {a i b j n : Nat} (hR : RowsM I R) (ha : a < 8) (hb : b < 8) (la : ¬ R.1 a = 3) (lb : ¬ R.1 b = 3) (lab : R.1 a = R.1 b) (hi : i + n ≤ 40) (hj : j + n ≤ 40) (pa : plP (nI i) (nI n) (R.2.1 a)) (pb : plP (nI j) (nI n) (R.2.1 b)) : ∀ k, k ≤ n → WP (d + 2) (134, 7, (some .int), sc0) 131 [.ref 271, .int (nI a), .int (nI i), .int (nI b), .int (nI j), .int (nI n), .int (nI k)] [] (lyN (hdN I a i n) b j k) (fun v K => v = some (.int (nCopy R (nI a) (nI i) (nI b) (nI j) (nI n)).1) ∧ RowsM K (nCopy R (nI a) (nI i) (nI b) (nI j) (nI n)).2 ∧ Only I K rmP) := by
  refine loopUp (fun k hk ih => ?_)
  obtain ⟨z1, z2, z3, z4⟩ := hR.size ha la
  refine WP.run (pc' := if (nI n) ≤ (nI k) then 166 else 138) (L' := [.ref 271, .int (nI a), .int (nI i), .int (nI b), .int (nI j), .int (nI n), .int (nI k)]) (st' := []) (I1 := (lyN (hdN I a i n) b j k)) 3 rfl ?_
  refine WP.br (fun h1 => ?_) (fun h1 => ?_)
  · have h1 : n ≤ k := nI_le_ (by omega) (by omega) h1
    have c1 : inA (nI a) 8 := (inA_nI (by omega)).mpr ha
    have c2 : inA (nI b) 8 := (inA_nI (by omega)).mpr hb
    refine WP.cg (I1 := (lyN (hdN I a i n) b j n)) rfl rfl (by rw [show k = n by omega]) ?_
    refine WP.run (pc' := 169) (L' := [.ref 271, .int (nI a), .int (nI i), .int (nI b), .int (nI j), .int (nI n), .int (nI k)]) (st' := [.int (nI n), .ref 271]) (I1 := (lyN (hdN I a i n) b j n)) 2 rfl ?_
    refine WP.callV (rest := []) rfl rfl (ms_well (d := d + 1) (I := (lyN (hdN I a i n) b j n)) (x := (nI n))) ?_
    exact WP.ret rfl rfl (by
          have e : nCopy R (nI a) (nI i) (nI b) (nI j) (nI n) = ((nI n), stR (moveR R a i b j n) (nI 0)) := by (unfold nCopy; (repeat rw [nOf_nI (by omega)]); (repeat first | rw [if_pos (by first | assumption | omega | (refine inA_iff.mpr ?_; omega) | (intro q; have q2 := inA_iff.mp q; omega) | (intro q; omega) | (refine ⟨?_, ?_⟩ <;> rw [nI_int (by omega)] <;> omega) | (rw [nI_int (by omega)]; omega) | (intro q; rw [nI_int (by omega)] at q; omega) | (refine ⟨?_, ?_, ?_⟩ <;> omega) | (intro q; obtain ⟨q1, q2, q3⟩ := q; omega) | fail)] | rw [if_neg (by first | assumption | omega | (refine inA_iff.mpr ?_; omega) | (intro q; have q2 := inA_iff.mp q; omega) | (intro q; omega) | (refine ⟨?_, ?_⟩ <;> rw [nI_int (by omega)] <;> omega) | (rw [nI_int (by omega)]; omega) | (intro q; rw [nI_int (by omega)] at q; omega) | (refine ⟨?_, ?_, ?_⟩ <;> omega) | (intro q; obtain ⟨q1, q2, q3⟩ := q; omega) | fail)])) <;> rfl
          rw [e]
          exact ⟨rfl, (RowsM.stat (RowsM.move hR ha hb (by omega) hi hj)), (Only.up lyN_only (Or.inl ⟨rfl, rfl⟩))⟩)
  · have h1 : ¬ n ≤ k := fun q => h1 (nI_le_r (by omega) q)
    refine WP.run (pc' := 146) (L' := [.ref 271, .int (nI a), .int (nI i), .int (nI b), .int (nI j), .int (nI n), .int (nI k)]) (st' := [.int ((nI 40) * (nI b)), .ref 276]) (I1 := (lyN (hdN I a i n) b j k)) 5 rfl ?_
    refine WP.cg (st' := [.int (nI (40 * b)), .ref 276]) rfl (congrArg (fun z : Int32 => (.int z :: [.ref 276] : List Value)) (pk_mul 40 b)) rfl ?_
    refine WP.run (pc' := 149) (L' := [.ref 271, .int (nI a), .int (nI i), .int (nI b), .int (nI j), .int (nI n), .int (nI k)]) (st' := [.int ((nI (40 * b)) + (nI j)), .ref 276]) (I1 := (lyN (hdN I a i n) b j k)) 2 rfl ?_
    refine WP.cg (st' := [.int (nI ((40 * b) + j)), .ref 276]) rfl (congrArg (fun z : Int32 => (.int z :: [.ref 276] : List Value)) (nI_add (40 * b) j)) rfl ?_
    refine WP.run (pc' := 152) (L' := [.ref 271, .int (nI a), .int (nI i), .int (nI b), .int (nI j), .int (nI n), .int (nI k)]) (st' := [.int ((nI ((40 * b) + j)) + (nI k)), .ref 276]) (I1 := (lyN (hdN I a i n) b j k)) 2 rfl ?_
    refine WP.cg (st' := [.int (nI (((40 * b) + j) + k)), .ref 276]) rfl (congrArg (fun z : Int32 => (.int z :: [.ref 276] : List Value)) (nI_add ((40 * b) + j) k)) rfl ?_
    refine WP.run (pc' := 158) (L' := [.ref 271, .int (nI a), .int (nI i), .int (nI b), .int (nI j), .int (nI n), .int (nI k)]) (st' := [.int (nI k), .ref 277, .int (nI (((40 * b) + j) + k)), .ref 276]) (I1 := (lyN (hdN I a i n) b j k)) 3 rfl ?_
    refine WP.iald rfl rfl rfl (by omega) (by decide) ?_
    refine WP.iast rfl rfl rfl (by omega) (by decide) ?_
    refine WP.run (pc' := 163) (L' := [.ref 271, .int (nI a), .int (nI i), .int (nI b), .int (nI j), .int (nI n), .int ((nI k) + nI 1)]) (st' := []) (I1 := (upN (lyN (hdN I a i n) b j k) 276 (((40 * b) + j) + k) ((lyN (hdN I a i n) b j k) 277 k))) 1 rfl ?_
    refine WP.cg (L' := [.ref 271, .int (nI a), .int (nI i), .int (nI b), .int (nI j), .int (nI n), .int (nI (k + 1))]) (congrArg (fun z : Int32 => ([.ref 271, .int (nI a), .int (nI i), .int (nI b), .int (nI j), .int (nI n), .int z] : List Value)) (nI_add k 1)) rfl rfl ?_
    refine WP.run (pc' := 131) (L' := [.ref 271, .int (nI a), .int (nI i), .int (nI b), .int (nI j), .int (nI n), .int (nI (k + 1))]) (st' := []) (I1 := (upN (lyN (hdN I a i n) b j k) 276 (((40 * b) + j) + k) ((lyN (hdN I a i n) b j k) 277 k))) 1 rfl ?_
    refine WP.cg (L' := [.ref 271, .int (nI a), .int (nI i), .int (nI b), .int (nI j), .int (nI n), .int (nI (k + 1))]) rfl rfl rfl (ih (by omega))
set_option maxRecDepth 100000 in
theorem lm_copy1 {d : Nat} {I : Pl} {R : RS} {a i b j n : Nat} (hR : RowsM I R) (ha : a < 8) (hb : b < 8) (la : ¬ R.1 a = 3) (lb : ¬ R.1 b = 3) (lab : R.1 a = R.1 b) (hi : i + n ≤ 40) (hj : j + n ≤ 40) (pa : plP (nI i) (nI n) (R.2.1 a)) (pb : plP (nI j) (nI n) (R.2.1 b)) : ∀ k, k ≤ n → WP (d + 2) (134, 7, (some .int), sc0) 94 [.ref 271, .int (nI a), .int (nI i), .int (nI b), .int (nI j), .int (nI n), .int (nI k)] [] (hdN I a i k) (fun v K => v = some (.int (nCopy R (nI a) (nI i) (nI b) (nI j) (nI n)).1) ∧ RowsM K (nCopy R (nI a) (nI i) (nI b) (nI j) (nI n)).2 ∧ Only I K rmP) := by
  refine loopUp (fun k hk ih => ?_)
  refine WP.run (pc' := if (nI n) ≤ (nI k) then 128 else 101) (L' := [.ref 271, .int (nI a), .int (nI i), .int (nI b), .int (nI j), .int (nI n), .int (nI k)]) (st' := []) (I1 := (hdN I a i k)) 3 rfl ?_
  refine WP.br (fun h1 => ?_) (fun h1 => ?_)
  · have h1 : n ≤ k := nI_le_ (by omega) (by omega) h1
    refine WP.run (pc' := 131) (L' := [.ref 271, .int (nI a), .int (nI i), .int (nI b), .int (nI j), .int (nI n), .int (nI 0)]) (st' := []) (I1 := (hdN I a i k)) 2 rfl ?_
    refine WP.cg (I1 := (lyN (hdN I a i n) b j 0)) rfl rfl (by rw [show k = n by omega]; rfl) ?_
    exact lm_copy2 hR ha hb la lb lab hi hj pa pb 0 (Nat.zero_le _)
  · have h1 : ¬ n ≤ k := fun q => h1 (nI_le_r (by omega) q)
    refine WP.run (pc' := 115) (L' := [.ref 271, .int (nI a), .int (nI i), .int (nI b), .int (nI j), .int (nI n), .int (nI k)]) (st' := [.int ((nI 40) * (nI a)), .ref 276, .int (nI k), .ref 277]) (I1 := (hdN I a i k)) 8 rfl ?_
    refine WP.cg (st' := [.int (nI (40 * a)), .ref 276, .int (nI k), .ref 277]) rfl (congrArg (fun z : Int32 => (.int z :: [.ref 276, .int (nI k), .ref 277] : List Value)) (pk_mul 40 a)) rfl ?_
    refine WP.run (pc' := 117) (L' := [.ref 271, .int (nI a), .int (nI i), .int (nI b), .int (nI j), .int (nI n), .int (nI k)]) (st' := [.int ((nI (40 * a)) + (nI i)), .ref 276, .int (nI k), .ref 277]) (I1 := (hdN I a i k)) 2 rfl ?_
    refine WP.cg (st' := [.int (nI ((40 * a) + i)), .ref 276, .int (nI k), .ref 277]) rfl (congrArg (fun z : Int32 => (.int z :: [.ref 276, .int (nI k), .ref 277] : List Value)) (nI_add (40 * a) i)) rfl ?_
    refine WP.run (pc' := 120) (L' := [.ref 271, .int (nI a), .int (nI i), .int (nI b), .int (nI j), .int (nI n), .int (nI k)]) (st' := [.int ((nI ((40 * a) + i)) + (nI k)), .ref 276, .int (nI k), .ref 277]) (I1 := (hdN I a i k)) 2 rfl ?_
    refine WP.cg (st' := [.int (nI (((40 * a) + i) + k)), .ref 276, .int (nI k), .ref 277]) rfl (congrArg (fun z : Int32 => (.int z :: [.ref 276, .int (nI k), .ref 277] : List Value)) (nI_add ((40 * a) + i) k)) rfl ?_
    refine WP.iald rfl rfl rfl (by omega) (by decide) ?_
    refine WP.iast rfl rfl rfl (by omega) (by decide) ?_
    refine WP.run (pc' := 125) (L' := [.ref 271, .int (nI a), .int (nI i), .int (nI b), .int (nI j), .int (nI n), .int ((nI k) + nI 1)]) (st' := []) (I1 := (upN (hdN I a i k) 277 k ((hdN I a i k) 276 (((40 * a) + i) + k)))) 1 rfl ?_
    refine WP.cg (L' := [.ref 271, .int (nI a), .int (nI i), .int (nI b), .int (nI j), .int (nI n), .int (nI (k + 1))]) (congrArg (fun z : Int32 => ([.ref 271, .int (nI a), .int (nI i), .int (nI b), .int (nI j), .int (nI n), .int z] : List Value)) (nI_add k 1)) rfl rfl ?_
    refine WP.run (pc' := 94) (L' := [.ref 271, .int (nI a), .int (nI i), .int (nI b), .int (nI j), .int (nI n), .int (nI (k + 1))]) (st' := []) (I1 := (upN (hdN I a i k) 277 k ((hdN I a i k) 276 (((40 * a) + i) + k)))) 1 rfl ?_
    refine WP.cg (L' := [.ref 271, .int (nI a), .int (nI i), .int (nI b), .int (nI j), .int (nI n), .int (nI (k + 1))]) rfl rfl rfl (ih (by omega))
set_option maxRecDepth 100000 in
theorem ms_copy {d : Nat} {I : Pl} {R : RS} {a i b j n : Int32} (hR : RowsM I R) : EvX (d + 3) 134 [.ref 271, .int a, .int i, .int b, .int j, .int n] I (fun v K => v = some (.int (nCopy R a i b j n).1) ∧ RowsM K (nCopy R a i b j n).2 ∧ Only I K rmP) := by
  refine EvX.enter rfl rfl rfl ?_
  refine WP.run (pc' := 1) (L' := [.ref 271, .int a, .int i, .int b, .int j, .int n, UU]) (st' := [.int a]) (I1 := I) 1 rfl ?_
  refine WP.callB (rest := []) rfl rfl (ms_isRow (d := d) (x := a)) (fun h1 => ?_) (fun h1 => ?_)
  · refine WP.run (pc' := 7) (L' := [.ref 271, .int a, .int i, .int b, .int j, .int n, UU]) (st' := []) (I1 := I) 1 rfl ?_
    have hx_a1 : inA a 8 := (by assumption)
    obtain ⟨a1, ha1, rfl⟩ := inA_of hx_a1 (by omega)
    refine WP.run (pc' := 8) (L' := [.ref 271, .int (nI a1), .int i, .int b, .int j, .int n, UU]) (st' := [.int b]) (I1 := I) 1 rfl ?_
    refine WP.callB (rest := []) rfl rfl (ms_isRow (d := d) (x := b)) (fun h2 => ?_) (fun h2 => ?_)
    · refine WP.run (pc' := 17) (L' := [.ref 271, .int (nI a1), .int i, .int b, .int j, .int n, UU]) (st' := []) (I1 := I) 1 rfl ?_
      have hx_b1 : inA b 8 := (by assumption)
      obtain ⟨b1, hb1, rfl⟩ := inA_of hx_b1 (by omega)
      refine WP.run (pc' := 22) (L' := [.ref 271, .int (nI a1), .int i, .int (nI b1), .int j, .int n, UU]) (st' := [.int (nI a1), .ref 274]) (I1 := I) 3 rfl ?_
      refine WP.iald rfl rfl rfl (by omega) (by decide) ?_
      by_cases hl_a1 : R.1 a1 = 3
      · refine WP.cg (st' := [.int (-1)]) rfl (congrArg (fun z : Int32 => (.int z :: [] : List Value)) (((hR.2 a1 (by omega)).2.1 hl_a1))) rfl ?_
        refine WP.run (pc' := 37) (L' := [.ref 271, .int (nI a1), .int i, .int (nI b1), .int j, .int n, UU]) (st' := [.int (nI 1), .ref 271]) (I1 := I) 3 rfl ?_
        refine WP.callV (rest := []) rfl rfl (ms_found (d := d + 1) (I := I) (x := 1)) ?_
        exact WP.ret rfl rfl (by
                  have e : nCopy R (nI a1) i (nI b1) j n = ((-1000010 - nI 1), stR R (nI 1)) := by (unfold nCopy; (repeat rw [nOf_nI (by omega)]); (repeat first | rw [if_pos (by first | assumption | omega | (refine inA_iff.mpr ?_; omega) | (intro q; have q2 := inA_iff.mp q; omega) | (intro q; omega) | (refine ⟨?_, ?_⟩ <;> rw [nI_int (by omega)] <;> omega) | (rw [nI_int (by omega)]; omega) | (intro q; rw [nI_int (by omega)] at q; omega) | (refine ⟨?_, ?_, ?_⟩ <;> omega) | (intro q; obtain ⟨q1, q2, q3⟩ := q; omega) | fail)] | rw [if_neg (by first | assumption | omega | (refine inA_iff.mpr ?_; omega) | (intro q; have q2 := inA_iff.mp q; omega) | (intro q; omega) | (refine ⟨?_, ?_⟩ <;> rw [nI_int (by omega)] <;> omega) | (rw [nI_int (by omega)]; omega) | (intro q; rw [nI_int (by omega)] at q; omega) | (refine ⟨?_, ?_, ?_⟩ <;> omega) | (intro q; obtain ⟨q1, q2, q3⟩ := q; omega) | fail)])) <;> rfl
                  rw [e]
                  exact ⟨rfl, (RowsM.stat hR), (Only.up Only.rfl_ (Or.inl ⟨rfl, rfl⟩))⟩)
      · obtain ⟨z1_a1, z2_a1, z3_a1, z4_a1⟩ := hR.size (r := a1) (by omega) hl_a1
        refine WP.cg (st' := [.int (nI (R.1 a1))]) rfl (congrArg (fun z : Int32 => (.int z :: [] : List Value)) z3_a1) rfl ?_
        refine WP.run (pc' := if (nI (R.1 a1)) < 0 then 35 else 26) (L' := [.ref 271, .int (nI a1), .int i, .int (nI b1), .int j, .int n, UU]) (st' := []) (I1 := I) 1 rfl ?_
        refine WP.brF (nI_pos (by omega)) ?_
        refine WP.run (pc' := 31) (L' := [.ref 271, .int (nI a1), .int i, .int (nI b1), .int j, .int n, UU]) (st' := [.int (nI b1), .ref 274]) (I1 := I) 3 rfl ?_
        refine WP.iald rfl rfl rfl (by omega) (by decide) ?_
        by_cases hl_b1 : R.1 b1 = 3
        · refine WP.cg (st' := [.int (-1)]) rfl (congrArg (fun z : Int32 => (.int z :: [] : List Value)) (((hR.2 b1 (by omega)).2.1 hl_b1))) rfl ?_
          refine WP.run (pc' := 37) (L' := [.ref 271, .int (nI a1), .int i, .int (nI b1), .int j, .int n, UU]) (st' := [.int (nI 1), .ref 271]) (I1 := I) 3 rfl ?_
          refine WP.callV (rest := []) rfl rfl (ms_found (d := d + 1) (I := I) (x := 1)) ?_
          exact WP.ret rfl rfl (by
                      have e : nCopy R (nI a1) i (nI b1) j n = ((-1000010 - nI 1), stR R (nI 1)) := by (unfold nCopy; (repeat rw [nOf_nI (by omega)]); (repeat first | rw [if_pos (by first | assumption | omega | (refine inA_iff.mpr ?_; omega) | (intro q; have q2 := inA_iff.mp q; omega) | (intro q; omega) | (refine ⟨?_, ?_⟩ <;> rw [nI_int (by omega)] <;> omega) | (rw [nI_int (by omega)]; omega) | (intro q; rw [nI_int (by omega)] at q; omega) | (refine ⟨?_, ?_, ?_⟩ <;> omega) | (intro q; obtain ⟨q1, q2, q3⟩ := q; omega) | fail)] | rw [if_neg (by first | assumption | omega | (refine inA_iff.mpr ?_; omega) | (intro q; have q2 := inA_iff.mp q; omega) | (intro q; omega) | (refine ⟨?_, ?_⟩ <;> rw [nI_int (by omega)] <;> omega) | (rw [nI_int (by omega)]; omega) | (intro q; rw [nI_int (by omega)] at q; omega) | (refine ⟨?_, ?_, ?_⟩ <;> omega) | (intro q; obtain ⟨q1, q2, q3⟩ := q; omega) | fail)])) <;> rfl
                      rw [e]
                      exact ⟨rfl, (RowsM.stat hR), (Only.up Only.rfl_ (Or.inl ⟨rfl, rfl⟩))⟩)
        · obtain ⟨z1_b1, z2_b1, z3_b1, z4_b1⟩ := hR.size (r := b1) (by omega) hl_b1
          refine WP.cg (st' := [.int (nI (R.1 b1))]) rfl (congrArg (fun z : Int32 => (.int z :: [] : List Value)) z3_b1) rfl ?_
          refine WP.run (pc' := if (0 : Int32) ≤ (nI (R.1 b1)) then 41 else 35) (L' := [.ref 271, .int (nI a1), .int i, .int (nI b1), .int j, .int n, UU]) (st' := []) (I1 := I) 1 rfl ?_
          refine WP.brT (nI_pos' (by omega)) ?_
          refine WP.run (pc' := 46) (L' := [.ref 271, .int (nI a1), .int i, .int (nI b1), .int j, .int n, UU]) (st' := [.int (nI a1), .ref 274]) (I1 := I) 3 rfl ?_
          refine WP.iald rfl rfl rfl (by omega) (by decide) ?_
          refine WP.cg (st' := [.int (nI (R.1 a1))]) rfl (congrArg (fun z : Int32 => (.int z :: [] : List Value)) (z3_a1)) rfl ?_
          refine WP.run (pc' := 52) (L' := [.ref 271, .int (nI a1), .int i, .int (nI b1), .int j, .int n, UU]) (st' := [.int (nI b1), .ref 274, .int (nI (R.1 a1))]) (I1 := I) 3 rfl ?_
          refine WP.iald rfl rfl rfl (by omega) (by decide) ?_
          refine WP.cg (st' := [.int (nI (R.1 b1)), .int (nI (R.1 a1))]) rfl (congrArg (fun z : Int32 => (.int z :: [.int (nI (R.1 a1))] : List Value)) (z3_b1)) rfl ?_
          refine WP.run (pc' := if (nI (R.1 a1)) = (nI (R.1 b1)) then 62 else 56) (L' := [.ref 271, .int (nI a1), .int i, .int (nI b1), .int j, .int n, UU]) (st' := []) (I1 := I) 1 rfl ?_
          refine WP.br (fun h3 => ?_) (fun h3 => ?_)
          · have h3 : R.1 a1 = R.1 b1 := nI_eq_ (by omega) (by omega) h3
            refine WP.run (pc' := 67) (L' := [.ref 271, .int (nI a1), .int i, .int (nI b1), .int j, .int n, UU]) (st' := [.int n, .int i, .int (nI a1), .ref 271]) (I1 := I) 4 rfl ?_
            refine WP.callV (rest := []) rfl rfl (ms_against (d := d + 1) (r := a1) (i := i) (n := n) hR (by omega)) ?_
            by_cases hp4 : plP i n (R.2.1 a1)
            · refine WP.cg (L' := [.ref 271, .int (nI a1), .int i, .int (nI b1), .int j, .int n, UU]) (st' := [.int (nI 0)]) (by rfl) (by rw [show agN R a1 i n = 0 from (if_neg (by assumption)).trans (if_pos hp4)]; rfl) rfl ?_
              refine WP.run (pc' := 79) (L' := [.ref 271, .int (nI a1), .int i, .int (nI b1), .int j, .int n, UU]) (st' := [.int n, .int j, .int (nI b1), .ref 271]) (I1 := I) 5 rfl ?_
              refine WP.callV (rest := []) rfl rfl (ms_against (d := d + 1) (r := b1) (i := j) (n := n) hR (by omega)) ?_
              by_cases hp5 : plP j n (R.2.1 b1)
              · refine WP.cg (L' := [.ref 271, .int (nI a1), .int i, .int (nI b1), .int j, .int n, UU]) (st' := [.int (nI 0)]) (by rfl) (by rw [show agN R b1 j n = 0 from (if_neg (by assumption)).trans (if_pos hp5)]; rfl) rfl ?_
                refine WP.run (pc' := 91) (L' := [.ref 271, .int (nI a1), .int i, .int (nI b1), .int j, .int n, UU]) (st' := []) (I1 := I) 1 rfl ?_
                have hx_i1 : inA i 41 := (by refine inA_iff.mpr ?_; have hp : plP i n (R.2.1 a1) := (by assumption); obtain ⟨p1, p2, p3⟩ := hp; omega)
                obtain ⟨i1, hi1, rfl⟩ := inA_of hx_i1 (by omega)
                have hx_j1 : inA j 41 := (by refine inA_iff.mpr ?_; have hp : plP j n (R.2.1 b1) := (by assumption); obtain ⟨p1, p2, p3⟩ := hp; omega)
                obtain ⟨j1, hj1, rfl⟩ := inA_of hx_j1 (by omega)
                have hx_n1 : inA n 41 := (by refine inA_iff.mpr ?_; have hp : plP (nI i1) n (R.2.1 a1) := (by assumption); obtain ⟨p1, p2, p3⟩ := hp; omega)
                obtain ⟨n1, hn1, rfl⟩ := inA_of hx_n1 (by omega)
                have hp1 : plP (nI i1) (nI n1) (R.2.1 a1) := (by assumption)
                have hp2 : plP (nI j1) (nI n1) (R.2.1 b1) := (by assumption)
                have hq1 := hp1.2.2
                have hq2 := hp2.2.2
                rw [nI_int (by omega), nI_int (by omega)] at hq1 hq2
                refine WP.run (pc' := 94) (L' := [.ref 271, .int (nI a1), .int (nI i1), .int (nI b1), .int (nI j1), .int (nI n1), .int (nI 0)]) (st' := []) (I1 := I) 2 rfl ?_
                exact lm_copy1 hR ha1 hb1 (by assumption) (by assumption) (by assumption) (by omega) (by omega) (by assumption) (by assumption) 0 (Nat.zero_le _)
              · refine WP.cg (L' := [.ref 271, .int (nI a1), .int i, .int (nI b1), .int j, .int n, UU]) (st' := [.int (nI 2)]) (by rfl) (by rw [show agN R b1 j n = 2 from (if_neg (by assumption)).trans (if_neg hp5)]; rfl) rfl ?_
                refine WP.run (pc' := 87) (L' := [.ref 271, .int (nI a1), .int i, .int (nI b1), .int j, .int n, UU]) (st' := [.int (nI 2), .ref 271]) (I1 := I) 3 rfl ?_
                refine WP.callV (rest := []) rfl rfl (ms_found (d := d + 1) (I := I) (x := 2)) ?_
                exact WP.ret rfl rfl (by
                                  have e : nCopy R (nI a1) i (nI b1) j n = ((-1000010 - nI 2), stR R (nI 2)) := by (unfold nCopy; (repeat rw [nOf_nI (by omega)]); (repeat first | rw [if_pos (by first | assumption | omega | (refine inA_iff.mpr ?_; omega) | (intro q; have q2 := inA_iff.mp q; omega) | (intro q; omega) | (refine ⟨?_, ?_⟩ <;> rw [nI_int (by omega)] <;> omega) | (rw [nI_int (by omega)]; omega) | (intro q; rw [nI_int (by omega)] at q; omega) | (refine ⟨?_, ?_, ?_⟩ <;> omega) | (intro q; obtain ⟨q1, q2, q3⟩ := q; omega) | fail)] | rw [if_neg (by first | assumption | omega | (refine inA_iff.mpr ?_; omega) | (intro q; have q2 := inA_iff.mp q; omega) | (intro q; omega) | (refine ⟨?_, ?_⟩ <;> rw [nI_int (by omega)] <;> omega) | (rw [nI_int (by omega)]; omega) | (intro q; rw [nI_int (by omega)] at q; omega) | (refine ⟨?_, ?_, ?_⟩ <;> omega) | (intro q; obtain ⟨q1, q2, q3⟩ := q; omega) | fail)])) <;> rfl
                                  rw [e]
                                  exact ⟨rfl, (RowsM.stat hR), (Only.up Only.rfl_ (Or.inl ⟨rfl, rfl⟩))⟩)
            · refine WP.cg (L' := [.ref 271, .int (nI a1), .int i, .int (nI b1), .int j, .int n, UU]) (st' := [.int (nI 2)]) (by rfl) (by rw [show agN R a1 i n = 2 from (if_neg (by assumption)).trans (if_neg hp4)]; rfl) rfl ?_
              refine WP.run (pc' := 87) (L' := [.ref 271, .int (nI a1), .int i, .int (nI b1), .int j, .int n, UU]) (st' := [.int (nI 2), .ref 271]) (I1 := I) 3 rfl ?_
              refine WP.callV (rest := []) rfl rfl (ms_found (d := d + 1) (I := I) (x := 2)) ?_
              exact WP.ret rfl rfl (by
                              have e : nCopy R (nI a1) i (nI b1) j n = ((-1000010 - nI 2), stR R (nI 2)) := by (unfold nCopy; (repeat rw [nOf_nI (by omega)]); (repeat first | rw [if_pos (by first | assumption | omega | (refine inA_iff.mpr ?_; omega) | (intro q; have q2 := inA_iff.mp q; omega) | (intro q; omega) | (refine ⟨?_, ?_⟩ <;> rw [nI_int (by omega)] <;> omega) | (rw [nI_int (by omega)]; omega) | (intro q; rw [nI_int (by omega)] at q; omega) | (refine ⟨?_, ?_, ?_⟩ <;> omega) | (intro q; obtain ⟨q1, q2, q3⟩ := q; omega) | fail)] | rw [if_neg (by first | assumption | omega | (refine inA_iff.mpr ?_; omega) | (intro q; have q2 := inA_iff.mp q; omega) | (intro q; omega) | (refine ⟨?_, ?_⟩ <;> rw [nI_int (by omega)] <;> omega) | (rw [nI_int (by omega)]; omega) | (intro q; rw [nI_int (by omega)] at q; omega) | (refine ⟨?_, ?_, ?_⟩ <;> omega) | (intro q; obtain ⟨q1, q2, q3⟩ := q; omega) | fail)])) <;> rfl
                              rw [e]
                              exact ⟨rfl, (RowsM.stat hR), (Only.up Only.rfl_ (Or.inl ⟨rfl, rfl⟩))⟩)
          · have h3 : ¬ R.1 a1 = R.1 b1 := fun q => h3 (nI_eq_r q)
            refine WP.run (pc' := 58) (L' := [.ref 271, .int (nI a1), .int i, .int (nI b1), .int j, .int n, UU]) (st' := [.int (nI 5), .ref 271]) (I1 := I) 2 rfl ?_
            refine WP.callV (rest := []) rfl rfl (ms_found (d := d + 1) (I := I) (x := 5)) ?_
            exact WP.ret rfl rfl (by
                          have e : nCopy R (nI a1) i (nI b1) j n = ((-1000010 - nI 5), stR R (nI 5)) := by (unfold nCopy; (repeat rw [nOf_nI (by omega)]); (repeat first | rw [if_pos (by first | assumption | omega | (refine inA_iff.mpr ?_; omega) | (intro q; have q2 := inA_iff.mp q; omega) | (intro q; omega) | (refine ⟨?_, ?_⟩ <;> rw [nI_int (by omega)] <;> omega) | (rw [nI_int (by omega)]; omega) | (intro q; rw [nI_int (by omega)] at q; omega) | (refine ⟨?_, ?_, ?_⟩ <;> omega) | (intro q; obtain ⟨q1, q2, q3⟩ := q; omega) | fail)] | rw [if_neg (by first | assumption | omega | (refine inA_iff.mpr ?_; omega) | (intro q; have q2 := inA_iff.mp q; omega) | (intro q; omega) | (refine ⟨?_, ?_⟩ <;> rw [nI_int (by omega)] <;> omega) | (rw [nI_int (by omega)]; omega) | (intro q; rw [nI_int (by omega)] at q; omega) | (refine ⟨?_, ?_, ?_⟩ <;> omega) | (intro q; obtain ⟨q1, q2, q3⟩ := q; omega) | fail)])) <;> rfl
                          rw [e]
                          exact ⟨rfl, (RowsM.stat hR), (Only.up Only.rfl_ (Or.inl ⟨rfl, rfl⟩))⟩)
    · refine WP.run (pc' := 16) (L' := [.ref 271, .int (nI a1), .int i, .int b, .int j, .int n, UU]) (st' := [.int (-1000001)]) (I1 := I) 2 rfl ?_
      exact WP.ret rfl rfl (by
              have e : nCopy R (nI a1) i b j n = ((-1000001), R) := by (unfold nCopy; (repeat rw [nOf_nI (by omega)]); (repeat first | rw [if_pos (by first | assumption | omega | (refine inA_iff.mpr ?_; omega) | (intro q; have q2 := inA_iff.mp q; omega) | (intro q; omega) | (refine ⟨?_, ?_⟩ <;> rw [nI_int (by omega)] <;> omega) | (rw [nI_int (by omega)]; omega) | (intro q; rw [nI_int (by omega)] at q; omega) | (refine ⟨?_, ?_, ?_⟩ <;> omega) | (intro q; obtain ⟨q1, q2, q3⟩ := q; omega) | fail)] | rw [if_neg (by first | assumption | omega | (refine inA_iff.mpr ?_; omega) | (intro q; have q2 := inA_iff.mp q; omega) | (intro q; omega) | (refine ⟨?_, ?_⟩ <;> rw [nI_int (by omega)] <;> omega) | (rw [nI_int (by omega)]; omega) | (intro q; rw [nI_int (by omega)] at q; omega) | (refine ⟨?_, ?_, ?_⟩ <;> omega) | (intro q; obtain ⟨q1, q2, q3⟩ := q; omega) | fail)])) <;> rfl
              rw [e]
              exact ⟨rfl, hR, Only.rfl_⟩)
  · refine WP.run (pc' := 16) (L' := [.ref 271, .int a, .int i, .int b, .int j, .int n, UU]) (st' := [.int (-1000001)]) (I1 := I) 2 rfl ?_
    exact WP.ret rfl rfl (by
          have e : nCopy R a i b j n = ((-1000001), R) := by (unfold nCopy; (repeat rw [nOf_nI (by omega)]); (repeat first | rw [if_pos (by first | assumption | omega | (refine inA_iff.mpr ?_; omega) | (intro q; have q2 := inA_iff.mp q; omega) | (intro q; omega) | (refine ⟨?_, ?_⟩ <;> rw [nI_int (by omega)] <;> omega) | (rw [nI_int (by omega)]; omega) | (intro q; rw [nI_int (by omega)] at q; omega) | (refine ⟨?_, ?_, ?_⟩ <;> omega) | (intro q; obtain ⟨q1, q2, q3⟩ := q; omega) | fail)] | rw [if_neg (by first | assumption | omega | (refine inA_iff.mpr ?_; omega) | (intro q; have q2 := inA_iff.mp q; omega) | (intro q; omega) | (refine ⟨?_, ?_⟩ <;> rw [nI_int (by omega)] <;> omega) | (rw [nI_int (by omega)]; omega) | (intro q; rw [nI_int (by omega)] at q; omega) | (refine ⟨?_, ?_, ?_⟩ <;> omega) | (intro q; obtain ⟨q1, q2, q3⟩ := q; omega) | fail)])) <;> rfl
          rw [e]
          exact ⟨rfl, hR, Only.rfl_⟩)
set_option maxRecDepth 100000 in
theorem lm_clin {d : Nat} {I : Pl} {R : RS} {N : Nat → Nat} {j i n : Nat} (hM : T0 I N) (hN : TI N) (hR : RowsM I R) (hj : j < 8) (hl : ¬ R.1 j = 3) (hn : n ≤ 8) (hi : i + 2 * n ≤ 40) {k m r : Nat} (hm : m < 64) (hr : r < 100) (g : ∀ y1 y2 y3 : Value, WP (d + 3) (186, 7, (some .int), sc0) 78 ([.ref 271, .int (nI j), .int (nI i), .int (nI n), .int (nI 0), .int (nI (40 * j + i)), .int (nI (clW N (fun k => R.2.2.1 j (i + k)) k &&& whoN N m r)), .int (nI (k + 1)), y1, y2, y3]) [] I (fun v K => v = some (.int (if clB N (fun k => R.2.2.1 j (i + k)) n = true then nI (clW N (fun k => R.2.2.1 j (i + k)) n) else -1000001)) ∧ RowsM K (if clB N (fun k => R.2.2.1 j (i + k)) n = true then stR R (nI 0) else R) ∧ Only I K rmP)) : ∀ c, c ≤ N 3 → WP (d + 3) (186, 7, (some .int), sc0) 147 ([.ref 271, .int (nI j), .int (nI i), .int (nI n), .int (nI 0), .int (nI (40 * j + i)), .int (nI (acM N m r (clW N (fun k => R.2.2.1 j (i + k)) k) c)), .int (nI k), .int (nI m), .int (nI r), .int (nI c)]) [] I (fun v K => v = some (.int (if clB N (fun k => R.2.2.1 j (i + k)) n = true then nI (clW N (fun k => R.2.2.1 j (i + k)) n) else -1000001)) ∧ RowsM K (if clB N (fun k => R.2.2.1 j (i + k)) n = true then stR R (nI 0) else R) ∧ Only I K rmP) := by
  refine loopUp (fun c hc ih => ?_)
  obtain ⟨b0, b1, b2, b3, b4, b5, b6, b7, b8, bS, bC, bS1, bC1, bZ, bG⟩ := id hN
  obtain ⟨s6, s7, s64⟩ := hN.set64
  have hcl := clW_lt (N := N) (f := (fun k => R.2.2.1 j (i + k))) k
  have hc5 : 2 ^ N 3 ≤ 2 ^ 5 := Nat.pow_le_pow_right (by decide) b3
  have hac := acM_le (N := N) (m := m) (x := r) (w := clW N (fun k => R.2.2.1 j (i + k)) k) (c := c)
  have hcc : 2 ^ c ≤ 2 ^ 5 := Nat.pow_le_pow_right (by decide) (by omega)
  have hsl : c < 5 → shareN (pullN N (N (27 + c))) m ≤ 99 := fun q => Nat.le_trans shareN_le (pullN_le (bC c q).1)
  obtain ⟨-, -, -, zl⟩ := hR.size hj hl
  refine WP.run (pc' := 154) (L' := [.ref 271, .int (nI j), .int (nI i), .int (nI n), .int (nI 0), .int (nI (40 * j + i)), .int (nI (acM N m r (clW N (fun k => R.2.2.1 j (i + k)) k) c)), .int (nI k), .int (nI m), .int (nI r), .int (nI c)]) (st' := [.int (nI 3), .ref 272, .int (nI c)]) (I1 := I) 4 rfl ?_
  refine WP.iald rfl rfl rfl (by omega) (by decide) ?_
  refine WP.cg (st' := [.int (nI (N 3)), .int (nI c)]) rfl (congrArg (fun z : Int32 => (.int z :: [.int (nI c)] : List Value)) (hM 3 (by omega))) rfl ?_
  refine WP.run (pc' := if (nI (N 3)) ≤ (nI c) then 192 else 158) (L' := [.ref 271, .int (nI j), .int (nI i), .int (nI n), .int (nI 0), .int (nI (40 * j + i)), .int (nI (acM N m r (clW N (fun k => R.2.2.1 j (i + k)) k) c)), .int (nI k), .int (nI m), .int (nI r), .int (nI c)]) (st' := []) (I1 := I) 1 rfl ?_
  refine WP.br (fun h1 => ?_) (fun h1 => ?_)
  · have h1 : N 3 ≤ c := nI_le_ (by omega) (by omega) h1
    refine WP.run (pc' := 195) (L' := [.ref 271, .int (nI j), .int (nI i), .int (nI n), .int (nI 0), .int (nI (40 * j + i)), .int (nI (acM N m r (clW N (fun k => R.2.2.1 j (i + k)) k) c)), .int ((nI k) + nI 1), .int (nI m), .int (nI r), .int (nI c)]) (st' := []) (I1 := I) 1 rfl ?_
    refine WP.cg (L' := [.ref 271, .int (nI j), .int (nI i), .int (nI n), .int (nI 0), .int (nI (40 * j + i)), .int (nI (acM N m r (clW N (fun k => R.2.2.1 j (i + k)) k) c)), .int (nI (k + 1)), .int (nI m), .int (nI r), .int (nI c)]) (congrArg (fun z : Int32 => ([.ref 271, .int (nI j), .int (nI i), .int (nI n), .int (nI 0), .int (nI (40 * j + i)), .int (nI (acM N m r (clW N (fun k => R.2.2.1 j (i + k)) k) c)), .int z, .int (nI m), .int (nI r), .int (nI c)] : List Value)) (nI_add k 1)) rfl rfl ?_
    refine WP.run (pc' := 78) (L' := [.ref 271, .int (nI j), .int (nI i), .int (nI n), .int (nI 0), .int (nI (40 * j + i)), .int (nI (acM N m r (clW N (fun k => R.2.2.1 j (i + k)) k) c)), .int (nI (k + 1)), .int (nI m), .int (nI r), .int (nI c)]) (st' := []) (I1 := I) 1 rfl ?_
    refine WP.cg (L' := [.ref 271, .int (nI j), .int (nI i), .int (nI n), .int (nI 0), .int (nI (40 * j + i)), .int (nI (clW N (fun k => R.2.2.1 j (i + k)) k &&& whoN N m r)), .int (nI (k + 1)), .int (nI m), .int (nI r), .int (nI c)]) (by rw [show c = N 3 by omega, acM_e hN hcl]) rfl rfl (g _ _ _)
  · have h1 : ¬ N 3 ≤ c := fun q => h1 (nI_le_r (by omega) q)
    refine WP.run (pc' := 165) (L' := [.ref 271, .int (nI j), .int (nI i), .int (nI n), .int (nI 0), .int (nI (40 * j + i)), .int (nI (acM N m r (clW N (fun k => R.2.2.1 j (i + k)) k) c)), .int (nI k), .int (nI m), .int (nI r), .int (nI c)]) (st' := [.int (nI m), .int (nI c), .ref 271, .int (nI (acM N m r (clW N (fun k => R.2.2.1 j (i + k)) k) c))]) (I1 := I) 4 rfl ?_
    refine WP.callV (rest := [.int (nI (acM N m r (clW N (fun k => R.2.2.1 j (i + k)) k) c))]) rfl rfl (ms_strainOf (d := d) (c := c) (m := m) hM hN (by omega) (by omega)) ?_
    refine WP.run (pc' := if ¬ (nI (shareN (pullN N (N (27 + c))) m)) = (nI r) then 177 else 173) (L' := [.ref 271, .int (nI j), .int (nI i), .int (nI n), .int (nI 0), .int (nI (40 * j + i)), .int (nI (acM N m r (clW N (fun k => R.2.2.1 j (i + k)) k) c)), .int (nI k), .int (nI m), .int (nI r), .int (nI c)]) (st' := [.int (nI (acM N m r (clW N (fun k => R.2.2.1 j (i + k)) k) c))]) (I1 := I) 2 rfl ?_
    refine WP.br (fun h2 => ?_) (fun h2 => ?_)
    · have h2 : ¬ shareN (pullN N (N (27 + c))) m = r := fun q => h2 (nI_eq_r q)
      refine WP.run (pc' := 181) (L' := [.ref 271, .int (nI j), .int (nI i), .int (nI n), .int (nI 0), .int (nI (40 * j + i)), .int (nI (acM N m r (clW N (fun k => R.2.2.1 j (i + k)) k) c)), .int (nI k), .int (nI m), .int (nI r), .int (nI c)]) (st' := [.int ((nI 1) <<< ((nI c) &&& 31)), .int (nI (acM N m r (clW N (fun k => R.2.2.1 j (i + k)) k) c))]) (I1 := I) 3 rfl ?_
      refine WP.cg (st' := [.int (nI (2 ^ c)), .int (nI (acM N m r (clW N (fun k => R.2.2.1 j (i + k)) k) c))]) rfl (congrArg (fun z : Int32 => (.int z :: [.int (nI (acM N m r (clW N (fun k => R.2.2.1 j (i + k)) k) c))] : List Value)) (nI_shl1 c (by omega))) rfl ?_
      refine WP.run (pc' := 183) (L' := [.ref 271, .int (nI j), .int (nI i), .int (nI n), .int (nI 0), .int (nI (40 * j + i)), .int (nI (acM N m r (clW N (fun k => R.2.2.1 j (i + k)) k) c)), .int (nI k), .int (nI m), .int (nI r), .int (nI c)]) (st' := [.int ((nI (2 ^ c)) ^^^ (-1)), .int (nI (acM N m r (clW N (fun k => R.2.2.1 j (i + k)) k) c))]) (I1 := I) 2 rfl ?_
      refine WP.run (pc' := 184) (L' := [.ref 271, .int (nI j), .int (nI i), .int (nI n), .int (nI 0), .int (nI (40 * j + i)), .int (nI (acM N m r (clW N (fun k => R.2.2.1 j (i + k)) k) c)), .int (nI k), .int (nI m), .int (nI r), .int (nI c)]) (st' := [.int ((nI (acM N m r (clW N (fun k => R.2.2.1 j (i + k)) k) c)) &&& ((nI (2 ^ c)) ^^^ (-1)))]) (I1 := I) 1 rfl ?_
      refine WP.cg (st' := [.int (nI (sdf (acM N m r (clW N (fun k => R.2.2.1 j (i + k)) k) c) (2 ^ c)))]) rfl (congrArg (fun z : Int32 => ([.int z] : List Value)) (nI_not _ _ (by omega) (by omega))) rfl ?_
      refine WP.run (pc' := 189) (L' := [.ref 271, .int (nI j), .int (nI i), .int (nI n), .int (nI 0), .int (nI (40 * j + i)), .int (nI (sdf (acM N m r (clW N (fun k => R.2.2.1 j (i + k)) k) c) (2 ^ c))), .int (nI k), .int (nI m), .int (nI r), .int ((nI c) + nI 1)]) (st' := []) (I1 := I) 2 rfl ?_
      refine WP.cg (L' := [.ref 271, .int (nI j), .int (nI i), .int (nI n), .int (nI 0), .int (nI (40 * j + i)), .int (nI (sdf (acM N m r (clW N (fun k => R.2.2.1 j (i + k)) k) c) (2 ^ c))), .int (nI k), .int (nI m), .int (nI r), .int (nI (c + 1))]) (congrArg (fun z : Int32 => ([.ref 271, .int (nI j), .int (nI i), .int (nI n), .int (nI 0), .int (nI (40 * j + i)), .int (nI (sdf (acM N m r (clW N (fun k => R.2.2.1 j (i + k)) k) c) (2 ^ c))), .int (nI k), .int (nI m), .int (nI r), .int z] : List Value)) (nI_add c 1)) rfl rfl ?_
      refine WP.run (pc' := 147) (L' := [.ref 271, .int (nI j), .int (nI i), .int (nI n), .int (nI 0), .int (nI (40 * j + i)), .int (nI (sdf (acM N m r (clW N (fun k => R.2.2.1 j (i + k)) k) c) (2 ^ c))), .int (nI k), .int (nI m), .int (nI r), .int (nI (c + 1))]) (st' := []) (I1 := I) 1 rfl ?_
      refine WP.cg (L' := [.ref 271, .int (nI j), .int (nI i), .int (nI n), .int (nI 0), .int (nI (40 * j + i)), .int (nI (acM N m r (clW N (fun k => R.2.2.1 j (i + k)) k) (c + 1))), .int (nI k), .int (nI m), .int (nI r), .int (nI (c + 1))]) (by rw [acM_f (by omega) (by assumption)]) rfl rfl (ih (by omega))
    · have h2 : shareN (pullN N (N (27 + c))) m = r := nI_eq_ (by omega) (by omega) (Decidable.byContradiction h2)
      refine WP.run (pc' := 183) (L' := [.ref 271, .int (nI j), .int (nI i), .int (nI n), .int (nI 0), .int (nI (40 * j + i)), .int (nI (acM N m r (clW N (fun k => R.2.2.1 j (i + k)) k) c)), .int (nI k), .int (nI m), .int (nI r), .int (nI c)]) (st' := [.int (-1), .int (nI (acM N m r (clW N (fun k => R.2.2.1 j (i + k)) k) c))]) (I1 := I) 2 rfl ?_
      refine WP.run (pc' := 184) (L' := [.ref 271, .int (nI j), .int (nI i), .int (nI n), .int (nI 0), .int (nI (40 * j + i)), .int (nI (acM N m r (clW N (fun k => R.2.2.1 j (i + k)) k) c)), .int (nI k), .int (nI m), .int (nI r), .int (nI c)]) (st' := [.int ((nI (acM N m r (clW N (fun k => R.2.2.1 j (i + k)) k) c)) &&& (-1))]) (I1 := I) 1 rfl ?_
      refine WP.cg (st' := [.int (nI (acM N m r (clW N (fun k => R.2.2.1 j (i + k)) k) c))]) rfl (congrArg (fun z : Int32 => ([.int z] : List Value)) (nI_m1 _ (by omega))) rfl ?_
      refine WP.run (pc' := 189) (L' := [.ref 271, .int (nI j), .int (nI i), .int (nI n), .int (nI 0), .int (nI (40 * j + i)), .int (nI (acM N m r (clW N (fun k => R.2.2.1 j (i + k)) k) c)), .int (nI k), .int (nI m), .int (nI r), .int ((nI c) + nI 1)]) (st' := []) (I1 := I) 2 rfl ?_
      refine WP.cg (L' := [.ref 271, .int (nI j), .int (nI i), .int (nI n), .int (nI 0), .int (nI (40 * j + i)), .int (nI (acM N m r (clW N (fun k => R.2.2.1 j (i + k)) k) c)), .int (nI k), .int (nI m), .int (nI r), .int (nI (c + 1))]) (congrArg (fun z : Int32 => ([.ref 271, .int (nI j), .int (nI i), .int (nI n), .int (nI 0), .int (nI (40 * j + i)), .int (nI (acM N m r (clW N (fun k => R.2.2.1 j (i + k)) k) c)), .int (nI k), .int (nI m), .int (nI r), .int z] : List Value)) (nI_add c 1)) rfl rfl ?_
      refine WP.run (pc' := 147) (L' := [.ref 271, .int (nI j), .int (nI i), .int (nI n), .int (nI 0), .int (nI (40 * j + i)), .int (nI (acM N m r (clW N (fun k => R.2.2.1 j (i + k)) k) c)), .int (nI k), .int (nI m), .int (nI r), .int (nI (c + 1))]) (st' := []) (I1 := I) 1 rfl ?_
      refine WP.cg (L' := [.ref 271, .int (nI j), .int (nI i), .int (nI n), .int (nI 0), .int (nI (40 * j + i)), .int (nI (acM N m r (clW N (fun k => R.2.2.1 j (i + k)) k) (c + 1))), .int (nI k), .int (nI m), .int (nI r), .int (nI (c + 1))]) (by rw [acM_t (by omega) (by assumption)]) rfl rfl (ih (by omega))
set_option maxRecDepth 100000 in
theorem lm_clout {d : Nat} {I : Pl} {R : RS} {N : Nat → Nat} {j i n : Nat} (hM : T0 I N) (hN : TI N) (hR : RowsM I R) (hj : j < 8) (hl : ¬ R.1 j = 3) (hn : n ≤ 8) (hi : i + 2 * n ≤ 40) : ∀ k, k ≤ n → clB N (fun k => R.2.2.1 j (i + k)) k = true → ∀ y1 y2 y3 : Value, WP (d + 3) (186, 7, (some .int), sc0) 78 ([.ref 271, .int (nI j), .int (nI i), .int (nI n), .int (nI 0), .int (nI (40 * j + i)), .int (nI (clW N (fun k => R.2.2.1 j (i + k)) k)), .int (nI k), y1, y2, y3]) [] I (fun v K => v = some (.int (if clB N (fun k => R.2.2.1 j (i + k)) n = true then nI (clW N (fun k => R.2.2.1 j (i + k)) n) else -1000001)) ∧ RowsM K (if clB N (fun k => R.2.2.1 j (i + k)) n = true then stR R (nI 0) else R) ∧ Only I K rmP) := by
  refine loopUp (fun k hk ih => ?_)
  intro hb y1 y2 y3
  obtain ⟨b0, b1, b2, b3, b4, b5, b6, b7, b8, bS, bC, bS1, bC1, bZ, bG⟩ := id hN
  obtain ⟨s6, s7, s64⟩ := hN.set64
  have hcl := clW_lt (N := N) (f := (fun k => R.2.2.1 j (i + k))) k
  have hc5 : 2 ^ N 3 ≤ 2 ^ 5 := Nat.pow_le_pow_right (by decide) b3
  obtain ⟨-, -, -, zl⟩ := hR.size hj hl
  have hit := ((hR.2 j hj).2.2 zl).2.2.2
  refine WP.run (pc' := if (nI n) ≤ (nI k) then 198 else 84) (L' := [.ref 271, .int (nI j), .int (nI i), .int (nI n), .int (nI 0), .int (nI (40 * j + i)), .int (nI (clW N (fun k => R.2.2.1 j (i + k)) k)), .int (nI k), y1, y2, y3]) (st' := []) (I1 := I) 3 rfl ?_
  refine WP.br (fun h1 => ?_) (fun h1 => ?_)
  · have h1 : n ≤ k := nI_le_ (by omega) (by omega) h1
    refine WP.run (pc' := 201) (L' := [.ref 271, .int (nI j), .int (nI i), .int (nI n), .int (nI 0), .int (nI (40 * j + i)), .int (nI (clW N (fun k => R.2.2.1 j (i + k)) k)), .int (nI k), y1, y2, y3]) (st' := [.int (nI (clW N (fun k => R.2.2.1 j (i + k)) k)), .ref 271]) (I1 := I) 2 rfl ?_
    refine WP.callV (rest := []) rfl rfl (ms_well (d := d + 2) (I := I) (x := (nI (clW N (fun k => R.2.2.1 j (i + k)) k)))) ?_
    exact WP.ret rfl rfl (by
          rw [show n = k by omega, if_pos hb, if_pos hb]
          exact ⟨rfl, RowsM.stat hR, Only.up Only.rfl_ (Or.inl ⟨rfl, rfl⟩)⟩)
  · have h1 : ¬ n ≤ k := fun q => h1 (nI_le_r (by omega) q)
    refine WP.run (pc' := 94) (L' := [.ref 271, .int (nI j), .int (nI i), .int (nI n), .int (nI 0), .int (nI (40 * j + i)), .int (nI (clW N (fun k => R.2.2.1 j (i + k)) k)), .int (nI k), y1, y2, y3]) (st' := [.int ((nI 2) * (nI k)), .int (nI (40 * j + i)), .ref 276]) (I1 := I) 6 rfl ?_
    refine WP.cg (st' := [.int (nI (2 * k)), .int (nI (40 * j + i)), .ref 276]) rfl (congrArg (fun z : Int32 => (.int z :: [.int (nI (40 * j + i)), .ref 276] : List Value)) (pk_mul 2 k)) rfl ?_
    refine WP.run (pc' := 95) (L' := [.ref 271, .int (nI j), .int (nI i), .int (nI n), .int (nI 0), .int (nI (40 * j + i)), .int (nI (clW N (fun k => R.2.2.1 j (i + k)) k)), .int (nI k), y1, y2, y3]) (st' := [.int ((nI (40 * j + i)) + (nI (2 * k))), .ref 276]) (I1 := I) 1 rfl ?_
    refine WP.cg (st' := [.int (nI ((40 * j + i) + (2 * k))), .ref 276]) rfl (congrArg (fun z : Int32 => (.int z :: [.ref 276] : List Value)) (nI_add (40 * j + i) (2 * k))) rfl ?_
    refine WP.iald rfl rfl rfl (by omega) (by decide) ?_
    refine WP.cg (st' := [.int (R.2.2.1 j (i + (2 * k)))]) rfl (congrArg (fun z : Int32 => ([.int z] : List Value)) ((congrArg (I 276) (by omega)).trans (hit (i + (2 * k)) (by omega)))) rfl ?_
    refine WP.run (pc' := 108) (L' := [.ref 271, .int (nI j), .int (nI i), .int (nI n), .int (nI 0), .int (nI (40 * j + i)), .int (nI (clW N (fun k => R.2.2.1 j (i + k)) k)), .int (nI k), .int (R.2.2.1 j (i + (2 * k))), y2, y3]) (st' := [.int ((nI 2) * (nI k)), .int (nI (40 * j + i)), .ref 276]) (I1 := I) 7 rfl ?_
    refine WP.cg (st' := [.int (nI (2 * k)), .int (nI (40 * j + i)), .ref 276]) rfl (congrArg (fun z : Int32 => (.int z :: [.int (nI (40 * j + i)), .ref 276] : List Value)) (pk_mul 2 k)) rfl ?_
    refine WP.run (pc' := 109) (L' := [.ref 271, .int (nI j), .int (nI i), .int (nI n), .int (nI 0), .int (nI (40 * j + i)), .int (nI (clW N (fun k => R.2.2.1 j (i + k)) k)), .int (nI k), .int (R.2.2.1 j (i + (2 * k))), y2, y3]) (st' := [.int ((nI (40 * j + i)) + (nI (2 * k))), .ref 276]) (I1 := I) 1 rfl ?_
    refine WP.cg (st' := [.int (nI ((40 * j + i) + (2 * k))), .ref 276]) rfl (congrArg (fun z : Int32 => (.int z :: [.ref 276] : List Value)) (nI_add (40 * j + i) (2 * k))) rfl ?_
    refine WP.run (pc' := 111) (L' := [.ref 271, .int (nI j), .int (nI i), .int (nI n), .int (nI 0), .int (nI (40 * j + i)), .int (nI (clW N (fun k => R.2.2.1 j (i + k)) k)), .int (nI k), .int (R.2.2.1 j (i + (2 * k))), y2, y3]) (st' := [.int ((nI ((40 * j + i) + (2 * k))) + (nI 1)), .ref 276]) (I1 := I) 2 rfl ?_
    refine WP.cg (st' := [.int (nI (((40 * j + i) + (2 * k)) + 1)), .ref 276]) rfl (congrArg (fun z : Int32 => (.int z :: [.ref 276] : List Value)) (nI_add ((40 * j + i) + (2 * k)) 1)) rfl ?_
    refine WP.iald rfl rfl rfl (by omega) (by decide) ?_
    refine WP.cg (st' := [.int (R.2.2.1 j (i + (2 * k + 1)))]) rfl (congrArg (fun z : Int32 => ([.int z] : List Value)) ((congrArg (I 276) (by omega)).trans (hit (i + (2 * k + 1)) (by omega)))) rfl ?_
    refine WP.run (pc' := 117) (L' := [.ref 271, .int (nI j), .int (nI i), .int (nI n), .int (nI 0), .int (nI (40 * j + i)), .int (nI (clW N (fun k => R.2.2.1 j (i + k)) k)), .int (nI k), .int (R.2.2.1 j (i + (2 * k))), .int (R.2.2.1 j (i + (2 * k + 1))), y3]) (st' := [.int (R.2.2.1 j (i + (2 * k))), .ref 271]) (I1 := I) 3 rfl ?_
    refine WP.callB (rest := []) rfl rfl (ms_isSet (d := d + 1) (x := (R.2.2.1 j (i + (2 * k)))) hM hN) (fun h2 => ?_) (fun h2 => ?_)
    · refine WP.run (pc' := if (R.2.2.1 j (i + (2 * k))) = 0 then 141 else 128) (L' := [.ref 271, .int (nI j), .int (nI i), .int (nI n), .int (nI 0), .int (nI (40 * j + i)), .int (nI (clW N (fun k => R.2.2.1 j (i + k)) k)), .int (nI k), .int (R.2.2.1 j (i + (2 * k))), .int (R.2.2.1 j (i + (2 * k + 1))), y3]) (st' := []) (I1 := I) 3 rfl ?_
      refine WP.br (fun h3 => ?_) (fun h3 => ?_)
      · have h3 : (R.2.2.1 j (i + (2 * k))).toInt = 0 := (iEqZ).mp h3
        refine WP.run (pc' := 143) (L' := [.ref 271, .int (nI j), .int (nI i), .int (nI n), .int (nI 0), .int (nI (40 * j + i)), .int (nI (clW N (fun k => R.2.2.1 j (i + k)) k)), .int (nI k), .int (R.2.2.1 j (i + (2 * k))), .int (R.2.2.1 j (i + (2 * k + 1))), y3]) (st' := [.int (-1000001)]) (I1 := I) 1 rfl ?_
        exact WP.ret rfl rfl (by
                  rw [clB_no (f := (fun k => R.2.2.1 j (i + k))) (k := k) (n := n) (by omega) (fun q => by first | exact absurd q.1 (by assumption) | exact absurd q.2.2 (by assumption) | exact q.2.1 (iEqZ.mpr (by assumption)))]
                  exact ⟨rfl, hR, Only.rfl_⟩)
      · have h3 : ¬ ((R.2.2.1 j (i + (2 * k))).toInt = 0) := fun q => h3 ((iEqZ).mpr q)
        refine WP.run (pc' := 135) (L' := [.ref 271, .int (nI j), .int (nI i), .int (nI n), .int (nI 0), .int (nI (40 * j + i)), .int (nI (clW N (fun k => R.2.2.1 j (i + k)) k)), .int (nI k), .int (R.2.2.1 j (i + (2 * k))), .int (R.2.2.1 j (i + (2 * k + 1))), y3]) (st' := [.long (99 : Int64), .long (0 : Int64), .long ((R.2.2.1 j (i + (2 * k + 1))).toInt64)]) (I1 := I) 4 rfl ?_
        refine WP.callB (rest := []) rfl rfl (sp_inA (d := d + 2) (x := (R.2.2.1 j (i + (2 * k + 1)))) (n := 100) (hi := (99 : Int64)) rfl) (fun h4 => ?_) (fun h4 => ?_)
        · refine WP.run (pc' := 147) (L' := [.ref 271, .int (nI j), .int (nI i), .int (nI n), .int (nI 0), .int (nI (40 * j + i)), .int (nI (clW N (fun k => R.2.2.1 j (i + k)) k)), .int (nI k), .int (R.2.2.1 j (i + (2 * k))), .int (R.2.2.1 j (i + (2 * k + 1))), .int (nI 0)]) (st' := []) (I1 := I) 3 rfl ?_
          have hA1 : inA (R.2.2.1 j (i + (2 * k))) (2 ^ N 2) := (by assumption)
          have hA2 : inA (R.2.2.1 j (i + (2 * k + 1))) 100 := (by assumption)
          have hA0 : ¬ R.2.2.1 j (i + (2 * k)) = 0 := fun q => absurd (show (R.2.2.1 j (i + (2 * k))).toInt = 0 by rw [q]; rfl) (by assumption)
          obtain ⟨m, hm, em⟩ := inA_of hA1 (by omega)
          obtain ⟨r, hr, er⟩ := inA_of hA2 (by omega)
          refine WP.cg (L' := [.ref 271, .int (nI j), .int (nI i), .int (nI n), .int (nI 0), .int (nI (40 * j + i)), .int (nI (acM N m r (clW N (fun k => R.2.2.1 j (i + k)) k) 0)), .int (nI k), .int (nI m), .int (nI r), .int (nI 0)]) (by rw [em, er, acM_0 (by omega)]) rfl rfl ?_
          refine lm_clin hM hN hR hj hl hn hi (by omega) hr (fun y1 y2 y3 => ?_) 0 (Nat.zero_le _)
          refine WP.cg (L' := [.ref 271, .int (nI j), .int (nI i), .int (nI n), .int (nI 0), .int (nI (40 * j + i)), .int (nI (clW N (fun k => R.2.2.1 j (i + k)) (k + 1))), .int (nI (k + 1)), y1, y2, y3]) (by rw [show clW N (fun k => R.2.2.1 j (i + k)) (k + 1) = clW N (fun k => R.2.2.1 j (i + k)) k &&& whoN N (nOf (R.2.2.1 j (i + (2 * k)))) (nOf (R.2.2.1 j (i + (2 * k + 1)))) from rfl, em, er, nOf_nI (by omega), nOf_nI (by omega)]) rfl rfl (ih (by omega) (clB_yes hb hA1 hA0 hA2) _ _ _)
        · refine WP.run (pc' := 143) (L' := [.ref 271, .int (nI j), .int (nI i), .int (nI n), .int (nI 0), .int (nI (40 * j + i)), .int (nI (clW N (fun k => R.2.2.1 j (i + k)) k)), .int (nI k), .int (R.2.2.1 j (i + (2 * k))), .int (R.2.2.1 j (i + (2 * k + 1))), y3]) (st' := [.int (-1000001)]) (I1 := I) 2 rfl ?_
          exact WP.ret rfl rfl (by
                      rw [clB_no (f := (fun k => R.2.2.1 j (i + k))) (k := k) (n := n) (by omega) (fun q => by first | exact absurd q.1 (by assumption) | exact absurd q.2.2 (by assumption) | exact q.2.1 (iEqZ.mpr (by assumption)))]
                      exact ⟨rfl, hR, Only.rfl_⟩)
    · refine WP.run (pc' := 143) (L' := [.ref 271, .int (nI j), .int (nI i), .int (nI n), .int (nI 0), .int (nI (40 * j + i)), .int (nI (clW N (fun k => R.2.2.1 j (i + k)) k)), .int (nI k), .int (R.2.2.1 j (i + (2 * k))), .int (R.2.2.1 j (i + (2 * k + 1))), y3]) (st' := [.int (-1000001)]) (I1 := I) 2 rfl ?_
      exact WP.ret rfl rfl (by
              rw [clB_no (f := (fun k => R.2.2.1 j (i + k))) (k := k) (n := n) (by omega) (fun q => by first | exact absurd q.1 (by assumption) | exact absurd q.2.2 (by assumption) | exact q.2.1 (iEqZ.mpr (by assumption)))]
              exact ⟨rfl, hR, Only.rfl_⟩)
set_option maxRecDepth 100000 in
theorem ms_climbers {d : Nat} {I : Pl} {R : RS} {x i n : Int32} {N : Nat → Nat} (hM : T0 I N) (hN : TI N) (hR : RowsM I R) : EvX (d + 4) 186 [.ref 271, .int x, .int i, .int n] I (fun v K => v = some (.int (nClimbers N R x i n).1) ∧ RowsM K (nClimbers N R x i n).2 ∧ Only I K rmP) := by
  obtain ⟨b0, b1, b2, b3, b4, b5, b6, b7, b8, bS, bC, bS1, bC1, bZ, bG⟩ := id hN
  obtain ⟨s6, s7, s64⟩ := hN.set64
  have hc5 : 2 ^ N 3 ≤ 2 ^ 5 := Nat.pow_le_pow_right (by decide) b3
  have hc6 := Nat.two_pow_pos (N 3)
  refine EvX.enter rfl rfl rfl ?_
  refine WP.run (pc' := 1) (L' := [.ref 271, .int x, .int i, .int n, UU, UU, UU, UU, UU, UU, UU]) (st' := [.ref 271]) (I1 := I) 1 rfl ?_
  refine WP.callB (rest := []) rfl rfl (ms_isNone (d := d + 2) hM hN) (fun h1 => ?_) (fun h1 => ?_)
  · refine WP.run (pc' := 9) (L' := [.ref 271, .int x, .int i, .int n, UU, UU, UU, UU, UU, UU, UU]) (st' := [.int (-1000002)]) (I1 := I) 2 rfl ?_
    exact WP.ret rfl rfl (by
          have e : nClimbers N R x i n = ((-1000002), R) := by (unfold nClimbers; (repeat rw [nOf_nI (by omega)]); (repeat first | rw [if_pos (by first | assumption | omega | (refine inA_iff.mpr ?_; omega) | (intro q; have q2 := inA_iff.mp q; omega) | (intro q; omega) | (refine ⟨?_, ?_⟩ <;> rw [nI_int (by omega)] <;> omega) | (rw [nI_int (by omega)]; omega) | (intro q; rw [nI_int (by omega)] at q; omega) | (refine ⟨?_, ?_, ?_⟩ <;> omega) | (intro q; obtain ⟨q1, q2, q3⟩ := q; omega) | fail)] | rw [if_neg (by first | assumption | omega | (refine inA_iff.mpr ?_; omega) | (intro q; have q2 := inA_iff.mp q; omega) | (intro q; omega) | (refine ⟨?_, ?_⟩ <;> rw [nI_int (by omega)] <;> omega) | (rw [nI_int (by omega)]; omega) | (intro q; rw [nI_int (by omega)] at q; omega) | (refine ⟨?_, ?_, ?_⟩ <;> omega) | (intro q; obtain ⟨q1, q2, q3⟩ := q; omega) | fail)])) <;> rfl
          rw [e]
          exact ⟨rfl, hR, Only.rfl_⟩)
  · refine WP.run (pc' := 11) (L' := [.ref 271, .int x, .int i, .int n, UU, UU, UU, UU, UU, UU, UU]) (st' := [.int x]) (I1 := I) 2 rfl ?_
    refine WP.callB (rest := []) rfl rfl (ms_isRow (d := d + 1) (x := x)) (fun h2 => ?_) (fun h2 => ?_)
    · refine WP.run (pc' := 17) (L' := [.ref 271, .int x, .int i, .int n, UU, UU, UU, UU, UU, UU, UU]) (st' := []) (I1 := I) 1 rfl ?_
      have hx_j : inA x 8 := (by assumption)
      obtain ⟨j, hj, rfl⟩ := inA_of hx_j (by omega)
      refine WP.run (pc' := 23) (L' := [.ref 271, .int (nI j), .int i, .int n, UU, UU, UU, UU, UU, UU, UU]) (st' := [.long (8 : Int64), .long (1 : Int64), .long n.toInt64]) (I1 := I) 4 rfl ?_
      refine WP.callB (rest := []) rfl rfl (sp_inR (d := d + 2) (x := n) (lo := (1 : Int64)) (hi := (8 : Int64)) (a := 1) (b := 8) rfl rfl) (fun h3 => ?_) (fun h3 => ?_)
      · refine WP.run (pc' := 32) (L' := [.ref 271, .int (nI j), .int i, .int n, UU, UU, UU, UU, UU, UU, UU]) (st' := []) (I1 := I) 1 rfl ?_
        have hx_n1 : inA n 9 := (by refine inA_iff.mpr ?_; have hp : inR n 1 8 := (by assumption); have h1 := hp.1; have h2 := hp.2; omega)
        obtain ⟨n1, hn1, rfl⟩ := inA_of hx_n1 (by omega)
        refine WP.run (pc' := 38) (L' := [.ref 271, .int (nI j), .int i, .int (nI n1), UU, UU, UU, UU, UU, UU, UU]) (st' := [.int ((nI 2) * (nI n1)), .int i, .int (nI j), .ref 271]) (I1 := I) 6 rfl ?_
        refine WP.cg (st' := [.int (nI (2 * n1)), .int i, .int (nI j), .ref 271]) rfl (congrArg (fun z : Int32 => (.int z :: [.int i, .int (nI j), .ref 271] : List Value)) (pk_mul 2 n1)) rfl ?_
        refine WP.callV (rest := []) rfl rfl (ms_against (d := d + 2) (r := j) (i := i) (n := (nI (2 * n1))) hR (by omega)) ?_
        refine WP.run (pc' := 43) (L' := [.ref 271, .int (nI j), .int i, .int (nI n1), .int (nI (agN R j i (nI (2 * n1)))), UU, UU, UU, UU, UU, UU]) (st' := []) (I1 := I) 1 rfl ?_
        by_cases hl_j : R.1 j = 3
        · refine WP.cg (L' := [.ref 271, .int (nI j), .int i, .int (nI n1), .int (nI 1), UU, UU, UU, UU, UU, UU]) (st' := []) (by rw [show agN R j i (nI (2 * n1)) = 1 from if_pos hl_j]) (by rfl) rfl ?_
          refine WP.run (pc' := 51) (L' := [.ref 271, .int (nI j), .int i, .int (nI n1), .int (nI 1), UU, UU, UU, UU, UU, UU]) (st' := [.int (nI 1), .ref 271]) (I1 := I) 4 rfl ?_
          refine WP.callV (rest := []) rfl rfl (ms_found (d := d + 2) (I := I) (x := 1)) ?_
          exact WP.ret rfl rfl (by
                      have e : nClimbers N R (nI j) i (nI n1) = ((-1000010 - nI 1), stR R (nI 1)) := by (unfold nClimbers; (repeat rw [nOf_nI (by omega)]); (repeat first | rw [if_pos (by first | assumption | omega | (refine inA_iff.mpr ?_; omega) | (intro q; have q2 := inA_iff.mp q; omega) | (intro q; omega) | (refine ⟨?_, ?_⟩ <;> rw [nI_int (by omega)] <;> omega) | (rw [nI_int (by omega)]; omega) | (intro q; rw [nI_int (by omega)] at q; omega) | (refine ⟨?_, ?_, ?_⟩ <;> omega) | (intro q; obtain ⟨q1, q2, q3⟩ := q; omega) | fail)] | rw [if_neg (by first | assumption | omega | (refine inA_iff.mpr ?_; omega) | (intro q; have q2 := inA_iff.mp q; omega) | (intro q; omega) | (refine ⟨?_, ?_⟩ <;> rw [nI_int (by omega)] <;> omega) | (rw [nI_int (by omega)]; omega) | (intro q; rw [nI_int (by omega)] at q; omega) | (refine ⟨?_, ?_, ?_⟩ <;> omega) | (intro q; obtain ⟨q1, q2, q3⟩ := q; omega) | fail)])) <;> rfl
                      rw [e]
                      exact ⟨rfl, (RowsM.stat hR), (Only.up Only.rfl_ (Or.inl ⟨rfl, rfl⟩))⟩)
        · obtain ⟨z1_j, z2_j, z3_j, z4_j⟩ := hR.size (r := j) (by omega) hl_j
          by_cases hp4 : plP i (nI (2 * n1)) (R.2.1 j)
          · refine WP.cg (L' := [.ref 271, .int (nI j), .int i, .int (nI n1), .int (nI 0), UU, UU, UU, UU, UU, UU]) (st' := []) (by rw [show agN R j i (nI (2 * n1)) = 0 from (if_neg (by assumption)).trans (if_pos hp4)]) (by rfl) rfl ?_
            refine WP.run (pc' := 55) (L' := [.ref 271, .int (nI j), .int i, .int (nI n1), .int (nI 0), UU, UU, UU, UU, UU, UU]) (st' := []) (I1 := I) 2 rfl ?_
            have hx_i1 : inA i 41 := (by refine inA_iff.mpr ?_; have hp : plP i (nI (2 * n1)) (R.2.1 j) := (by assumption); obtain ⟨p1, p2, p3⟩ := hp; rw [nI_int (by omega)] at p3; omega)
            obtain ⟨i1, hi1, rfl⟩ := inA_of hx_i1 (by omega)
            have hp1 : plP (nI i1) (nI (2 * n1)) (R.2.1 j) := (by assumption)
            have hq1 := hp1.2.2
            rw [nI_int (by omega), nI_int (by omega)] at hq1
            refine WP.run (pc' := 59) (L' := [.ref 271, .int (nI j), .int (nI i1), .int (nI n1), .int (nI 0), UU, UU, UU, UU, UU, UU]) (st' := [.int ((nI 40) * (nI j))]) (I1 := I) 3 rfl ?_
            refine WP.cg (st' := [.int (nI (40 * j))]) rfl (congrArg (fun z : Int32 => (.int z :: [] : List Value)) (pk_mul 40 j)) rfl ?_
            refine WP.run (pc' := 61) (L' := [.ref 271, .int (nI j), .int (nI i1), .int (nI n1), .int (nI 0), UU, UU, UU, UU, UU, UU]) (st' := [.int ((nI (40 * j)) + (nI i1))]) (I1 := I) 2 rfl ?_
            refine WP.cg (st' := [.int (nI ((40 * j) + i1))]) rfl (congrArg (fun z : Int32 => (.int z :: [] : List Value)) (nI_add (40 * j) i1)) rfl ?_
            refine WP.run (pc' := 69) (L' := [.ref 271, .int (nI j), .int (nI i1), .int (nI n1), .int (nI 0), .int (nI ((40 * j) + i1)), UU, UU, UU, UU, UU]) (st' := [.int (nI 3), .ref 272, .int (nI 1)]) (I1 := I) 5 rfl ?_
            refine WP.iald rfl rfl rfl (by omega) (by decide) ?_
            refine WP.cg (st' := [.int (nI (N 3)), .int (nI 1)]) rfl (congrArg (fun z : Int32 => (.int z :: [.int (nI 1)] : List Value)) (hM 3 (by omega))) rfl ?_
            refine WP.run (pc' := 71) (L' := [.ref 271, .int (nI j), .int (nI i1), .int (nI n1), .int (nI 0), .int (nI ((40 * j) + i1)), UU, UU, UU, UU, UU]) (st' := [.int ((nI 1) <<< ((nI (N 3)) &&& 31))]) (I1 := I) 1 rfl ?_
            refine WP.cg (st' := [.int (nI (2 ^ (N 3)))]) rfl (congrArg (fun z : Int32 => (.int z :: [] : List Value)) (nI_shl1 (N 3) (by omega))) rfl ?_
            refine WP.run (pc' := 73) (L' := [.ref 271, .int (nI j), .int (nI i1), .int (nI n1), .int (nI 0), .int (nI ((40 * j) + i1)), UU, UU, UU, UU, UU]) (st' := [.int ((nI (2 ^ (N 3))) - (nI 1))]) (I1 := I) 2 rfl ?_
            refine WP.cg (st' := [.int (nI ((2 ^ (N 3)) - 1))]) rfl (congrArg (fun z : Int32 => (.int z :: [] : List Value)) (pk_sub (a := 2 ^ (N 3)) (b := 1) (by omega))) rfl ?_
            refine WP.run (pc' := 78) (L' := [.ref 271, .int (nI j), .int (nI i1), .int (nI n1), .int (nI 0), .int (nI ((40 * j) + i1)), .int (nI ((2 ^ (N 3)) - 1)), .int (nI 0), UU, UU, UU]) (st' := []) (I1 := I) 3 rfl ?_
            have e : nClimbers N R (nI j) (nI i1) (nI n1) = (if clB N (fun k => R.2.2.1 j (i1 + k)) n1 = true then (nI (clW N (fun k => R.2.2.1 j (i1 + k)) n1), stR R (nI 0)) else (-1000001, R)) := by
              unfold nClimbers
              (repeat rw [nOf_nI (by omega)])
              rw [if_neg (by assumption), if_pos (by assumption), if_pos (by assumption), if_neg (by assumption), if_pos (by assumption)]
            rw [e, apply_ite Prod.fst, apply_ite Prod.snd]
            refine WP.cg (L' := [.ref 271, .int (nI j), .int (nI i1), .int (nI n1), .int (nI 0), .int (nI (40 * j + i1)), .int (nI (clW N (fun k => R.2.2.1 j (i1 + k)) 0)), .int (nI 0), UU, UU, UU]) rfl rfl rfl ?_
            exact lm_clout hM hN hR hj (by assumption) (by omega) (by omega) 0 (Nat.zero_le _) rfl _ _ _
          · refine WP.cg (L' := [.ref 271, .int (nI j), .int i, .int (nI n1), .int (nI 2), UU, UU, UU, UU, UU, UU]) (st' := []) (by rw [show agN R j i (nI (2 * n1)) = 2 from (if_neg (by assumption)).trans (if_neg hp4)]) (by rfl) rfl ?_
            refine WP.run (pc' := 51) (L' := [.ref 271, .int (nI j), .int i, .int (nI n1), .int (nI 2), UU, UU, UU, UU, UU, UU]) (st' := [.int (nI 2), .ref 271]) (I1 := I) 4 rfl ?_
            refine WP.callV (rest := []) rfl rfl (ms_found (d := d + 2) (I := I) (x := 2)) ?_
            exact WP.ret rfl rfl (by
                          have e : nClimbers N R (nI j) i (nI n1) = ((-1000010 - nI 2), stR R (nI 2)) := by (unfold nClimbers; (repeat rw [nOf_nI (by omega)]); (repeat first | rw [if_pos (by first | assumption | omega | (refine inA_iff.mpr ?_; omega) | (intro q; have q2 := inA_iff.mp q; omega) | (intro q; omega) | (refine ⟨?_, ?_⟩ <;> rw [nI_int (by omega)] <;> omega) | (rw [nI_int (by omega)]; omega) | (intro q; rw [nI_int (by omega)] at q; omega) | (refine ⟨?_, ?_, ?_⟩ <;> omega) | (intro q; obtain ⟨q1, q2, q3⟩ := q; omega) | fail)] | rw [if_neg (by first | assumption | omega | (refine inA_iff.mpr ?_; omega) | (intro q; have q2 := inA_iff.mp q; omega) | (intro q; omega) | (refine ⟨?_, ?_⟩ <;> rw [nI_int (by omega)] <;> omega) | (rw [nI_int (by omega)]; omega) | (intro q; rw [nI_int (by omega)] at q; omega) | (refine ⟨?_, ?_, ?_⟩ <;> omega) | (intro q; obtain ⟨q1, q2, q3⟩ := q; omega) | fail)])) <;> rfl
                          rw [e]
                          exact ⟨rfl, (RowsM.stat hR), (Only.up Only.rfl_ (Or.inl ⟨rfl, rfl⟩))⟩)
      · refine WP.run (pc' := 31) (L' := [.ref 271, .int (nI j), .int i, .int n, UU, UU, UU, UU, UU, UU, UU]) (st' := [.int (-1000001)]) (I1 := I) 2 rfl ?_
        exact WP.ret rfl rfl (by
                  have e : nClimbers N R (nI j) i n = ((-1000001), R) := by (unfold nClimbers; (repeat rw [nOf_nI (by omega)]); (repeat first | rw [if_pos (by first | assumption | omega | (refine inA_iff.mpr ?_; omega) | (intro q; have q2 := inA_iff.mp q; omega) | (intro q; omega) | (refine ⟨?_, ?_⟩ <;> rw [nI_int (by omega)] <;> omega) | (rw [nI_int (by omega)]; omega) | (intro q; rw [nI_int (by omega)] at q; omega) | (refine ⟨?_, ?_, ?_⟩ <;> omega) | (intro q; obtain ⟨q1, q2, q3⟩ := q; omega) | fail)] | rw [if_neg (by first | assumption | omega | (refine inA_iff.mpr ?_; omega) | (intro q; have q2 := inA_iff.mp q; omega) | (intro q; omega) | (refine ⟨?_, ?_⟩ <;> rw [nI_int (by omega)] <;> omega) | (rw [nI_int (by omega)]; omega) | (intro q; rw [nI_int (by omega)] at q; omega) | (refine ⟨?_, ?_, ?_⟩ <;> omega) | (intro q; obtain ⟨q1, q2, q3⟩ := q; omega) | fail)])) <;> rfl
                  rw [e]
                  exact ⟨rfl, hR, Only.rfl_⟩)
    · refine WP.run (pc' := 31) (L' := [.ref 271, .int x, .int i, .int n, UU, UU, UU, UU, UU, UU, UU]) (st' := [.int (-1000001)]) (I1 := I) 2 rfl ?_
      exact WP.ret rfl rfl (by
              have e : nClimbers N R x i n = ((-1000001), R) := by (unfold nClimbers; (repeat rw [nOf_nI (by omega)]); (repeat first | rw [if_pos (by first | assumption | omega | (refine inA_iff.mpr ?_; omega) | (intro q; have q2 := inA_iff.mp q; omega) | (intro q; omega) | (refine ⟨?_, ?_⟩ <;> rw [nI_int (by omega)] <;> omega) | (rw [nI_int (by omega)]; omega) | (intro q; rw [nI_int (by omega)] at q; omega) | (refine ⟨?_, ?_, ?_⟩ <;> omega) | (intro q; obtain ⟨q1, q2, q3⟩ := q; omega) | fail)] | rw [if_neg (by first | assumption | omega | (refine inA_iff.mpr ?_; omega) | (intro q; have q2 := inA_iff.mp q; omega) | (intro q; omega) | (refine ⟨?_, ?_⟩ <;> rw [nI_int (by omega)] <;> omega) | (rw [nI_int (by omega)]; omega) | (intro q; rw [nI_int (by omega)] at q; omega) | (refine ⟨?_, ?_, ?_⟩ <;> omega) | (intro q; obtain ⟨q1, q2, q3⟩ := q; omega) | fail)])) <;> rfl
              rw [e]
              exact ⟨rfl, hR, Only.rfl_⟩)
