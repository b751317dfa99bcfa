/-! the reference's loops over its row -/
def outM (I : Pl) (d : Nat) : Nat → Pl
  | 0 => I
  | k + 1 => upN (outM I d k) 272 (d + k) (outM I d k 272 k)
def inM (I : Pl) (s : Nat) : Nat → Pl
  | 0 => I
  | k + 1 => upN (inM I s k) 272 k (inM I s k 272 (s + k))
def shN (I : Pl) : Nat → Pl
  | 0 => I
  | k + 1 => upN (shN I k) 272 (188 + k) (shN I k 272 (188 + k + 47))
theorem outM_o {I : Pl} {d : Nat} : ∀ k o x, ¬ o = 272 → outM I d k o x = I o x := by
  intro k
  induction k with
  | zero => intro o x _; rfl
  | succ k ih =>
    intro o x ho
    unfold outM
    rw [upN_no ho, ih o x ho]
theorem outM_v {I : Pl} {d : Nat} (hd : 47 ≤ d) : ∀ k x, k ≤ 47 → outM I d k 272 x = if d ≤ x ∧ x < d + k then I 272 (x - d) else I 272 x := by
  intro k
  induction k with
  | zero =>
    intro x _
    rw [if_neg (by omega)]
    rfl
  | succ k ih =>
    intro x hk
    unfold outM
    by_cases q : x = d + k
    · subst q
      rw [upN_s, ih k (by omega), if_neg (by omega), if_pos ⟨by omega, by omega⟩, show d + k - d = k by omega]
    · rw [upN_nk q, ih x (by omega)]
      by_cases q2 : d ≤ x ∧ x < d + k
      · rw [if_pos q2, if_pos ⟨q2.1, by omega⟩]
      · rw [if_neg q2, if_neg (by omega)]
theorem inM_o {I : Pl} {s : Nat} : ∀ k o x, ¬ o = 272 → inM I s k o x = I o x := by
  intro k
  induction k with
  | zero => intro o x _; rfl
  | succ k ih =>
    intro o x ho
    unfold inM
    rw [upN_no ho, ih o x ho]
theorem inM_v {I : Pl} {s : Nat} (hs : 47 ≤ s) : ∀ k x, k ≤ 47 → inM I s k 272 x = if x < k then I 272 (s + x) else I 272 x := by
  intro k
  induction k with
  | zero =>
    intro x _
    rw [if_neg (by omega)]
    rfl
  | succ k ih =>
    intro x hk
    unfold inM
    by_cases q : x = k
    · subst q
      rw [upN_s, ih _ (by omega), if_neg (by omega), if_pos (by omega)]
    · rw [upN_nk q, ih x (by omega)]
      by_cases q2 : x < k
      · rw [if_pos q2, if_pos (by omega)]
      · rw [if_neg q2, if_neg (by omega)]
theorem shN_o {I : Pl} : ∀ k o x, ¬ o = 272 → shN I k o x = I o x := by
  intro k
  induction k with
  | zero => intro o x _; rfl
  | succ k ih =>
    intro o x ho
    unfold shN
    rw [upN_no ho, ih o x ho]
theorem shN_v {I : Pl} : ∀ k x, shN I k 272 x = if 188 ≤ x ∧ x < 188 + k then I 272 (x + 47) else I 272 x := by
  intro k
  induction k with
  | zero =>
    intro x
    rw [if_neg (by omega)]
    rfl
  | succ k ih =>
    intro x
    unfold shN
    by_cases q : x = 188 + k
    · subst q
      rw [upN_s, ih, if_neg (by omega), if_pos ⟨by omega, by omega⟩]
    · rw [upN_nk q, ih]
      by_cases q2 : 188 ≤ x ∧ x < 188 + k
      · rw [if_pos q2, if_pos ⟨q2.1, by omega⟩]
      · rw [if_neg q2, if_neg (by omega)]
def mindN (I : Pl) (m : Nat) : Pl := if m = 24 then upN (outM (upN (shN I 1081) 271 1 (nI 23)) (188 + 47 * 23) 47) 271 1 (nI (23 + 1)) else upN (outM I (188 + 47 * m) 47) 271 1 (nI (m + 1))
theorem minds_TS {I : Pl} {S : TwS} (hS : TSM I S) (hI : TSI S) : TSM (mindN I S.2.1) (actS S) ∧ Only I (mindN I S.2.1) tsmP := by
  obtain ⟨h1, h2, h3⟩ := hS
  obtain ⟨-, hm, -⟩ := hI
  unfold mindN actS
  by_cases q : S.2.1 = 24
  · rw [if_pos q, if_neg (by omega), if_neg (by omega)]
    refine ⟨⟨fun k hk => ?_, upN_s, fun j hj k hk => ?_⟩, ?_⟩
    · rw [upN_no (by decide), outM_v (by decide) 47 k (Nat.le_refl _), if_neg (by omega), upN_no (by decide), shN_v, if_neg (by omega)]
      exact h1 k hk
    · have hj : j < 24 := hj
      show _ = nI ((if j = 23 then S.1 else S.2.2 (j + 1)) k)
      rw [upN_no (by decide), outM_v (by decide) 47 _ (Nat.le_refl _)]
      by_cases e : j = 23
      · rw [if_pos e, if_pos ⟨by omega, by omega⟩, upN_no (by decide), shN_v, if_neg (by omega), show 188 + 47 * j + k - (188 + 47 * 23) = k by omega]
        exact h1 k hk
      · rw [if_neg e, if_neg (by omega), upN_no (by decide), shN_v, if_pos ⟨by omega, by omega⟩, show 188 + 47 * j + k + 47 = 188 + 47 * (j + 1) + k by omega]
        exact h3 (j + 1) (by omega) k hk
    · intro o k h
      have ha : ¬ (o = 271 ∧ k = 1) := fun z => h (Or.inl z)
      have hb : ¬ (o = 272 ∧ (k < 47 ∨ 188 ≤ k)) := fun z => h (Or.inr z)
      by_cases q2 : o = 272
      · subst q2
        rw [upN_no (by decide), outM_v (by decide) 47 k (Nat.le_refl _), if_neg (by omega), upN_no (by decide), shN_v, if_neg (by omega)]
      · have e1 : ∀ (J : Pl) (v : Int32), upN J 271 1 v o k = J o k := fun J v => by
          by_cases q3 : o = 271
          · exact upN_nk (fun z => ha ⟨q3, z⟩)
          · exact upN_no q3
        rw [e1, outM_o _ _ _ q2, e1, shN_o _ _ _ q2]
  · rw [if_neg q, if_pos (by omega), if_pos (by omega)]
    refine ⟨⟨fun k hk => ?_, upN_s, fun j hj k hk => ?_⟩, ?_⟩
    · rw [upN_no (by decide), outM_v (by omega) 47 k (Nat.le_refl _), if_neg (by omega)]
      exact h1 k hk
    · have hj : j < S.2.1 + 1 := hj
      show _ = nI (updF S.2.2 S.2.1 S.1 j k)
      rw [upN_no (by decide), outM_v (by omega) 47 _ (Nat.le_refl _)]
      by_cases e : j = S.2.1
      · rw [e, updF_s, if_pos ⟨by omega, by omega⟩, show 188 + 47 * S.2.1 + k - (188 + 47 * S.2.1) = k by omega]
        exact h1 k hk
      · rw [updF_o e, if_neg (by omega)]
        exact h3 j (by omega) k hk
    · intro o k h
      have ha : ¬ (o = 271 ∧ k = 1) := fun z => h (Or.inl z)
      have hb : ¬ (o = 272 ∧ (k < 47 ∨ 188 ≤ k)) := fun z => h (Or.inr z)
      by_cases q2 : o = 272
      · subst q2
        rw [upN_no (by decide), outM_v (by omega) 47 k (Nat.le_refl _), if_neg (by omega)]
      · have e1 : ∀ (J : Pl) (v : Int32), upN J 271 1 v o k = J o k := fun J v => by
          by_cases q3 : o = 271
          · exact upN_nk (fun z => ha ⟨q3, z⟩)
          · exact upN_no q3
        rw [e1, outM_o _ _ _ q2]
theorem mundo_TS {I : Pl} {S : TwS} (hS : TSM I S) (hI : TSI S) (h0 : 0 < S.2.1) : TSM (inM (upN I 271 1 (nI (S.2.1 - 1))) (188 + 47 * (S.2.1 - 1)) 47) (S.2.2 (S.2.1 - 1), S.2.1 - 1, S.2.2) ∧ Only I (inM (upN I 271 1 (nI (S.2.1 - 1))) (188 + 47 * (S.2.1 - 1)) 47) tsmP := by
  obtain ⟨h1, h2, h3⟩ := hS
  refine ⟨⟨fun k hk => ?_, ?_, fun j hj k hk => ?_⟩, ?_⟩
  · rw [inM_v (by omega) 47 k (Nat.le_refl _), if_pos hk, upN_no (by decide)]
    exact h3 (S.2.1 - 1) (by omega) k hk
  · rw [inM_o _ _ _ (by decide), upN_s]
  · have hj : j < S.2.1 - 1 := hj
    rw [inM_v (by omega) 47 _ (Nat.le_refl _), if_neg (by omega), upN_no (by decide)]
    exact h3 j (by omega) k hk
  · intro o k h
    have ha : ¬ (o = 271 ∧ k = 1) := fun z => h (Or.inl z)
    have hb : ¬ (o = 272 ∧ (k < 47 ∨ 188 ≤ k)) := fun z => h (Or.inr z)
    by_cases q2 : o = 272
    · subst q2
      rw [inM_v (by omega) 47 k (Nat.le_refl _), if_neg (by omega), upN_no (by decide)]
    · rw [inM_o _ _ _ q2]
      by_cases q3 : o = 271
      · exact upN_nk (fun z => ha ⟨q3, z⟩)
      · exact upN_no q3
theorem mimage {I : Pl} {N : Nat → Nat} {T : ImS} {j : Nat} (hj : j < 2) (hM : T0 I N) (hIm : ImM I T) : ImM (upN (outM I (47 * (j + 1)) 47) 273 j (nI 1)) (updF T.1 j 1, updF T.2 j N) ∧ Only I (upN (outM I (47 * (j + 1)) 47) 273 j (nI 1)) immP := by
  refine ⟨fun k hk => ?_, ?_⟩
  · show _ = nI (updF T.1 j 1 k) ∧ (updF T.1 j 1 k = 1 → Tm _ _ (updF T.2 j N k))
    by_cases q : k = j
    · rw [q, updF_s, updF_s, upN_s]
      refine ⟨rfl, fun _ e he => ?_⟩
      rw [upN_no (by decide), outM_v (by omega) 47 _ (Nat.le_refl _), if_pos ⟨by omega, by omega⟩, show 47 * (j + 1) + e - 47 * (j + 1) = e by omega]
      exact hM e he
    · rw [updF_o q, updF_o q, upN_nk q, outM_o _ _ _ (by decide)]
      refine ⟨(hIm k hk).1, fun z e he => ?_⟩
      rw [upN_no (by decide), outM_v (by omega) 47 _ (Nat.le_refl _), if_neg (by omega)]
      exact (hIm k hk).2 z e he
  · intro o k h
    have ha : ¬ o = 273 := fun z => h (Or.inl z)
    have hb : ¬ (o = 272 ∧ 47 ≤ k ∧ k < 141) := fun z => h (Or.inr z)
    rw [upN_no ha]
    by_cases q2 : o = 272
    · subst q2
      rw [outM_v (by omega) 47 k (Nat.le_refl _), if_neg (by omega)]
    · exact outM_o _ _ _ q2
theorem mrestore {I : Pl} {T : ImS} {j : Nat} {F : Nat → Nat → Nat} (hj : j < 2) (hIm : ImM I T) (h1 : T.1 j = 1) : TSM (upN (inM I (47 * (j + 1)) 47) 271 1 (nI 0)) (T.2 j, 0, F) ∧ Only I (upN (inM I (47 * (j + 1)) 47) 271 1 (nI 0)) tsmP := by
  refine ⟨⟨fun k hk => ?_, upN_s, fun j hj => absurd hj (Nat.not_lt_zero _)⟩, ?_⟩
  · rw [upN_no (by decide), inM_v (by omega) 47 k (Nat.le_refl _), if_pos hk]
    exact (hIm j hj).2 h1 k hk
  · intro o k h
    have ha : ¬ (o = 271 ∧ k = 1) := fun z => h (Or.inl z)
    have hb : ¬ (o = 272 ∧ (k < 47 ∨ 188 ≤ k)) := fun z => h (Or.inr z)
    by_cases q2 : o = 272
    · subst q2
      rw [upN_no (by decide), inM_v (by omega) 47 k (Nat.le_refl _), if_neg (by omega)]
    · by_cases q3 : o = 271
      · rw [upN_nk (fun z => ha ⟨q3, z⟩), inM_o _ _ _ q2]
      · rw [upN_no q3, inM_o _ _ _ q2]
/-! a climb, by the reference's way -/
theorem brkP_cg {M N : Nat → Nat} (e : ∀ i, 9 ≤ i → M i = N i) {m sh : Nat} : ∀ k, brkP M m sh k = brkP N m sh k := by
  intro k
  induction k with
  | zero => rfl
  | succ k ih =>
    unfold brkP capN
    rw [ih, e (9 + k) (by omega), e (15 + k) (by omega), e (21 + k) (by omega)]
theorem bkC_brN {N : Nat → Nat} {c t : Nat} : bkC (brN N c t) c = brkN N (brN N c t 6) (shareN (pullN N (N (27 + c))) (brN N c t 6)) := by
  unfold bkC brkN shC pullN
  rw [brN_o t 5 (by omega), brN_o t 2 (by omega), brN_o t (27 + c) (by omega)]
  exact brkP_cg (fun i hi => brN_o t i (by omega)) _
theorem bits6 : ∀ i, i < 6 → Nat.testBit 63 i = true := by decide
theorem tb_out {a i : Nat} (ha : a < 64) (hi : 6 ≤ i) : Nat.testBit a i = false := Nat.testBit_lt_two_pow (Nat.lt_of_lt_of_le ha (by
  have : 2 ^ 6 ≤ 2 ^ i := Nat.pow_le_pow_right (by decide) hi
  omega))
theorem sdf_chain {p l b : Nat} (hp : p < 64) (hl : l < 64) (hb : b < 64) (h1 : l &&& p = l) (h2 : b &&& l = b) : sdf p l ||| b = sdf p (sdf l b) := by
  unfold sdf
  apply Nat.eq_of_testBit_eq
  intro i
  have e1 := congrArg (fun z => Nat.testBit z i) h1
  have e2 := congrArg (fun z => Nat.testBit z i) h2
  simp only [Nat.testBit_and, Nat.testBit_or, Nat.testBit_xor] at e1 e2 ⊢
  by_cases hi : i < 6
  · rw [bits6 i hi]
    revert e1 e2
    cases Nat.testBit p i <;> cases Nat.testBit l i <;> cases Nat.testBit b i <;> decide
  · rw [tb_out hp (by omega), tb_out hl (by omega), tb_out hb (by omega)]
    rfl
theorem sdf_in : ∀ l, l < 64 → ∀ b, b < 64 → ∀ p, p < 1 → sdf l b &&& l = sdf l b := by decide +kernel
theorem sub_tr {l p b : Nat} (h1 : l &&& p = l) (h2 : b &&& l = b) : b &&& p = b := by
  rw [← h2, Nat.and_assoc, h1]
theorem sdf_self : ∀ p, p < 64 → sdf p p = 0 := by decide +kernel
theorem brN_gone {N : Nat → Nat} {c : Nat} (hN : TI N) : ∀ t, brN N c t 7 = N 7 ||| sdf (N 6) (brN N c t 6) ∧ brN N c t 6 &&& N 6 = brN N c t 6 := by
  intro t
  have h60 := hN.set64
  induction t with
  | zero =>
    show N 7 = N 7 ||| sdf (N 6) (N 6) ∧ N 6 &&& N 6 = N 6
    rw [sdf_self _ h60.1, Nat.or_zero, Nat.and_self]
    exact ⟨rfl, rfl⟩
  | succ t ih =>
    obtain ⟨i1, i2⟩ := ih
    have hT := brN_TI (c := c) hN t
    have hs := hT.set64
    have hl := bkC_lt (N := brN N c t) c
    rw [brN_e]
    split
    · exact ⟨i1, i2⟩
    · have hi : bkC (brN N c t) c &&& brN N c t 6 = bkC (brN N c t) c := brkP_in hs.1 _ hT.2.2.1
      have e6 : brS (brN N c t) (bkC (brN N c t) c) 6 = sdf (brN N c t 6) (bkC (brN N c t) c) := by
        unfold brS
        rw [setN_o (by omega), setN_s]
      have e7 : brS (brN N c t) (bkC (brN N c t) c) 7 = brN N c t 7 ||| bkC (brN N c t) c := by
        unfold brS
        rw [setN_s]
      rw [e6, e7, i1, Nat.or_assoc, sdf_chain h60.1 hs.1 (by omega) i2 hi]
      exact ⟨rfl, sub_tr i2 (sdf_in _ hs.1 _ (by omega) 0 (by decide))⟩
theorem popc_sdf2 : ∀ p, p < 64 → ∀ l, l < 64 → l &&& p = l → popc (sdf p l) = popc p - popc l := by decide +kernel
theorem brN_fun {N : Nat → Nat} {c : Nat} (hN : TI N) : brN N c 6 = setN (setN N 7 (N 7 ||| sdf (N 6) (brN N c 6 6))) 6 (brN N c 6 6) := by
  funext i
  by_cases q6 : i = 6
  · rw [q6, setN_s]
  · rw [setN_o q6]
    by_cases q7 : i = 7
    · rw [q7, setN_s, (brN_gone hN 6).1]
    · rw [setN_o q7, brN_o 6 i (by omega)]
theorem wN_zero {N : Nat → Nat} {sh : Nat} : ∀ k, wN N 0 sh k = N := by
  intro k
  induction k with
  | zero => rfl
  | succ k ih =>
    unfold wN
    have : ¬ bitN 0 k = 1 := by
      unfold bitN
      rw [Nat.zero_div]
      decide
    rw [if_neg this, ih]
theorem setN_same {N : Nat → Nat} {i : Nat} : setN N i (N i + 0) = N := by
  funext j
  by_cases q : j = i
  · rw [q, setN_s, Nat.add_zero]
  · rw [setN_o q]
theorem climb_M {N : Nat → Nat} {c : Nat} (hN : TI N) : wN (setN (setN (setN N 7 (N 7 ||| sdf (N 6) (brN N c 6 6))) 6 (brN N c 6 6)) (42 + c) (setN (setN N 7 (N 7 ||| sdf (N 6) (brN N c 6 6))) 6 (brN N c 6 6) (42 + c) + if brN N c 6 6 = 0 then 1 else 0)) (brN N c 6 6) (shareN (pullN N (N (27 + c))) (brN N c 6 6)) (N 2) = climbN N c := by
  rw [← brN_fun hN]
  unfold climbN
  split
  · rename_i h
    rw [h, wN_zero]
  · rw [setN_same]
    unfold shC pullN
    rw [brN_o 6 5 (by omega), brN_o 6 2 (by omega), brN_o 6 (27 + c) (by omega)]
theorem climb_H {N : Nat → Nat} {c : Nat} (hN : TI N) (hc : c < N 3) : ∀ s, s < N 2 → bitN (brN N c 6 6) s = 1 → N (21 + s) + wearN (N (9 + s)) (shareN (pullN N (N (27 + c))) (brN N c 6 6)) ≤ 198 := by
  intro s hs hb
  have hne : ¬ brN N c 6 6 = 0 := by
    intro q
    rw [q] at hb
    unfold bitN at hb
    rw [Nat.zero_div] at hb
    exact absurd hb (by decide)
  have h := wear_ok (c := c) (brN_TI (c := c) hN 6) (by rw [brN_o 6 3 (by omega)]; exact hc) hne (brN_end hN) s (by rw [brN_o 6 2 (by omega)]; exact hs) hb
  unfold shC pullN at h
  rw [brN_o 6 5 (by omega), brN_o 6 (27 + c) (by omega), brN_o 6 (21 + s) (by omega), brN_o 6 (9 + s) (by omega)] at h
  exact h
