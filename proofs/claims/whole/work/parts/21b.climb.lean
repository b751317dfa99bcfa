/-! a climb in these numbers -/
def shC (N : Nat → Nat) (c : Nat) : Nat := shareN (pullN N (N (27 + c))) (N 6)
def bkC (N : Nat → Nat) (c : Nat) : Nat := brkN N (N 6) (shC N c)
def brS (N : Nat → Nat) (b : Nat) : Nat → Nat := setN (setN N 6 (sdf (N 6) b)) 7 (N 7 ||| b)
def brN (N : Nat → Nat) (c : Nat) : Nat → (Nat → Nat)
  | 0 => N
  | t + 1 => if bkC (brN N c t) c = 0 then brN N c t else brS (brN N c t) (bkC (brN N c t) c)
def climbN (N : Nat → Nat) (c : Nat) : Nat → Nat := if brN N c 6 6 = 0 then setN (brN N c 6) (42 + c) (brN N c 6 (42 + c) + 1) else wN (brN N c 6) (brN N c 6 6) (shC (brN N c 6) c) (brN N c 6 2)
theorem sdf_le (a b : Nat) : sdf a b ≤ a := Nat.and_le_left
theorem and63 : ∀ b, b < 64 → (b ^^^ 63) &&& b = 0 := by decide +kernel
theorem sdf_gone {m g b : Nat} (h : m &&& g = 0) (hb : b < 64) : sdf m b &&& (g ||| b) = 0 := by
  unfold sdf
  rw [Nat.and_or_distrib_left]
  have h1 : m &&& (b ^^^ 63) &&& g = 0 := by
    rw [Nat.and_assoc, Nat.and_comm (b ^^^ 63) g, ← Nat.and_assoc, h, Nat.zero_and]
  have h2 : m &&& (b ^^^ 63) &&& b = 0 := by
    rw [Nat.and_assoc, and63 b hb, Nat.and_zero]
  rw [h1, h2]
  rfl
theorem TI.sets {N : Nat → Nat} {a b : Nat} (h : TI N) (ha : a < 2 ^ N 2) (hb : b < 2 ^ N 2) (hg : a &&& b = 0) : TI (setN (setN N 6 a) 7 b) := by
  obtain ⟨b0, b1, b2, b3, b4, b5, b6, b7, b8, bS, bC, bS1, bC1, bZ, bG⟩ := h
  have e : ∀ i, i < 6 ∨ 8 ≤ i → setN (setN N 6 a) 7 b i = N i := fun i hi => by rw [setN_o (by omega), setN_o (by omega)]
  have e6 : setN (setN N 6 a) 7 b 6 = a := by rw [setN_o (by omega), setN_s]
  have e7 : setN (setN N 6 a) 7 b 7 = b := setN_s
  refine ⟨?_, ?_, ?_, ?_, ?_, ?_, ?_, ?_, ?_, ?_, ?_, ?_, ?_, ?_, ?_⟩
  · rw [e 0 (by omega)]; exact b0
  · rw [e 1 (by omega)]; exact b1
  · rw [e 2 (by omega)]; exact b2
  · rw [e 3 (by omega)]; exact b3
  · rw [e 4 (by omega)]; exact b4
  · rw [e 5 (by omega)]; exact b5
  · rw [e6, e 2 (by omega)]; exact ha
  · rw [e7, e 2 (by omega)]; exact hb
  · rw [e 8 (by omega)]; exact b8
  · intro j hj
    rw [e (9 + j) (by omega), e (15 + j) (by omega), e (21 + j) (by omega)]
    exact bS j hj
  · intro c hc
    rw [e (27 + c) (by omega), e (32 + c) (by omega), e (37 + c) (by omega)]
    exact bC c hc
  · rw [e 2 (by omega)]
    intro j hj
    rw [e (9 + j) (by omega), e (15 + j) (by omega)]
    exact bS1 j hj
  · rw [e 3 (by omega)]
    intro c hc
    rw [e (27 + c) (by omega), e (32 + c) (by omega), e (37 + c) (by omega)]
    exact bC1 c hc
  · rw [e 8 (by omega), e 2 (by omega), e 3 (by omega)]
    exact bZ
  · rw [e6, e7]
    exact hg
theorem TI.fell {N : Nat → Nat} {k v : Nat} (h : TI N) : TI (setN N (42 + k) v) := by
  obtain ⟨b0, b1, b2, b3, b4, b5, b6, b7, b8, bS, bC, bS1, bC1, bZ, bG⟩ := h
  have e : ∀ i, i < 42 → setN N (42 + k) v i = N i := fun i hi => setN_o (by omega)
  refine ⟨?_, ?_, ?_, ?_, ?_, ?_, ?_, ?_, ?_, ?_, ?_, ?_, ?_, ?_, ?_⟩
  · rw [e 0 (by omega)]; exact b0
  · rw [e 1 (by omega)]; exact b1
  · rw [e 2 (by omega)]; exact b2
  · rw [e 3 (by omega)]; exact b3
  · rw [e 4 (by omega)]; exact b4
  · rw [e 5 (by omega)]; exact b5
  · rw [e 6 (by omega), e 2 (by omega)]; exact b6
  · rw [e 7 (by omega), e 2 (by omega)]; exact b7
  · rw [e 8 (by omega)]; exact b8
  · intro j hj
    rw [e (9 + j) (by omega), e (15 + j) (by omega), e (21 + j) (by omega)]
    exact bS j hj
  · intro c hc
    rw [e (27 + c) (by omega), e (32 + c) (by omega), e (37 + c) (by omega)]
    exact bC c hc
  · rw [e 2 (by omega)]
    intro j hj
    rw [e (9 + j) (by omega), e (15 + j) (by omega)]
    exact bS1 j hj
  · rw [e 3 (by omega)]
    intro c hc
    rw [e (27 + c) (by omega), e (32 + c) (by omega), e (37 + c) (by omega)]
    exact bC1 c hc
  · rw [e 8 (by omega), e 2 (by omega), e 3 (by omega)]
    exact bZ
  · rw [e 6 (by omega), e 7 (by omega)]
    exact bG
theorem Tw.sets {I : Pl} {N : Nat → Nat} {t a b : Nat} (h : Tw I t N) : Tw (upN (upN I t 5 (nI a)) t 6 (nI b)) t (setN (setN N 6 a) 7 b) := by
  have e : ∀ i, i < 6 ∨ 8 ≤ i → setN (setN N 6 a) 7 b i = N i := fun i hi => by rw [setN_o (by omega), setN_o (by omega)]
  have e6 : setN (setN N 6 a) 7 b 6 = a := by rw [setN_o (by omega), setN_s]
  have e7 : setN (setN N 6 a) 7 b 7 = b := setN_s
  obtain ⟨⟨h0, h1, h2, h3, h4, h5, h6, h7, h8⟩, hs, hc⟩ := h
  refine ⟨⟨?_, ?_, ?_, ?_, ?_, ?_, ?_, ?_, ?_⟩, fun j hj => ⟨?_, ?_, ?_⟩, fun j hj => ⟨?_, ?_, ?_, ?_⟩⟩
  · rw [upN_nk (by omega), upN_nk (by omega), e 8 (by omega)]; exact h0
  · rw [upN_nk (by omega), upN_nk (by omega), e 0 (by omega)]; exact h1
  · rw [upN_nk (by omega), upN_nk (by omega), e 1 (by omega)]; exact h2
  · rw [upN_nk (by omega), upN_nk (by omega), e 4 (by omega)]; exact h3
  · rw [upN_nk (by omega), upN_nk (by omega), e 5 (by omega)]; exact h4
  · rw [upN_nk (by omega), upN_s, e6]
  · rw [upN_s, e7]
  · rw [upN_nk (by omega), upN_nk (by omega), e 2 (by omega)]; exact h7
  · rw [upN_nk (by omega), upN_nk (by omega), e 3 (by omega)]; exact h8
  · rw [upN_no (by omega), upN_no (by omega), e (9 + j) (by omega)]; exact (hs j hj).1
  · rw [upN_no (by omega), upN_no (by omega), e (15 + j) (by omega)]; exact (hs j hj).2.1
  · rw [upN_no (by omega), upN_no (by omega), e (21 + j) (by omega)]; exact (hs j hj).2.2
  · rw [upN_no (by omega), upN_no (by omega), e (27 + j) (by omega)]; exact (hc j hj).1
  · rw [upN_no (by omega), upN_no (by omega), e (32 + j) (by omega)]; exact (hc j hj).2.1
  · rw [upN_no (by omega), upN_no (by omega), e (37 + j) (by omega)]; exact (hc j hj).2.2.1
  · rw [upN_no (by omega), upN_no (by omega), e (42 + j) (by omega)]; exact (hc j hj).2.2.2
theorem Tw.fell {I : Pl} {N : Nat → Nat} {t k v : Nat} (h : Tw I t N) : Tw (upN I (t + 7) k (nI v)) t (setN N (42 + k) v) := by
  have e : ∀ i, i < 42 → setN N (42 + k) v i = N i := fun i hi => setN_o (by omega)
  obtain ⟨⟨h0, h1, h2, h3, h4, h5, h6, h7, h8⟩, hs, hc⟩ := h
  refine ⟨⟨?_, ?_, ?_, ?_, ?_, ?_, ?_, ?_, ?_⟩, fun j hj => ⟨?_, ?_, ?_⟩, fun j hj => ⟨?_, ?_, ?_, ?_⟩⟩
  · rw [upN_no (by omega), e 8 (by omega)]; exact h0
  · rw [upN_no (by omega), e 0 (by omega)]; exact h1
  · rw [upN_no (by omega), e 1 (by omega)]; exact h2
  · rw [upN_no (by omega), e 4 (by omega)]; exact h3
  · rw [upN_no (by omega), e 5 (by omega)]; exact h4
  · rw [upN_no (by omega), e 6 (by omega)]; exact h5
  · rw [upN_no (by omega), e 7 (by omega)]; exact h6
  · rw [upN_no (by omega), e 2 (by omega)]; exact h7
  · rw [upN_no (by omega), e 3 (by omega)]; exact h8
  · rw [upN_no (by omega), e (9 + j) (by omega)]; exact (hs j hj).1
  · rw [upN_no (by omega), e (15 + j) (by omega)]; exact (hs j hj).2.1
  · rw [upN_no (by omega), e (21 + j) (by omega)]; exact (hs j hj).2.2
  · rw [upN_no (by omega), e (27 + j) (by omega)]; exact (hc j hj).1
  · rw [upN_no (by omega), e (32 + j) (by omega)]; exact (hc j hj).2.1
  · rw [upN_no (by omega), e (37 + j) (by omega)]; exact (hc j hj).2.2.1
  · by_cases q : j = k
    · subst q
      rw [upN_s, setN_s]
    · rw [upN_nk q, setN_o (by omega)]
      exact (hc j hj).2.2.2
theorem bkC_lt {N : Nat → Nat} (c : Nat) : bkC N c < 2 ^ N 2 := brkP_lt _ _ _ _
theorem brS_TI {N : Nat → Nat} {b : Nat} (h : TI N) (hb : b < 2 ^ N 2) : TI (brS N b) := by
  have h64 := h.set64
  obtain ⟨b0, b1, b2, b3, b4, b5, b6, b7, b8, bS, bC, bS1, bC1, bZ, bG⟩ := id h
  exact h.sets (Nat.lt_of_le_of_lt (sdf_le _ _) b6) (Nat.or_lt_two_pow b7 hb) (sdf_gone bG (by omega))
theorem brN_TI {N : Nat → Nat} {c : Nat} (h : TI N) : ∀ t, TI (brN N c t) := by
  intro t
  induction t with
  | zero => exact h
  | succ t ih =>
    unfold brN
    split
    · exact ih
    · exact brS_TI ih (bkC_lt c)
theorem brN_o {N : Nat → Nat} {c : Nat} : ∀ t i, i < 6 ∨ 8 ≤ i → brN N c t i = N i := by
  intro t
  induction t with
  | zero => intro i _; rfl
  | succ t ih =>
    intro i hi
    unfold brN
    split
    · exact ih i hi
    · unfold brS
      rw [setN_o (by omega), setN_o (by omega)]
      exact ih i hi
theorem brN_e {N : Nat → Nat} {c t : Nat} : brN N c (t + 1) = if bkC (brN N c t) c = 0 then brN N c t else brS (brN N c t) (bkC (brN N c t) c) := rfl
theorem brN_stay {N : Nat → Nat} {c t : Nat} (h : bkC (brN N c t) c = 0) : ∀ j, brN N c (t + j) = brN N c t := by
  intro j
  induction j with
  | zero => rfl
  | succ j ih =>
    rw [show t + (j + 1) = (t + j) + 1 from rfl, brN_e, ih, if_pos h]
theorem brN_six {N : Nat → Nat} {c t : Nat} (ht : t ≤ 6) (h : bkC (brN N c t) c = 0) : brN N c 6 = brN N c t := by
  have := brN_stay h (6 - t)
  rw [show t + (6 - t) = 6 by omega] at this
  exact this
theorem popc_sdf : ∀ m, m < 64 → ∀ b, b < 64 → ¬ b = 0 → b &&& m = b → popc (sdf m b) < popc m := by decide +kernel
theorem pow_in : ∀ k, k < 6 → ∀ m, m < 64 → bitN m k = 1 → 2 ^ k &&& m = 2 ^ k := by decide +kernel
theorem popc_nz : ∀ m, m < 64 → ¬ m = 0 → 1 ≤ popc m := by decide +kernel
theorem popc_z : ∀ m, m < 64 → popc m = 0 → m = 0 := by decide +kernel
theorem brkP_in {N : Nat → Nat} {m sh : Nat} (hm : m < 64) : ∀ k, k ≤ 6 → brkP N m sh k &&& m = brkP N m sh k := by
  intro k
  induction k with
  | zero => intro _; exact Nat.zero_and m
  | succ k ih =>
    intro hk
    have h := ih (by omega)
    unfold brkP
    split
    · rename_i hb
      rw [← or_pow (brkP_lt N m sh k), Nat.and_or_distrib_right, h, pow_in k (by omega) m hm hb.1]
    · exact h
theorem brN_end {N : Nat → Nat} {c : Nat} (hN : TI N) : bkC (brN N c 6) c = 0 := by
  have key : ∀ t, bkC (brN N c t) c = 0 ∨ popc (brN N c t 6) + t ≤ 6 := by
    intro t
    induction t with
    | zero => exact Or.inr (popc_le _)
    | succ t ih =>
      by_cases hb : bkC (brN N c t) c = 0
      · left
        rw [brN_e, if_pos hb]
        exact hb
      · right
        have h := ih.resolve_left hb
        have hT := brN_TI (c := c) hN t
        have hs := hT.set64
        have hl := bkC_lt (N := brN N c t) c
        have hi : bkC (brN N c t) c &&& brN N c t 6 = bkC (brN N c t) c := brkP_in hs.1 _ hT.2.2.1
        have hp := popc_sdf _ hs.1 _ (by omega) hb hi
        rw [brN_e, if_neg hb]
        have e6 : brS (brN N c t) (bkC (brN N c t) c) 6 = sdf (brN N c t 6) (bkC (brN N c t) c) := by
          unfold brS
          rw [setN_o (by omega), setN_s]
        rw [e6]
        omega
  rcases key 6 with h | h
  · exact h
  · have hT := brN_TI (c := c) hN 6
    have hs := hT.set64
    have hz := popc_z _ hs.1 (by omega)
    have hi : bkC (brN N c 6) c &&& brN N c 6 6 = bkC (brN N c 6) c := brkP_in hs.1 _ hT.2.2.1
    rw [hz, Nat.and_zero] at hi
    exact hi.symm
theorem popc_sdf_le : ∀ m, m < 64 → ∀ b, b < 64 → popc (sdf m b) ≤ popc m := by decide +kernel
theorem brN_pop {N : Nat → Nat} {c : Nat} (hN : TI N) : ∀ t, popc (brN N c t 6) ≤ popc (N 6) := by
  intro t
  induction t with
  | zero => exact Nat.le_refl _
  | succ t ih =>
    have hT := brN_TI (c := c) hN t
    have hs := hT.set64
    have hl := bkC_lt (N := brN N c t) c
    rw [brN_e]
    split
    · exact ih
    · have e6 : brS (brN N c t) (bkC (brN N c t) c) 6 = sdf (brN N c t 6) (bkC (brN N c t) c) := by
        unfold brS
        rw [setN_o (by omega), setN_s]
      rw [e6]
      exact Nat.le_trans (popc_sdf_le _ hs.1 _ (by omega)) ih
theorem brkP_z {N : Nat → Nat} {m sh : Nat} : ∀ e, brkP N m sh e = 0 → ∀ k, k < e → bitN m k = 1 → sh + N (21 + k) ≤ capN N k (popc m) := by
  intro e
  induction e with
  | zero => intro _ k hk; omega
  | succ e ih =>
    intro h k hk hb
    unfold brkP at h
    have h1 : 0 < 2 ^ e := Nat.two_pow_pos e
    split at h
    · omega
    · rename_i hq
      rcases Nat.lt_or_ge k e with h2 | h2
      · exact ih (by omega) k h2 hb
      · have : k = e := by omega
        subst this
        exact Nat.le_of_not_lt (fun q => hq ⟨hb, q⟩)
theorem wearN_le {s sh : Nat} (h : 1 ≤ sh) : wearN s sh ≤ sh := by
  unfold wearN
  split
  · omega
  · split
    · omega
    · split
      · omega
      · split <;> omega
theorem shareN_pos {p m : Nat} (hm : m < 64) (h0 : ¬ m = 0) (hp : 1 ≤ p) : 1 ≤ shareN p m := by
  have h := popc_nz m hm h0
  unfold shareN
  rw [if_neg (by omega)]
  exact (Nat.le_div_iff_mul_le (by omega)).mpr (by omega)
theorem pullN_pos {N : Nat → Nat} {w : Nat} (h : 1 ≤ w) : 1 ≤ pullN N w := by
  unfold pullN
  split <;> omega
theorem capN_le {N : Nat → Nat} {k many : Nat} (hN : TI N) (hk : k < 6) : capN N k many ≤ 198 := by
  obtain ⟨z1, z2, z3⟩ := hN.2.2.2.2.2.2.2.2.2.1 k hk
  unfold capN
  split <;> omega
theorem wear_ok {N : Nat → Nat} {c : Nat} (hN : TI N) (hc : c < N 3) (h0 : ¬ N 6 = 0) (hb : bkC N c = 0) : ∀ s, s < N 2 → bitN (N 6) s = 1 → N (21 + s) + wearN (N (9 + s)) (shC N c) ≤ 198 := by
  intro s hs hbit
  have h64 := hN.set64
  obtain ⟨b0, b1, b2, b3, b4, b5, b6, b7, b8, bS, bC, bS1, bC1, bZ, bG⟩ := id hN
  have h1 := brkP_z _ hb s hs hbit
  have h2 := capN_le (k := s) (many := popc (N 6)) hN (by omega)
  have h3 : 1 ≤ shC N c := shareN_pos h64.1 h0 (pullN_pos (bC1 c hc).1)
  have h4 := wearN_le (s := N (9 + s)) h3
  omega
theorem climbN_TI {N : Nat → Nat} {c : Nat} (hN : TI N) (hc : c < N 3) : TI (climbN N c) := by
  have hT := brN_TI (c := c) hN 6
  unfold climbN
  split
  · exact hT.fell
  · rename_i h
    refine wN_TI hT (wear_ok hT ?_ h (brN_end hN)) _ (Nat.le_refl _)
    rw [brN_o 6 3 (by omega)]
    exact hc
