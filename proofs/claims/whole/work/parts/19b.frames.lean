/-! what is left as it was -/
theorem cpy_o {f : Pl} {a b sp dp n o k : Nat} (h : ¬ o = b) : cpy f a b sp dp n o k = f o k := by
  unfold cpy
  rw [beqF h]
  rfl
theorem cpy_b {f : Pl} {a b n k : Nat} (h : k < n) : cpy f a b 0 0 n b k = f a k := by
  unfold cpy
  rw [Nat.beq_refl, cond_true, if_pos ⟨Nat.zero_le _, by omega⟩, Nat.sub_zero, Nat.zero_add]
theorem upN_no {f : Pl} {a j o k : Nat} {v : Int32} (h : ¬ o = a) : upN f a j v o k = f o k := by
  unfold upN
  rw [beqF h]
  rfl
theorem upN_nk {f : Pl} {a j o k : Nat} {v : Int32} (h : ¬ k = j) : upN f a j v o k = f o k := by
  unfold upN
  rw [beqF h, Bool.and_false]
  rfl
theorem upN_s {f : Pl} {a j : Nat} {v : Int32} : upN f a j v a j = v := by
  unfold upN
  rw [Nat.beq_refl, Nat.beq_refl]
  rfl
theorem becN_fr {I : Pl} {a b o k : Nat} (h : o < a ∨ a + 8 ≤ o) : becN I a b o k = I o k := by
  unfold becN becF
  repeat rw [cpy_o (by omega)]
  repeat rw [upN_no (by omega)]
theorem becN_f {I : Pl} {a b : Nat} (hd : a + 8 ≤ b ∨ b + 8 ≤ a) : ∀ j, j < 9 → becN I a b a j = I b j := by
  intro j hj
  unfold becN
  repeat rw [cpy_o (by omega)]
  unfold becF
  have hc : j = 0 ∨ j = 1 ∨ j = 2 ∨ j = 3 ∨ j = 4 ∨ j = 5 ∨ j = 6 ∨ j = 7 ∨ j = 8 := by omega
  rcases hc with h | h | h | h | h | h | h | h | h <;> subst h <;> (repeat rw [upN_nk (by decide)]) <;> exact upN_s
theorem becF_fr {I : Pl} {a b o k : Nat} (h : o < a ∨ a < o) : becF I a b o k = I o k := by
  unfold becF
  repeat rw [upN_no (by omega)]
theorem becN_a {I : Pl} {a b i n k : Nat} (hd : a + 8 ≤ b ∨ b + 8 ≤ a) (hi : (1 ≤ i ∧ i ≤ 3 ∧ n = 6) ∨ (4 ≤ i ∧ i ≤ 7 ∧ n = 5)) (hk : k < n) : becN I a b (a + i) k = I (b + i) k := by
  have hc : i = 1 ∨ i = 2 ∨ i = 3 ∨ i = 4 ∨ i = 5 ∨ i = 6 ∨ i = 7 := by omega
  unfold becN
  rcases hc with h | h | h | h | h | h | h <;> subst h <;> (repeat rw [cpy_o (by omega)]) <;> rw [cpy_b (by omega)] <;> (repeat rw [cpy_o (by omega)]) <;> exact becF_fr (by omega)
theorem becN_tw {I : Pl} {a b : Nat} {N : Nat → Nat} (hd : a + 8 ≤ b ∨ b + 8 ≤ a) (h : Tw I b N) : Tw (becN I a b) a N := by
  obtain ⟨⟨h0, h1, h2, h3, h4, h5, h6, h7, h8⟩, hs, hc⟩ := h
  refine ⟨⟨?_, ?_, ?_, ?_, ?_, ?_, ?_, ?_, ?_⟩, fun k hk => ⟨?_, ?_, ?_⟩, fun k hk => ⟨?_, ?_, ?_, ?_⟩⟩
  · rw [becN_f hd 0 (by decide), h0]
  · rw [becN_f hd 1 (by decide), h1]
  · rw [becN_f hd 2 (by decide), h2]
  · rw [becN_f hd 3 (by decide), h3]
  · rw [becN_f hd 4 (by decide), h4]
  · rw [becN_f hd 5 (by decide), h5]
  · rw [becN_f hd 6 (by decide), h6]
  · rw [becN_f hd 7 (by decide), h7]
  · rw [becN_f hd 8 (by decide), h8]
  · rw [becN_a hd (by omega) hk, (hs k hk).1]
  · rw [becN_a hd (by omega) hk, (hs k hk).2.1]
  · rw [becN_a hd (by omega) hk, (hs k hk).2.2]
  · rw [becN_a hd (by omega) hk, (hc k hk).1]
  · rw [becN_a hd (by omega) hk, (hc k hk).2.1]
  · rw [becN_a hd (by omega) hk, (hc k hk).2.2.1]
  · rw [becN_a hd (by omega) hk, (hc k hk).2.2.2]
/-- towers do not see what lies elsewhere -/
theorem Tw.cg {I J : Pl} {t : Nat} {N : Nat → Nat} (h : Tw I t N) (hJ : ∀ o k, t ≤ o → o < t + 8 → J o k = I o k) : Tw J t N := by
  obtain ⟨⟨h0, h1, h2, h3, h4, h5, h6, h7, h8⟩, hs, hc⟩ := h
  refine ⟨⟨?_, ?_, ?_, ?_, ?_, ?_, ?_, ?_, ?_⟩, fun k hk => ⟨?_, ?_, ?_⟩, fun k hk => ⟨?_, ?_, ?_, ?_⟩⟩ <;> rw [hJ _ _ (by omega) (by omega)]
  · exact h0
  · exact h1
  · exact h2
  · exact h3
  · exact h4
  · exact h5
  · exact h6
  · exact h7
  · exact h8
  · exact (hs k hk).1
  · exact (hs k hk).2.1
  · exact (hs k hk).2.2
  · exact (hc k hk).1
  · exact (hc k hk).2.1
  · exact (hc k hk).2.2.1
  · exact (hc k hk).2.2.2
theorem Tw.bec {I : Pl} {t a b : Nat} {N : Nat → Nat} (h : Tw I t N) (hd : a + 8 ≤ t ∨ t + 8 ≤ a) : Tw (becN I a b) t N := h.cg (fun o k h1 h2 => becN_fr (by omega))
