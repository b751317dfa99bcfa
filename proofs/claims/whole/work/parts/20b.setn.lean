/-! a tower with one number changed -/
def setN (N : Nat → Nat) (i v : Nat) : Nat → Nat := fun j => if j = i then v else N j
theorem setN_s {N : Nat → Nat} {i v : Nat} : setN N i v i = v := if_pos rfl
theorem setN_o {N : Nat → Nat} {i v j : Nat} (h : ¬ j = i) : setN N i v j = N j := if_neg h
theorem TI.worn {N : Nat → Nat} {k v : Nat} (h : TI N) (hk : k < 6) (hv : v ≤ 198) : TI (setN N (21 + k) v) := by
  obtain ⟨b0, b1, b2, b3, b4, b5, b6, b7, b8, bS, bC, bS1, bC1, bZ, bG⟩ := h
  have e : ∀ i, i < 21 ∨ 27 ≤ i → setN N (21 + k) v i = N i := fun i hi => setN_o (by omega)
  refine ⟨?_, ?_, ?_, ?_, ?_, ?_, ?_, ?_, ?_, ?_, ?_, ?_, ?_, ?_, ?_⟩
  · rw [e 0 (by omega)]; exact b0
  · rw [e 1 (by omega)]; exact b1
  · rw [e 2 (by omega)]; exact b2
  · rw [e 3 (by omega)]; exact b3
  · rw [e 4 (by omega)]; exact b4
  · rw [e 5 (by omega)]; exact b5
  · rw [e 6 (by omega), e 2 (by omega)]; exact b6
  · rw [e 7 (by omega), e 2 (by omega)]; exact b7
  · rw [e 8 (by omega)]; exact b8
  · intro j hj
    rw [e (9 + j) (by omega), e (15 + j) (by omega)]
    obtain ⟨z1, z2, z3⟩ := bS j hj
    refine ⟨z1, z2, ?_⟩
    by_cases q : j = k
    · subst q
      rw [setN_s]
      exact hv
    · rw [setN_o (by omega)]
      exact z3
  · intro c hc
    rw [e (27 + c) (by omega), e (32 + c) (by omega), e (37 + c) (by omega)]
    exact bC c hc
  · rw [e 2 (by omega)]
    intro j hj
    rw [e (9 + j) (by omega), e (15 + j) (by omega)]
    exact bS1 j hj
  · rw [e 3 (by omega)]
    intro c hc
    rw [e (27 + c) (by omega), e (32 + c) (by omega), e (37 + c) (by omega)]
    exact bC1 c hc
  · rw [e 8 (by omega), e 2 (by omega), e 3 (by omega)]
    exact bZ
  · rw [e 6 (by omega), e 7 (by omega)]
    exact bG
theorem Tw.worn {I : Pl} {N : Nat → Nat} {t k v : Nat} (h : Tw I t N) (hk : k < 6) : Tw (upN I (t + 3) k (nI v)) t (setN N (21 + k) v) := by
  have e : ∀ i, i < 21 ∨ 27 ≤ i → setN N (21 + k) v i = N i := fun i hi => setN_o (by omega)
  obtain ⟨⟨h0, h1, h2, h3, h4, h5, h6, h7, h8⟩, hs, hc⟩ := h
  refine ⟨⟨?_, ?_, ?_, ?_, ?_, ?_, ?_, ?_, ?_⟩, fun j hj => ⟨?_, ?_, ?_⟩, fun j hj => ⟨?_, ?_, ?_, ?_⟩⟩
  · rw [upN_no (by omega), e 8 (by omega)]; exact h0
  · rw [upN_no (by omega), e 0 (by omega)]; exact h1
  · rw [upN_no (by omega), e 1 (by omega)]; exact h2
  · rw [upN_no (by omega), e 4 (by omega)]; exact h3
  · rw [upN_no (by omega), e 5 (by omega)]; exact h4
  · rw [upN_no (by omega), e 6 (by omega)]; exact h5
  · rw [upN_no (by omega), e 7 (by omega)]; exact h6
  · rw [upN_no (by omega), e 2 (by omega)]; exact h7
  · rw [upN_no (by omega), e 3 (by omega)]; exact h8
  · rw [upN_no (by omega), e (9 + j) (by omega)]; exact (hs j hj).1
  · rw [upN_no (by omega), e (15 + j) (by omega)]; exact (hs j hj).2.1
  · by_cases q : j = k
    · subst q
      rw [upN_s, setN_s]
    · rw [upN_nk q, setN_o (by omega)]
      exact (hs j hj).2.2
  · rw [upN_no (by omega), e (27 + j) (by omega)]; exact (hc j hj).1
  · rw [upN_no (by omega), e (32 + j) (by omega)]; exact (hc j hj).2.1
  · rw [upN_no (by omega), e (37 + j) (by omega)]; exact (hc j hj).2.2.1
  · rw [upN_no (by omega), e (42 + j) (by omega)]; exact (hc j hj).2.2.2
