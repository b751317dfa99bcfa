/-! the tower now, the acts, on both sides -/
abbrev TwS : Type := (Nat → Nat) × Nat × (Nat → Nat → Nat)
def TSC (I : Pl) (S : TwS) : Prop := Tw I 247 S.1 ∧ ∃ o, o < 24 ∧ I 31 1 = nI o ∧ I 31 2 = nI S.2.1 ∧ ∀ j, j < S.2.1 → Tw I (33 + 8 * ((o + j) % 24)) (S.2.2 j)
def TSM (I : Pl) (S : TwS) : Prop := T0 I S.1 ∧ I 271 1 = nI S.2.1 ∧ ∀ j, j < S.2.1 → Tm I (188 + 47 * j) (S.2.2 j)
def TSI (S : TwS) : Prop := TI S.1 ∧ S.2.1 ≤ 24 ∧ ∀ j, j < S.2.1 → TI (S.2.2 j)
/-- nothing is planned -/
def PlF (I : Pl) : Prop := I 225 8 = nI 0 ∧ ∀ d, d < 4 → I 226 d = nI 0
def tsP (o _k : Nat) : Prop := (31 ≤ o ∧ o ≤ 244) ∨ (247 ≤ o ∧ o ≤ 254)
def tsmP (o k : Nat) : Prop := (o = 271 ∧ k = 1) ∨ (o = 272 ∧ (k < 47 ∨ 188 ≤ k))
def actS (S : TwS) : TwS := (S.1, if S.2.1 < 24 then S.2.1 + 1 else 24, if S.2.1 < 24 then updF S.2.2 S.2.1 S.1 else fun j => if j = 23 then S.1 else S.2.2 (j + 1))
theorem actS_I {S : TwS} (h : TSI S) : TSI (actS S) := by
  obtain ⟨h1, h2, h3⟩ := h
  unfold actS
  by_cases q : S.2.1 < 24
  · rw [if_pos q, if_pos q]
    refine ⟨h1, q, fun j hj => ?_⟩
    show TI (updF S.2.2 S.2.1 S.1 j)
    by_cases e : j = S.2.1
    · rw [e, updF_s]
      exact h1
    · rw [updF_o e]
      have hj : j < S.2.1 + 1 := hj
      exact h3 j (by omega)
  · rw [if_neg q, if_neg q]
    refine ⟨h1, Nat.le_refl _, fun j hj => ?_⟩
    have hj : j < 24 := hj
    show TI (if j = 23 then S.1 else S.2.2 (j + 1))
    by_cases e : j = 23
    · rw [if_pos e]
      exact h1
    · rw [if_neg e]
      exact h3 (j + 1) (by omega)
theorem TSI.now {S : TwS} {N : Nat → Nat} (h : TSI S) (hN : TI N) : TSI (N, S.2) := ⟨hN, h.2⟩
theorem TSC.cg {I J : Pl} {S : TwS} (h : TSC I S) (hJ : ∀ o k, (31 ≤ o ∧ o < 225) ∨ (247 ≤ o ∧ o < 255) → J o k = I o k) : TSC J S := by
  obtain ⟨h1, o, ho, h2, h3, h4⟩ := h
  have hm : ∀ j, (o + j) % 24 < 24 := fun j => Nat.mod_lt _ (by decide)
  exact ⟨h1.cg (fun a k x y => hJ a k (by omega)), o, ho, by rw [hJ 31 1 (by omega), h2], by rw [hJ 31 2 (by omega), h3], fun j hj => (h4 j hj).cg (fun a k x y => hJ a k (by have := hm j; omega))⟩
theorem TSC.now {I J : Pl} {S : TwS} {N : Nat → Nat} (h : TSC I S) (hT : Tw J 247 N) (hJ : ∀ o k, o < 247 ∨ 255 ≤ o → J o k = I o k) : TSC J (N, S.2) := by
  obtain ⟨h1, o, ho, h2, h3, h4⟩ := h
  have hm : ∀ j, (o + j) % 24 < 24 := fun j => Nat.mod_lt _ (by decide)
  exact ⟨hT, o, ho, by rw [hJ 31 1 (by omega), h2], by rw [hJ 31 2 (by omega), h3], fun j hj => (h4 j hj).cg (fun a k x y => hJ a k (by have := hm j; omega))⟩
theorem TSM.cg {I J : Pl} {S : TwS} (h : TSM I S) (hi : S.2.1 ≤ 24) (hJ : ∀ o k, tsmP o k → J o k = I o k) : TSM J S := by
  obtain ⟨h1, h2, h3⟩ := h
  refine ⟨h1.cg (fun k hk => hJ 272 k (Or.inr ⟨rfl, Or.inl hk⟩)), by rw [hJ 271 1 (Or.inl ⟨rfl, rfl⟩), h2], fun j hj k hk => ?_⟩
  rw [hJ 272 _ (Or.inr ⟨rfl, Or.inr (by omega)⟩)]
  exact h3 j hj k hk
theorem TSM.now {I J : Pl} {S : TwS} {N : Nat → Nat} (h : TSM I S) (hT : T0 J N) (hJ : ∀ o k, ¬ (o = 272 ∧ k < 47) → J o k = I o k) : TSM J (N, S.2) := by
  obtain ⟨h1, h2, h3⟩ := h
  refine ⟨hT, by rw [hJ 271 1 (by omega), h2], fun j hj k hk => ?_⟩
  rw [hJ 272 _ (by omega)]
  exact h3 j hj k hk
theorem fgN_v {I : Pl} : ∀ k o i, fgN I k o i = if o = 226 ∧ i < k then nI 0 else I o i := by
  intro k
  induction k with
  | zero =>
    intro o i
    rw [if_neg (by omega)]
    rfl
  | succ k ih =>
    intro o i
    unfold fgN
    by_cases q1 : o = 226
    · subst q1
      by_cases q2 : i = k
      · subst q2
        rw [upN_s, if_pos ⟨rfl, Nat.lt_succ_self _⟩]
      · rw [upN_nk q2, ih]
        by_cases q3 : i < k
        · rw [if_pos ⟨rfl, q3⟩, if_pos ⟨rfl, by omega⟩]
        · rw [if_neg (fun q => q3 q.2), if_neg (by omega)]
    · rw [upN_no q1, ih, if_neg (fun q => q1 q.1), if_neg (fun q => q1 q.1)]
theorem forgN_o {I : Pl} {o k : Nat} (h : ¬ o = 225) (h2 : ¬ o = 226) : forgN I o k = I o k := by
  unfold forgN
  rw [fgN_v, if_neg (fun q => h2 q.1), upN_no h]
theorem forgN_F {I : Pl} : PlF (forgN I) := by
  refine ⟨?_, fun d hd => ?_⟩
  · unfold forgN
    rw [fgN_v, if_neg (by decide), upN_s]
  · unfold forgN
    rw [fgN_v, if_pos ⟨rfl, hd⟩]
theorem keep_TS {I : Pl} {S : TwS} {o : Nat} (hI : TSI S) (h1 : Tw I 247 S.1) (ho : o < 24) (h2 : I 31 1 = nI o) (h3 : I 31 2 = nI S.2.1) (h4 : ∀ j, j < S.2.1 → Tw I (33 + 8 * ((o + j) % 24)) (S.2.2 j)) : TSC (forgN (keepN I o S.2.1)) (actS S) ∧ Only I (forgN (keepN I o S.2.1)) tsP := by
  have hm2 : S.2.1 ≤ 24 := hI.2.1
  have hm : ∀ j, (o + j) % 24 < 24 := fun j => Nat.mod_lt _ (by decide)
  generalize hs : 33 + 8 * ((o + S.2.1) % 24) = s
  have hs1 : 33 ≤ s ∧ s + 8 ≤ 225 := by have := hm S.2.1; omega
  have hB : ∀ a k, a < s ∨ s + 8 ≤ a → becN I s 247 a k = I a k := fun a k q => becN_fr q
  have hT : Tw (becN I s 247) s S.1 := becN_tw (by omega) h1
  refine ⟨?_, ?_⟩
  · unfold actS keepN
    rw [hs]
    by_cases q : S.2.1 < 24
    · rw [if_pos q, if_pos q, if_pos q]
      refine ⟨h1.cg (fun a k x y => ?_), o, ho, ?_, ?_, fun j hj => ?_⟩
      · rw [forgN_o (by omega) (by omega), upN_no (by omega), hB a k (by omega)]
      · rw [forgN_o (by decide) (by decide), upN_nk (by decide), hB _ _ (by omega), h2]
      · rw [forgN_o (by decide) (by decide), upN_s]
      · have hj : j < S.2.1 + 1 := hj
        show Tw _ _ (updF S.2.2 S.2.1 S.1 j)
        by_cases e : j = S.2.1
        · rw [e, updF_s, hs]
          exact hT.cg (fun a k x y => by rw [forgN_o (by omega) (by omega), upN_no (by omega)])
        · rw [updF_o e]
          have hne : ¬ (o + j) % 24 = (o + S.2.1) % 24 := by omega
          refine (h4 j (by omega)).cg (fun a k x y => ?_)
          have := hm j
          rw [forgN_o (by omega) (by omega), upN_no (by omega), hB a k (by omega)]
    · rw [if_neg q, if_neg q, if_neg q]
      have hm24 : S.2.1 = 24 := by omega
      have hs2 : s = 33 + 8 * o := by
        rw [hm24] at hs
        omega
      refine ⟨h1.cg (fun a k x y => ?_), (o + 1) % 24, Nat.mod_lt _ (by decide), ?_, ?_, fun j hj => ?_⟩
      · rw [forgN_o (by omega) (by omega), upN_no (by omega), hB a k (by omega)]
      · rw [forgN_o (by decide) (by decide), upN_s]
      · rw [forgN_o (by decide) (by decide), upN_nk (by decide), hB _ _ (by omega), h3, hm24]
      · have hj : j < 24 := hj
        show Tw _ _ (if j = 23 then S.1 else S.2.2 (j + 1))
        have hx : ((o + 1) % 24 + j) % 24 = (o + (j + 1)) % 24 := by omega
        rw [hx]
        by_cases e : j = 23
        · rw [if_pos e, show 33 + 8 * ((o + (j + 1)) % 24) = s by omega]
          exact hT.cg (fun a k x y => by rw [forgN_o (by omega) (by omega), upN_no (by omega)])
        · rw [if_neg e]
          refine (h4 (j + 1) (by omega)).cg (fun a k x y => ?_)
          have := hm (j + 1)
          rw [forgN_o (by omega) (by omega), upN_no (by omega), hB a k (by omega)]
  · intro a k h
    have h' : ¬ (31 ≤ a ∧ a ≤ 244) := fun q => h (Or.inl q)
    rw [forgN_o (by omega) (by omega)]
    unfold keepN
    rw [hs]
    split
    · rw [upN_no (by omega), hB a k (by omega)]
    · rw [upN_no (by omega), hB a k (by omega)]
theorem tw_b {I : Pl} {t : Nat} {N : Nat → Nat} (h : Tw I t N) (hN : TI N) : I t 0 = 0 ∨ I t 0 = 1 := by
  have h8 : N 8 ≤ 1 := hN.2.2.2.2.2.2.2.2.1
  rw [h.f0]
  rcases (show N 8 = 0 ∨ N 8 = 1 by omega) with q | q
  · rw [q]
    exact Or.inl rfl
  · rw [q]
    exact Or.inr rfl
theorem cs_begin {d : Nat} {I : Pl} {S : TwS} (h : TSC I S) (hI : TSI S) : EvX (d + 3) 90 [.ref 0] I (fun v K => v = none ∧ TSC K (actS S) ∧ PlF K ∧ Only I K tsP) := by
  obtain ⟨h1, o, ho, h2, h3, h4⟩ := id h
  obtain ⟨k1, k2⟩ := keep_TS hI h1 ho h2 h3 h4
  exact ⟨none, _, sp_beginAct h2 h3 ho hI.2.1 (tw_b h1 hI.1), rfl, k1, forgN_F, k2⟩
/-! what these calls answer -/
def nPlait (S : TwS) (x : Int32) : Int32 × TwS := if S.1 8 = 0 then (-1000002, S) else if inA x (2 ^ S.1 2) then (if nOf x &&& S.1 7 = 0 then (nI (popc (nOf x)), (setN S.1 6 (nOf x), (actS S).2)) else (-1000002, S)) else (-1000001, S)
def nClimb (S : TwS) (x : Int32) : Int32 × TwS := if inA x (S.1 3) then (if S.1 1 < S.1 0 then (-1000002, S) else if S.1 6 = 0 then (-1000002, S) else (nI (popc (S.1 6) - popc (brN S.1 (nOf x) 6 6)), (climbN S.1 (nOf x), (actS S).2))) else (-1000001, S)
def dayN (N : Nat → Nat) : Nat → Nat := setN (setN N 1 (min 99 (N 1 + 1))) 4 (N 4 + 1)
def nDay (S : TwS) : Int32 × TwS := if S.1 8 = 0 then (-1000002, S) else if S.1 4 < 999 then (nI (S.1 4 + 1), (dayN S.1, (actS S).2)) else (-1000003, S)
def nCut (S : TwS) (x : Int32) : Int32 × TwS := if S.1 8 = 0 then (-1000002, S) else if inR x 1 99 then (if nOf x ≤ S.1 1 then (nI (S.1 1 - nOf x), (setN S.1 1 (S.1 1 - nOf x), (actS S).2)) else (-1000002, S)) else (-1000001, S)
def nPeg (S : TwS) (x : Int32) : Int32 × TwS := if S.1 8 = 0 then (-1000002, S) else if inA x 2 then (if S.1 5 = nOf x then (-1000002, S) else (nI 1, (setN S.1 5 (nOf x), (actS S).2))) else (-1000001, S)
def nUndo (S : TwS) : Int32 × TwS := if S.2.1 = 0 then (-1000002, S) else (nI (S.2.1 - 1), (S.2.2 (S.2.1 - 1), S.2.1 - 1, S.2.2))
abbrev ImS : Type := (Nat → Nat) × (Nat → Nat → Nat)
def ImC (I : Pl) (T : ImS) : Prop := ∀ k, k < 2 → (T.1 k = 0 ∧ I (255 + 8 * k) 0 = nI 0) ∨ (T.1 k = 1 ∧ Tw I (255 + 8 * k) (T.2 k) ∧ T.2 k 8 = 1)
def ImM (I : Pl) (T : ImS) : Prop := ∀ k, k < 2 → I 273 k = nI (T.1 k) ∧ (T.1 k = 1 → Tm I (47 * (k + 1)) (T.2 k))
def ImI (T : ImS) : Prop := ∀ k, k < 2 → T.1 k ≤ 1 ∧ (T.1 k = 1 → TI (T.2 k))
def imP (o _k : Nat) : Prop := 255 ≤ o ∧ o ≤ 270
def immP (o k : Nat) : Prop := o = 273 ∨ (o = 272 ∧ 47 ≤ k ∧ k < 141)
def nImage (N : Nat → Nat) (T : ImS) (x : Int32) : Int32 × ImS := if inA x 2 then (if N 8 = 0 then (-1000002, T) else (nI 1, (updF T.1 (nOf x) 1, updF T.2 (nOf x) N))) else (-1000001, T)
def nRestore (S : TwS) (T : ImS) (x : Int32) : Int32 × TwS := if inA x 2 then (if T.1 (nOf x) = 0 then (-1000002, S) else (nI 1, (T.2 (nOf x), 0, S.2.2))) else (-1000001, S)
/-! these keep the bounds -/
theorem TI.plait {N : Nat → Nat} {m : Nat} (h : TI N) (hm : m < 2 ^ N 2) (hg : m &&& N 7 = 0) : TI (setN N 6 m) := by
  have e : setN N 6 m = setN (setN N 6 m) 7 (N 7) := by
    funext j
    by_cases q : j = 7
    · subst q
      rw [setN_s, setN_o (by decide)]
    · rw [setN_o q]
  rw [e]
  exact h.sets hm h.2.2.2.2.2.2.2.1 hg
theorem TI.low {N M : Nat → Nat} (h : TI N) (h0 : M 0 ≤ 99) (h1 : M 1 ≤ 99) (h4 : M 4 ≤ 999) (h5 : M 5 ≤ 1) (e : ∀ i, i = 2 ∨ i = 3 ∨ 6 ≤ i → M i = N i) : TI M := by
  obtain ⟨b0, b1, b2, b3, b4, b5, b6, b7, b8, bS, bC, bS1, bC1, bZ, bG⟩ := h
  refine ⟨h0, h1, ?_, ?_, h4, h5, ?_, ?_, ?_, ?_, ?_, ?_, ?_, ?_, ?_⟩
  · rw [e 2 (by omega)]; exact b2
  · rw [e 3 (by omega)]; exact b3
  · rw [e 6 (by omega), e 2 (by omega)]; exact b6
  · rw [e 7 (by omega), e 2 (by omega)]; exact b7
  · rw [e 8 (by omega)]; exact b8
  · intro j hj
    rw [e (9 + j) (by omega), e (15 + j) (by omega), e (21 + j) (by omega)]
    exact bS j hj
  · intro c hc
    rw [e (27 + c) (by omega), e (32 + c) (by omega), e (37 + c) (by omega)]
    exact bC c hc
  · rw [e 2 (by omega)]
    intro j hj
    rw [e (9 + j) (by omega), e (15 + j) (by omega)]
    exact bS1 j hj
  · rw [e 3 (by omega)]
    intro c hc
    rw [e (27 + c) (by omega), e (32 + c) (by omega), e (37 + c) (by omega)]
    exact bC1 c hc
  · rw [e 8 (by omega), e 2 (by omega), e 3 (by omega)]
    exact bZ
  · rw [e 6 (by omega), e 7 (by omega)]
    exact bG
theorem nPlait_I {S : TwS} {x : Int32} (h : TSI S) : TSI (nPlait S x).2 := by
  unfold nPlait
  split
  · exact h
  · split
    · rename_i hx
      split
      · rename_i hg
        have h64 := h.1.set64
        obtain ⟨j, hj, rfl⟩ := inA_of hx (by omega)
        rw [nOf_nI (by omega)] at *
        exact (actS_I h).now (h.1.plait hj hg)
      · exact h
    · exact h
theorem nClimb_I {S : TwS} {x : Int32} (h : TSI S) : TSI (nClimb S x).2 := by
  unfold nClimb
  split
  · rename_i hx
    have h3 : S.1 3 ≤ 5 := h.1.2.2.2.1
    obtain ⟨j, hj, rfl⟩ := inA_of hx (by omega)
    rw [nOf_nI (by omega)]
    split
    · exact h
    · split
      · exact h
      · exact (actS_I h).now (climbN_TI h.1 hj)
  · exact h
theorem nDay_I {S : TwS} (h : TSI S) : TSI (nDay S).2 := by
  unfold nDay
  split
  · exact h
  · split
    · rename_i hd
      obtain ⟨b0, b1, b2, b3, b4, b5, -⟩ := id h.1
      refine (actS_I h).now (h.1.low ?_ ?_ ?_ ?_ ?_)
      · unfold dayN
        rw [setN_o (by decide), setN_o (by decide)]
        exact b0
      · unfold dayN
        rw [setN_o (by decide), setN_s]
        exact Nat.min_le_left _ _
      · unfold dayN
        rw [setN_s]
        exact hd
      · unfold dayN
        rw [setN_o (by decide), setN_o (by decide)]
        exact b5
      · intro i hi
        unfold dayN
        rw [setN_o (by omega), setN_o (by omega)]
    · exact h
theorem nCut_I {S : TwS} {x : Int32} (h : TSI S) : TSI (nCut S x).2 := by
  unfold nCut
  obtain ⟨b0, b1, b2, b3, b4, b5, -⟩ := id h.1
  split
  · exact h
  · split
    · split
      · refine (actS_I h).now (h.1.low ?_ ?_ ?_ ?_ ?_)
        · rw [setN_o (by decide)]
          exact b0
        · rw [setN_s]
          omega
        · rw [setN_o (by decide)]
          exact b4
        · rw [setN_o (by decide)]
          exact b5
        · intro i hi
          rw [setN_o (by omega)]
      · exact h
    · exact h
theorem nPeg_I {S : TwS} {x : Int32} (h : TSI S) : TSI (nPeg S x).2 := by
  unfold nPeg
  obtain ⟨b0, b1, b2, b3, b4, b5, -⟩ := id h.1
  split
  · exact h
  · split
    · rename_i hx
      obtain ⟨j, hj, rfl⟩ := inA_of hx (by decide)
      rw [nOf_nI (by omega)]
      split
      · exact h
      · refine (actS_I h).now (h.1.low ?_ ?_ ?_ ?_ ?_)
        · rw [setN_o (by decide)]
          exact b0
        · rw [setN_o (by decide)]
          exact b1
        · rw [setN_o (by decide)]
          exact b4
        · rw [setN_s]
          omega
        · intro i hi
          rw [setN_o (by omega)]
    · exact h
theorem nUndo_I {S : TwS} (h : TSI S) : TSI (nUndo S).2 := by
  unfold nUndo
  obtain ⟨h1, h2, h3⟩ := h
  split
  · exact ⟨h1, h2, h3⟩
  · exact ⟨h3 _ (by omega), by show S.2.1 - 1 ≤ 24; omega, fun j hj => h3 j (by have hj : j < S.2.1 - 1 := hj; omega)⟩
theorem nRestore_I {S : TwS} {T : ImS} {x : Int32} (h : TSI S) (hT : ImI T) : TSI (nRestore S T x).2 := by
  unfold nRestore
  split
  · rename_i hx
    obtain ⟨j, hj, rfl⟩ := inA_of hx (by decide)
    rw [nOf_nI (by omega)]
    obtain ⟨t1, t2⟩ := hT j hj
    split
    · exact h
    · exact ⟨t2 (by omega), Nat.zero_le _, fun j hj => absurd hj (Nat.not_lt_zero _)⟩
  · exact h
theorem nImage_I {N : Nat → Nat} {T : ImS} {x : Int32} (h : TI N) (hT : ImI T) : ImI (nImage N T x).2 := by
  unfold nImage
  split
  · rename_i hx
    obtain ⟨j, hj, rfl⟩ := inA_of hx (by decide)
    rw [nOf_nI (by omega)]
    split
    · exact hT
    · intro k hk
      show updF T.1 j 1 k ≤ 1 ∧ (updF T.1 j 1 k = 1 → TI (updF T.2 j N k))
      by_cases q : k = j
      · rw [q, updF_s, updF_s]
        exact ⟨Nat.le_refl _, fun _ => h⟩
      · rw [updF_o q, updF_o q]
        exact hT k hk
  · exact hT
