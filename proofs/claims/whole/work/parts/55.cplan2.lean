/-! the class's planner: what is weighed -/
theorem bit_ex : ∀ d, d < 32 → ¬ d = 0 → 1 ≤ bitN d 0 + bitN d 1 + bitN d 2 + bitN d 3 + bitN d 4 := by decide +kernel
theorem clA_zero {X : Nat → Nat} {due : Nat} (h3 : X 3 ≤ 5) (hd : due < 2 ^ X 3) (h0 : ¬ due = 0) : (clA X due 0 (X 3)).2 = false := by
  have key : ∀ c, c < X 3 → bitN due c = 1 → (clA X due 0 (X 3)).2 = false := by
    intro c hc hb
    cases h : (clA X due 0 c).2
    · have := clA_stay h (X 3 - c)
      rw [show c + (X 3 - c) = X 3 by omega] at this
      exact this
    · have := clA_stay (clA_f h hb (bornF1 rfl)) (X 3 - (c + 1))
      rw [show c + 1 + (X 3 - (c + 1)) = X 3 by omega] at this
      exact this
  have hp : 2 ^ X 3 ≤ 2 ^ 5 := Nat.pow_le_pow_right (by decide) h3
  have hx := bit_ex due (by omega) h0
  have hin : ∀ c, bitN due c = 1 → c < X 3 := by
    intro c hb
    rcases Nat.lt_or_ge c (X 3) with q | q
    · exact q
    · rw [bit_out (Nat.lt_of_lt_of_le hd (Nat.pow_le_pow_right (by decide) q))] at hb
      cases hb
  have hl := bitN_lt due
  have h4 : ∀ c, bitN due c = 1 → (clA X due 0 (X 3)).2 = false := fun c hb => key c (hin c hb) hb
  by_cases q0 : bitN due 0 = 1
  · exact h4 0 q0
  · by_cases q1 : bitN due 1 = 1
    · exact h4 1 q1
    · by_cases q2 : bitN due 2 = 1
      · exact h4 2 q2
      · by_cases q3 : bitN due 3 = 1
        · exact h4 3 q3
        · refine h4 4 ?_
          have := hl 0
          have := hl 1
          have := hl 2
          have := hl 3
          have := hl 4
          omega
section WV
variable {N : Nat → Nat} {day m : Nat}
theorem wv_a (h : dueN N (N 4 + day) = 0) (hm : m = 0) : wv N day m = 0 := by
  subst hm
  unfold wv gd
  rw [if_pos (Nat.two_pow_pos _), if_pos h]
  show sumW N - sumW N = 0
  omega
theorem wv_b (h : dueN N (N 4 + day) = 0) (hm : ¬ m = 0) : wv N day m = 1000000 := by
  unfold wv gd
  rw [if_pos h]
  split
  · show (bif Nat.beq m 0 then _ else _) = _
    rw [beqF hm]
    rfl
  · rfl
theorem wv_d (h : ¬ dueN N (N 4 + day) = 0) (hm : ¬ (m < 2 ^ N 2 ∧ m &&& N 7 = 0)) : wv N day m = 1000000 := by
  unfold wv gd
  rw [if_neg h]
  split
  · rename_i h2
    rw [if_neg (fun q => hm ⟨h2, q.1⟩)]
    rfl
  · rfl
theorem wv_e (h : ¬ dueN N (N 4 + day) = 0) (hm : min 99 (N 1 + day) < N 0) : wv N day m = 1000000 := by
  unfold wv gd
  rw [if_neg h]
  split
  · rw [if_neg (fun q => by have := q.2; omega)]
    rfl
  · rfl
theorem wv_c (hN : TI N) (h : ¬ dueN N (N 4 + day) = 0) (hm : m = 0) : wv N day m = 1000000 := by
  subst hm
  have hz := clA_zero (X := N) hN.2.2.2.1 (dueP_lt N (N 4 + day) (N 3)) h
  unfold wv gd
  rw [if_neg h]
  split
  · split
    · unfold dueN
      rw [hz]
      rfl
    · rfl
  · rfl
theorem wv_f (h : ¬ dueN N (N 4 + day) = 0) (hm : m < 2 ^ N 2 ∧ m &&& N 7 = 0) (hl : ¬ min 99 (N 1 + day) < N 0) : wv N day m = lav N (dueN N (N 4 + day)) m := by
  unfold wv gd
  rw [if_neg h, if_pos hm.1, if_pos ⟨hm.2, by omega⟩]
  rfl
end WV
def WgO (J : Pl) (N : Nat → Nat) (day : Nat) : Prop := (∀ t, t < day → (∀ m, m < 64 → J (235 + t) m = nI (wv N t m)) ∧ J 238 t = nI (loP N t 64)) ∧ ∀ k, k < 6 → J 241 k = nI (N (21 + k))
def WgI (J : Pl) (N : Nat → Nat) (day k : Nat) : Prop := WgO J N day ∧ (∀ m, m < k → J (235 + day) m = nI (wv N day m)) ∧ J 238 day = nI (loP N day k)
theorem WgO_start {J : Pl} {N : Nat → Nat} {day : Nat} (hd : day < 3) (h : WgO J N day) : WgI (upN J 238 day (nI 1000000)) N day 0 := by
  refine ⟨⟨fun t ht => ⟨fun m hm => ?_, ?_⟩, fun k hk => ?_⟩, fun m hm => absurd hm (Nat.not_lt_zero _), upN_s⟩
  · rw [upN_no (by omega)]
    exact (h.1 t ht).1 m hm
  · rw [upN_nk (by omega)]
    exact (h.1 t ht).2
  · rw [upN_no (by decide)]
    exact h.2 k hk
theorem WgI_end {J : Pl} {N : Nat → Nat} {day : Nat} (h : WgI J N day 64) : WgO J N (day + 1) := by
  refine ⟨fun t ht => ?_, h.1.2⟩
  by_cases q : t = day
  · subst q
    exact ⟨h.2.1, h.2.2⟩
  · exact h.1.1 t (by omega)
theorem WgI_step {J K : Pl} {N : Nat → Nat} {day k : Nat} (hd : day < 3) (h : WgI J N day k) (hO : Only J K (onB 1)) : WgI (upN (upN K (235 + day) k (nI (wv N day k))) 238 day (nI (min (loP N day k) (wv N day k)))) N day (k + 1) := by
  have e : ∀ o i, ¬ o = 242 → K o i = J o i := fun o i q => hO o i q
  refine ⟨⟨fun t ht => ⟨fun m hm => ?_, ?_⟩, fun i hi => ?_⟩, fun m hm => ?_, upN_s⟩
  · rw [upN_no (by omega), upN_no (by omega), e _ _ (by omega)]
    exact (h.1.1 t ht).1 m hm
  · rw [upN_nk (by omega), upN_no (by omega), e _ _ (by omega)]
    exact (h.1.1 t ht).2
  · rw [upN_no (by omega), upN_no (by omega), e _ _ (by omega)]
    exact h.1.2 i hi
  · rw [upN_no (by omega)]
    by_cases q : m = k
    · subst q
      exact upN_s
    · rw [upN_nk q, e _ _ (by omega)]
      exact h.2.1 m (by omega)
def WgC (I : Pl) (N : Nat → Nat) : Prop := I 225 8 = nI 1 ∧ WgO I N 3
def pnP (o k : Nat) : Prop := (o = 225 ∧ k = 8) ∨ (226 ≤ o ∧ o ≤ 244)
def wqP (o k : Nat) : Prop := (o = 225 ∧ k = 8) ∨ (234 ≤ o ∧ o ≤ 244)
def wgP (o _k : Nat) : Prop := 234 ≤ o ∧ o ≤ 244
set_option maxRecDepth 100000 in
theorem sp_wearOf {d : Nat} {I : Pl} {N : Nat → Nat} {day m : Nat} (hT : Tw I 247 N) (hN : TI N) (hday : day < 3) (hm : m < 64) (hW : ∀ k, k < 6 → I 241 k = nI (N (21 + k))) : EvX (d + 4) 37 [.ref 225, .ref 247, .int (nI day), .int (nI (dueN N (N 4 + day))), .int (nI m)] I (fun v K => v = some (.int (nI (wv N day m))) ∧ Only I K (onB 1)) := by
  obtain ⟨b0, b1, b2, b3, b4, b5, b6, b7, b8, bS, bC, bS1, bC1, bZ, bG⟩ := id hN
  obtain ⟨s6, s7, s64⟩ := hN.set64
  have hdl := dueN_lt (n := N 4 + day) hN
  have hwl := wv_le (day := day) (m := m) hN
  refine EvX.enter rfl rfl rfl ?_
  refine WP.run (pc' := if ¬ (nI (dueN N (N 4 + day))) = 0 then 16 else 4) (L' := [.ref 225, .ref 247, .int (nI day), .int (nI (dueN N (N 4 + day))), .int (nI m)]) (st' := []) (I1 := I) 2 rfl ?_
  refine WP.br (fun h1 => ?_) (fun h1 => ?_)
  · have h1 : ¬ dueN N (N 4 + day) = 0 := fun q => h1 (nI_eq_r q)
    refine WP.run (pc' := if (nI m) = 0 then 42 else 21) (L' := [.ref 225, .ref 247, .int (nI day), .int (nI (dueN N (N 4 + day))), .int (nI m)]) (st' := []) (I1 := I) 2 rfl ?_
    refine WP.br (fun h2 => ?_) (fun h2 => ?_)
    · have h2 : m = 0 := nI_eq_ (by omega) (by omega) h2
      refine WP.run (pc' := 44) (L' := [.ref 225, .ref 247, .int (nI day), .int (nI (dueN N (N 4 + day))), .int (nI m)]) (st' := [.int (nI 1000000)]) (I1 := I) 1 rfl ?_
      exact WP.ret rfl rfl (⟨by first | rw [wv_a (by assumption) (by assumption)] | rw [wv_b (by assumption) (by assumption)] | rw [wv_c hN (by assumption) (by assumption)] | rw [wv_d (by assumption) (by assumption)] | rw [wv_e (by assumption) (by omega)], Only.rfl_⟩)
    · have h2 : ¬ m = 0 := fun q => h2 (nI_eq_r q)
      refine WP.run (pc' := 24) (L' := [.ref 225, .ref 247, .int (nI day), .int (nI (dueN N (N 4 + day))), .int (nI m)]) (st' := [.int (nI m), .ref 247]) (I1 := I) 2 rfl ?_
      refine WP.callB (rest := []) rfl rfl (sp_isLeft (d := d + 1) (m := m) hT hN (by omega)) (fun h3 => ?_) (fun h3 => ?_)
      · refine WP.run (pc' := 32) (L' := [.ref 225, .ref 247, .int (nI day), .int (nI (dueN N (N 4 + day))), .int (nI m)]) (st' := [.int (nI day), .ref 247]) (I1 := I) 3 rfl ?_
        refine WP.callV (rest := []) rfl rfl (sp_lengthIn (d := d + 1) (n := day) hT hN (by omega)) ?_
        refine WP.run (pc' := 39) (L' := [.ref 225, .ref 247, .int (nI day), .int (nI (dueN N (N 4 + day))), .int (nI m)]) (st' := [.int (I 247 1), .int (nI (min 99 (N 1 + day)))]) (I1 := I) 2 rfl ?_
        refine WP.cg (st' := [.int (nI (N 0)), .int (nI (min 99 (N 1 + day)))]) rfl (congrArg (fun z : Int32 => (.int z :: [.int (nI (min 99 (N 1 + day)))] : List Value)) (hT.f1)) rfl ?_
        refine WP.run (pc' := if (nI (N 0)) ≤ (nI (min 99 (N 1 + day))) then 45 else 42) (L' := [.ref 225, .ref 247, .int (nI day), .int (nI (dueN N (N 4 + day))), .int (nI m)]) (st' := []) (I1 := I) 1 rfl ?_
        refine WP.br (fun h4 => ?_) (fun h4 => ?_)
        · have h4 : N 0 ≤ min 99 (N 1 + day) := nI_le_ (by omega) (by omega) h4
          refine WP.run (pc' := 55) (L' := [.ref 225, .ref 247, .int (nI day), .int (nI (dueN N (N 4 + day))), .int (nI m)]) (st' := [.int (nI 0), .ref 240, .int (nI m), .int (nI (dueN N (N 4 + day))), .ref 247, .ref 225]) (I1 := I) 7 rfl ?_
          refine WP.aald rfl rfl (by decide) rfl (by decide) (by decide) rfl ?_
          refine WP.run (pc' := 61) (L' := [.ref 225, .ref 247, .int (nI day), .int (nI (dueN N (N 4 + day))), .int (nI m)]) (st' := [.int (nI 1), .ref 240, .ref 241, .int (nI m), .int (nI (dueN N (N 4 + day))), .ref 247, .ref 225]) (I1 := I) 3 rfl ?_
          refine WP.aald rfl rfl (by decide) rfl (by decide) (by decide) rfl ?_
          refine WP.callX (rest := []) rfl rfl (sp_lac (d := d) (N := N) (X := N) (due := dueN N (N 4 + day)) (m := m) (a := 0) (b := 1) hT hN hN same.rfl_ hm (dueN_lt hN) (Or.inl (by assumption)) (by decide) (by decide) (by decide) hW) (fun v J1 hv => ?_)
          obtain ⟨rfl, hv2, hO1⟩ := hv
          exact WP.ret rfl rfl (⟨by rw [wv_f (by assumption) (by assumption) (by omega)], hO1⟩)
        · have h4 : ¬ N 0 ≤ min 99 (N 1 + day) := fun q => h4 (nI_le_r (by omega) q)
          refine WP.run (pc' := 44) (L' := [.ref 225, .ref 247, .int (nI day), .int (nI (dueN N (N 4 + day))), .int (nI m)]) (st' := [.int (nI 1000000)]) (I1 := I) 1 rfl ?_
          exact WP.ret rfl rfl (⟨by first | rw [wv_a (by assumption) (by assumption)] | rw [wv_b (by assumption) (by assumption)] | rw [wv_c hN (by assumption) (by assumption)] | rw [wv_d (by assumption) (by assumption)] | rw [wv_e (by assumption) (by omega)], Only.rfl_⟩)
      · refine WP.run (pc' := 44) (L' := [.ref 225, .ref 247, .int (nI day), .int (nI (dueN N (N 4 + day))), .int (nI m)]) (st' := [.int (nI 1000000)]) (I1 := I) 2 rfl ?_
        exact WP.ret rfl rfl (⟨by first | rw [wv_a (by assumption) (by assumption)] | rw [wv_b (by assumption) (by assumption)] | rw [wv_c hN (by assumption) (by assumption)] | rw [wv_d (by assumption) (by assumption)] | rw [wv_e (by assumption) (by omega)], Only.rfl_⟩)
  · have h1 : dueN N (N 4 + day) = 0 := nI_eq_ (by omega) (by omega) (Decidable.byContradiction h1)
    refine WP.run (pc' := if ¬ (nI m) = 0 then 13 else 9) (L' := [.ref 225, .ref 247, .int (nI day), .int (nI (dueN N (N 4 + day))), .int (nI m)]) (st' := []) (I1 := I) 2 rfl ?_
    refine WP.br (fun h5 => ?_) (fun h5 => ?_)
    · have h5 : ¬ m = 0 := fun q => h5 (nI_eq_r q)
      refine WP.run (pc' := 15) (L' := [.ref 225, .ref 247, .int (nI day), .int (nI (dueN N (N 4 + day))), .int (nI m)]) (st' := [.int (nI 1000000)]) (I1 := I) 1 rfl ?_
      exact WP.ret rfl rfl (⟨by first | rw [wv_a (by assumption) (by assumption)] | rw [wv_b (by assumption) (by assumption)] | rw [wv_c hN (by assumption) (by assumption)] | rw [wv_d (by assumption) (by assumption)] | rw [wv_e (by assumption) (by omega)], Only.rfl_⟩)
    · have h5 : m = 0 := nI_eq_ (by omega) (by omega) (Decidable.byContradiction h5)
      refine WP.run (pc' := 15) (L' := [.ref 225, .ref 247, .int (nI day), .int (nI (dueN N (N 4 + day))), .int (nI m)]) (st' := [.int (nI 0)]) (I1 := I) 2 rfl ?_
      exact WP.ret rfl rfl (⟨by first | rw [wv_a (by assumption) (by assumption)] | rw [wv_b (by assumption) (by assumption)] | rw [wv_c hN (by assumption) (by assumption)] | rw [wv_d (by assumption) (by assumption)] | rw [wv_e (by assumption) (by omega)], Only.rfl_⟩)
set_option maxRecDepth 100000 in
theorem lc_wgi {d : Nat} {I : Pl} {N : Nat → Nat} (hT : Tw I 247 N) (hN : TI N) {day : Nat} (hday : day < 3) (g : ∀ J, WgO J N (day + 1) → Only I J wgP → WP (d + 4) (38, 2, none, sc0) 96 ([.ref 225, .ref 247, .int (nI day), .int (nI (dueN N (N 4 + day))), .int (nI 64)]) [] J (fun v K => v = none ∧ WgC K N ∧ Only I K wqP)) : ∀ k, k ≤ 64 → ∀ J, WgI J N day k → Only I J wgP → WP (d + 4) (38, 2, none, sc0) 41 ([.ref 225, .ref 247, .int (nI day), .int (nI (dueN N (N 4 + day))), .int (nI k)]) [] J (fun v K => v = none ∧ WgC K N ∧ Only I K wqP) := by
  refine loopUp (fun k hk ih => ?_)
  intro J  hW hO
  have hJT : Tw J 247 N := hT.cg (fun o k x y => hO o k (fun z => by have z2 : 234 ≤ o ∧ o ≤ 244 := z; omega))
  obtain ⟨b0, b1, b2, b3, b4, b5, b6, b7, b8, bS, bC, bS1, bC1, bZ, bG⟩ := id hN
  obtain ⟨s6, s7, s64⟩ := hN.set64
  have hdl := dueN_lt (n := N 4 + day) hN
  have hwl := wv_le (day := day) (m := k) hN
  have hlo := loP_le (N := N) (day := day) k
  refine WP.run (pc' := if (nI 64) ≤ (nI k) then 96 else 48) (L' := [.ref 225, .ref 247, .int (nI day), .int (nI (dueN N (N 4 + day))), .int (nI k)]) (st' := []) (I1 := J) 3 rfl ?_
  refine WP.br (fun h1 => ?_) (fun h1 => ?_)
  · have h1 : 64 ≤ k := nI_le_ (by omega) (by omega) h1
    obtain rfl : k = 64 := by omega
    exact g J (WgI_end hW) hO
  · have h1 : ¬ 64 ≤ k := fun q => h1 (nI_le_r (by omega) q)
    refine WP.run (pc' := 53) (L' := [.ref 225, .ref 247, .int (nI day), .int (nI (dueN N (N 4 + day))), .int (nI k)]) (st' := [.int (nI day), .ref 234]) (I1 := J) 3 rfl ?_
    refine WP.aald rfl rfl (by decide) rfl (by omega) (by decide) (RRV day hday) ?_
    refine WP.run (pc' := 62) (L' := [.ref 225, .ref 247, .int (nI day), .int (nI (dueN N (N 4 + day))), .int (nI k)]) (st' := [.int (nI k), .int (nI (dueN N (N 4 + day))), .int (nI day), .ref 247, .ref 225, .int (nI k), .ref (235 + day)]) (I1 := J) 6 rfl ?_
    refine WP.callX (rest := [.int (nI k), .ref (235 + day)]) rfl rfl (sp_wearOf (d := d) (N := N) (day := day) (m := k) hJT hN (by omega) (by omega) hW.1.2) (fun v J1 hv => ?_)
    obtain ⟨rfl, hO1⟩ := hv
    refine WP.iast rfl (KdV day hday) (NNV day hday) (by omega) (by decide) ?_
    refine WP.run (pc' := 76) (L' := [.ref 225, .ref 247, .int (nI day), .int (nI (dueN N (N 4 + day))), .int (nI k)]) (st' := [.int (nI day), .ref 238, .int (nI day), .ref 238]) (I1 := (upN J1 (235 + day) k (nI (wv N day k)))) 6 rfl ?_
    refine WP.iald rfl rfl rfl (by omega) (by decide) ?_
    refine WP.cg (st' := [.int (nI (loP N day k)), .int (nI day), .ref 238]) rfl (congrArg (fun z : Int32 => (.int z :: [.int (nI day), .ref 238] : List Value)) ((upN_no (by omega)).trans ((hO1 238 day (fun z => by have z2 : 238 = 242 := z; omega)).trans hW.2.2))) rfl ?_
    refine WP.run (pc' := 82) (L' := [.ref 225, .ref 247, .int (nI day), .int (nI (dueN N (N 4 + day))), .int (nI k)]) (st' := [.int (nI day), .ref 234, .int (nI (loP N day k)), .int (nI day), .ref 238]) (I1 := (upN J1 (235 + day) k (nI (wv N day k)))) 3 rfl ?_
    refine WP.aald rfl rfl (by decide) rfl (by omega) (by decide) (RRV day hday) ?_
    refine WP.run (pc' := 85) (L' := [.ref 225, .ref 247, .int (nI day), .int (nI (dueN N (N 4 + day))), .int (nI k)]) (st' := [.int (nI k), .ref (235 + day), .int (nI (loP N day k)), .int (nI day), .ref 238]) (I1 := (upN J1 (235 + day) k (nI (wv N day k)))) 1 rfl ?_
    refine WP.iald rfl (KdV day hday) (NNV day hday) (by omega) (by decide) ?_
    refine WP.cg (st' := [.int (nI (wv N day k)), .int (nI (loP N day k)), .int (nI day), .ref 238]) rfl (congrArg (fun z : Int32 => (.int z :: [.int (nI (loP N day k)), .int (nI day), .ref 238] : List Value)) (upN_s)) rfl ?_
    refine WP.callV (rest := [.int (nI day), .ref 238]) rfl rfl (sp_min (d := d + 3) (a := loP N day k) (b := wv N day k) (by omega) (by omega)) ?_
    refine WP.iast rfl rfl rfl (by omega) (by decide) ?_
    refine WP.run (pc' := 93) (L' := [.ref 225, .ref 247, .int (nI day), .int (nI (dueN N (N 4 + day))), .int ((nI k) + nI 1)]) (st' := []) (I1 := (upN (upN J1 (235 + day) k (nI (wv N day k))) 238 day (nI (min (loP N day k) (wv N day k))))) 1 rfl ?_
    refine WP.cg (L' := [.ref 225, .ref 247, .int (nI day), .int (nI (dueN N (N 4 + day))), .int (nI (k + 1))]) (congrArg (fun z : Int32 => ([.ref 225, .ref 247, .int (nI day), .int (nI (dueN N (N 4 + day))), .int z] : List Value)) (nI_add k 1)) rfl rfl ?_
    refine WP.run (pc' := 41) (L' := [.ref 225, .ref 247, .int (nI day), .int (nI (dueN N (N 4 + day))), .int (nI (k + 1))]) (st' := []) (I1 := (upN (upN J1 (235 + day) k (nI (wv N day k))) 238 day (nI (min (loP N day k) (wv N day k))))) 1 rfl ?_
    refine WP.cg (L' := [.ref 225, .ref 247, .int (nI day), .int (nI (dueN N (N 4 + day))), .int (nI (k + 1))]) rfl rfl rfl (ih (by omega) _ (WgI_step hday hW hO1) (((hO.tr (hO1.wk (fun o k z => by have z2 : o = 242 := z; exact ⟨by omega, by omega⟩))).up ⟨by omega, by omega⟩).up ⟨by decide, by decide⟩))
set_option maxRecDepth 100000 in
theorem lc_wgo {d : Nat} {I : Pl} {N : Nat → Nat} (hT : Tw I 247 N) (hN : TI N) : ∀ day, day ≤ 3 → ∀ J y3 y4, WgO J N day → Only I J wgP → WP (d + 4) (38, 2, none, sc0) 19 ([.ref 225, .ref 247, .int (nI day), y3, y4]) [] J (fun v K => v = none ∧ WgC K N ∧ Only I K wqP) := by
  refine loopUp (fun day hd ih => ?_)
  intro J y3 y4 hW hO
  have hJT : Tw J 247 N := hT.cg (fun o k x y => hO o k (fun z => by have z2 : 234 ≤ o ∧ o ≤ 244 := z; omega))
  obtain ⟨b0, b1, b2, b3, b4, b5, b6, b7, b8, bS, bC, bS1, bC1, bZ, bG⟩ := id hN
  obtain ⟨s6, s7, s64⟩ := hN.set64
  refine WP.run (pc' := if (nI 3) ≤ (nI day) then 102 else 24) (L' := [.ref 225, .ref 247, .int (nI day), y3, y4]) (st' := []) (I1 := J) 3 rfl ?_
  refine WP.br (fun h1 => ?_) (fun h1 => ?_)
  · have h1 : 3 ≤ day := nI_le_ (by omega) (by omega) h1
    refine WP.run (pc' := 107) (L' := [.ref 225, .ref 247, .int (nI day), y3, y4]) (st' := []) (I1 := (upN J 225 8 (nI 1))) 3 rfl ?_
    exact WP.ret rfl rfl (by
          obtain rfl : day = 3 := by omega
          refine ⟨rfl, ⟨upN_s, fun t ht => ⟨fun m hm => ?_, ?_⟩, fun k hk => ?_⟩, (hO.wk (fun o k z => Or.inr z)).up (Or.inl ⟨rfl, rfl⟩)⟩
          · rw [upN_no (by omega)]
            exact (hW.1 t ht).1 m hm
          · rw [upN_no (by omega)]
            exact (hW.1 t ht).2
          · rw [upN_no (by omega)]
            exact hW.2 k hk)
  · have h1 : ¬ 3 ≤ day := fun q => h1 (nI_le_r (by omega) q)
    refine WP.run (pc' := 26) (L' := [.ref 225, .ref 247, .int (nI day), y3, y4]) (st' := [.int (nI day), .ref 247]) (I1 := J) 2 rfl ?_
    refine WP.callV (rest := []) rfl rfl (sp_dueIn (d := d + 3) (n := day) hJT hN (by omega)) ?_
    refine WP.run (pc' := 37) (L' := [.ref 225, .ref 247, .int (nI day), .int (nI (dueN N (N 4 + day))), y4]) (st' := [.int (nI 1000000), .int (nI day), .ref 238]) (I1 := J) 5 rfl ?_
    refine WP.iast rfl rfl rfl (by omega) (by decide) ?_
    refine WP.run (pc' := 41) (L' := [.ref 225, .ref 247, .int (nI day), .int (nI (dueN N (N 4 + day))), .int (nI 0)]) (st' := []) (I1 := (upN J 238 day (nI 1000000))) 2 rfl ?_
    refine lc_wgi hT hN (by omega) (fun K hK hOK => ?_) 0 (Nat.zero_le _) _ (WgO_start (by omega) hW) (hO.up ⟨by decide, by decide⟩)
    refine WP.run (pc' := 19) (L' := [.ref 225, .ref 247, .int (nI day + nI 1), .int (nI (dueN N (N 4 + day))), .int (nI 64)]) (st' := []) (I1 := K) 2 rfl ?_
    refine WP.cg (L' := [.ref 225, .ref 247, .int (nI (day + 1)), .int (nI (dueN N (N 4 + day))), .int (nI 64)]) (by rw [nI_add]) rfl rfl (ih (by omega) K _ _ hK hOK)
set_option maxRecDepth 100000 in
theorem sp_weigh {d : Nat} {I : Pl} {N : Nat → Nat} (hT : Tw I 247 N) (hN : TI N) : EvX (d + 5) 38 [.ref 225, .ref 247] I (fun v K => v = none ∧ WgC K N ∧ Only I K wqP) := by
  refine EvX.enter rfl rfl rfl ?_
  refine WP.run (pc' := 10) (L' := [.ref 225, .ref 247, UU, UU, UU]) (st' := [.int (nI 0), .ref 240, .int (nI 0), .ref 250]) (I1 := I) 6 rfl ?_
  refine WP.aald rfl rfl (by decide) rfl (by decide) (by decide) rfl ?_
  refine WP.run (pc' := 14) (L' := [.ref 225, .ref 247, UU, UU, UU]) (st' := [.int (nI 6), .int (nI 0), .ref 241, .int (nI 0), .ref 250]) (I1 := I) 2 rfl ?_
  refine WP.copy rfl rfl rfl rfl rfl rfl (by omega) (by omega) (by decide) (by decide) ?_
  refine WP.run (pc' := 19) (L' := [.ref 225, .ref 247, .int (nI 0), UU, UU]) (st' := []) (I1 := (cpy I 250 241 0 0 6)) 2 rfl ?_
  exact lc_wgo hT hN 0 (Nat.zero_le _) _ _ _ ⟨fun t ht => absurd ht (Nat.not_lt_zero _), fun k hk => (cpy_b hk).trans (hT.a3 hk)⟩ (fun o k q => cpy_o (fun z => q (by subst z; exact ⟨by decide, by decide⟩)))
