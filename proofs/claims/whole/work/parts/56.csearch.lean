/-! the class's planner: the search -/
theorem clA_none {X : Nat → Nat} {m : Nat} : ∀ c, clA X 0 m c = (X, true) := by
  intro c
  induction c with
  | zero => rfl
  | succ c ih =>
    have h : (clA X 0 m c).2 = true := by rw [ih]
    rw [clA_n h (by unfold bitN; rw [Nat.zero_div]; decide), ih]
theorem gd_is {N X : Nat → Nat} {day m : Nat} (hs : same X N) (h : (gd N day m).2 = true) : gd X day m = clA X (dueN N (N 4 + day)) m (X 3) := by
  unfold gd at h ⊢
  rw [hs 4 (by omega), same_due hs, hs 7 (by omega), hs 0 (by omega), hs 1 (by omega)]
  by_cases q1 : dueN N (N 4 + day) = 0
  · rw [if_pos q1] at h ⊢
    rw [q1, clA_none]
    dsimp only at h
    rw [h]
  · rw [if_neg q1] at h ⊢
    by_cases q2 : m &&& N 7 = 0 ∧ N 0 ≤ min 99 (N 1 + day)
    · rw [if_pos q2]
    · rw [if_neg q2] at h
      cases h
theorem wv_gd {N : Nat → Nat} {day m : Nat} (h : wv N day m < 1000000) : m < 2 ^ N 2 ∧ (gd N day m).2 = true ∧ wv N day m = sumW (gd N day m).1 - sumW N := by
  unfold wv at h ⊢
  by_cases q : m < 2 ^ N 2
  · rw [if_pos q] at h ⊢
    cases e : (gd N day m).2
    · rw [e, cond_false] at h
      omega
    · exact ⟨q, rfl, rfl⟩
  · rw [if_neg q] at h
    omega
theorem lav_ok {X : Nat → Nat} {due m : Nat} (hX : TI X) (hm : m < 64) (h : (clA X due m (X 3)).2 = true) : lav X due m < 1000000 := by
  have := sumW_le (clA_I (due := due) hX hm (X 3) (Nat.le_refl _)).1
  unfold lav
  rw [h, cond_true]
  omega
theorem lav_no {X : Nat → Nat} {due m : Nat} (h : ¬ (clA X due m (X 3)).2 = true) : lav X due m = 1000000 := by
  unfold lav
  rw [Bool.eq_false_iff.mpr h]
  rfl
theorem lav_le {X : Nat → Nat} {due m : Nat} (hX : TI X) (hm : m < 64) : lav X due m ≤ 1000000 := by
  by_cases q : (clA X due m (X 3)).2 = true
  · exact Nat.le_of_lt (lav_ok hX hm q)
  · rw [lav_no q]
    exact Nat.le_refl _
section STP
variable {N X P : Nat → Nat} {j day m : Nat} {y : Bst}
theorem stp_no (h : ¬ (gd X day m).2 = true) : stpS (sumW N) j day X P m y = y := by
  rw [stpS_e, Bool.eq_false_iff.mpr h]
  rfl
theorem stp_go (h : (gd X day m).2 = true) (hl : sumW (gd X day m).1 - sumW N < y.1) : stpS (sumW N) j day X P m y = srch (sumW N) j (day + 1) (gd X day m).1 (updF P day m) y := by
  rw [stpS_e, h, Nat.blt_eq.mpr hl]
  rfl
theorem gd_sum (hN : TI N) (hX : TI X) (hm : m < 64) (hs : same X N) (hle : ∀ k, k < 6 → N (21 + k) ≤ X (21 + k)) (h2 : m < 2 ^ N 2) (h : (gd X day m).2 = true) : (gd N day m).2 = true ∧ sumW (gd X day m).1 - sumW N = sumW X - sumW N + wv N day m := by
  obtain ⟨m1, m2⟩ := gd_mono hN hX hm (fun i hi => (hs i hi).symm) hle h
  have hwv : wv N day m = sumW (gd N day m).1 - sumW N := by
    unfold wv
    rw [if_pos h2, m1, cond_true]
  have a1 := sumW_mono hle
  have a2 := sumW_mono (gd_I (day := day) (m := m) hN hm).2.2
  exact ⟨m1, by omega⟩
theorem stp_cut (hN : TI N) (hX : TI X) (hm : m < 64) (hs : same X N) (hle : ∀ k, k < 6 → N (21 + k) ≤ X (21 + k)) (h2 : m < 2 ^ N 2) (hc : y.1 ≤ sumW X - sumW N + wv N day m + laN N j (day + 1)) : stpS (sumW N) j day X P m y = y := by
  by_cases h : (gd X day m).2 = true
  · obtain ⟨g1, g2⟩ := gd_sum hN hX hm hs hle h2 h
    obtain ⟨i1, i2, i3⟩ := gd_I (day := day) (m := m) hX hm
    cases j with
    | zero =>
      have hla : laN N 0 (day + 1) = 0 := rfl
      rw [stpS_e, h]
      have : Nat.blt (sumW (gd X day m).1 - sumW N) y.1 = false := by
        rw [← Bool.not_eq_true, Nat.blt_eq]
        omega
      rw [this]
      rfl
    | succ j =>
      by_cases hb : sumW (gd X day m).1 - sumW N < y.1
      · rw [stp_go h hb]
        exact srch_cut hN j (day + 1) _ _ i1 (i2.tr hs) (fun k hk => Nat.le_trans (hle k hk) (i3 k hk)) (by omega)
      · rw [stpS_e, h]
        have : Nat.blt (sumW (gd X day m).1 - sumW N) y.1 = false := by
          rw [← Bool.not_eq_true, Nat.blt_eq]
          exact hb
        rw [this]
        rfl
  · exact stp_no h
end STP
def SrC (J : Pl) (N : Nat → Nat) (dd day : Nat) (X P : Nat → Nat) (y : Bst) : Prop := (∀ t, t < 3 → ∀ m, m < 64 → J (235 + t) m = nI (wv N t m)) ∧ (∀ t, t ≤ dd → J 239 t = nI (laN N (dd - t) t)) ∧ (∀ k, k < 6 → J (241 + day) k = nI (X (21 + k))) ∧ (∀ k, k < day → J 233 k = nI (P k)) ∧ J 227 dd = nI y.1 ∧ (y.1 < 1000000 → ∀ k, k < dd → J (229 + dd) k = nI (y.2 k))
def seP (dd day o k : Nat) : Prop := (o = 227 ∧ k = dd) ∨ o = 229 + dd ∨ (o = 233 ∧ day ≤ k) ∨ (241 + day < o ∧ o ≤ 244)
theorem seP_up {dd day o k : Nat} (z : seP dd (day + 1) o k) : seP dd day o k := by
  rcases z with z | z | z | z
  · exact Or.inl z
  · exact Or.inr (Or.inl z)
  · exact Or.inr (Or.inr (Or.inl ⟨z.1, by omega⟩))
  · exact Or.inr (Or.inr (Or.inr (by omega)))
theorem SrC.next {J J1 K : Pl} {N : Nat → Nat} {dd day m : Nat} {X P : Nat → Nat} {y r : Bst} (h : SrC J N dd day X P y) (hd : day < dd) (hd3 : dd ≤ 3) (h1 : Only J J1 (onB (day + 1))) (h2 : Only (upN J1 233 day (nI m)) K (seP dd (day + 1))) (h3 : K 227 dd = nI r.1) (h4 : r.1 < 1000000 → ∀ k, k < dd → K (229 + dd) k = nI (r.2 k)) : SrC K N dd day X P r := by
  obtain ⟨a, b, c, e, -, -⟩ := h
  have key : ∀ o k, ¬ o = 242 + day → ¬ (o = 233 ∧ day ≤ k) → ¬ (o = 227 ∧ k = dd) → ¬ o = 229 + dd → ¬ (242 + day < o ∧ o ≤ 244) → K o k = J o k := by
    intro o k q1 q2 q3 q4 q5
    rw [h2 o k (fun z => by rcases z with z | z | z | z <;> omega)]
    have hu : upN J1 233 day (nI m) o k = J1 o k := by
      by_cases q : o = 233
      · exact upN_nk (by omega)
      · exact upN_no q
    rw [hu]
    exact h1 o k (fun z => by have z2 : o = 241 + (day + 1) := z; omega)
  refine ⟨fun t ht m hm => ?_, fun t ht => ?_, fun k hk => ?_, fun k hk => ?_, h3, h4⟩
  · rw [key _ _ (by omega) (by omega) (by omega) (by omega) (by omega)]
    exact a t ht m hm
  · rw [key _ _ (by omega) (by omega) (by omega) (by omega) (by omega)]
    exact b t ht
  · rw [key _ _ (by omega) (by omega) (by omega) (by omega) (by omega)]
    exact c k hk
  · rw [key _ _ (by omega) (by omega) (by omega) (by omega) (by omega)]
    exact e k hk
theorem SrC.deep {J J1 : Pl} {N : Nat → Nat} {dd day m : Nat} {X P X2 : Nat → Nat} {y : Bst} (h : SrC J N dd day X P y) (hd : day < dd) (hd3 : dd ≤ 3) (h1 : Only J J1 (onB (day + 1))) (hw : ∀ k, k < 6 → J1 (241 + (day + 1)) k = nI (X2 (21 + k))) : SrC (upN J1 233 day (nI m)) N dd (day + 1) X2 (updF P day m) y := by
  obtain ⟨a, b, c, e, f, g⟩ := h
  have key : ∀ o k, ¬ o = 242 + day → ¬ o = 233 → upN J1 233 day (nI m) o k = J o k := by
    intro o k q1 q2
    rw [upN_no q2]
    exact h1 o k (fun z => by have z2 : o = 241 + (day + 1) := z; omega)
  refine ⟨fun t ht m hm => ?_, fun t ht => ?_, fun k hk => ?_, fun k hk => ?_, ?_, fun q k hk => ?_⟩
  · rw [key _ _ (by omega) (by omega)]
    exact a t ht m hm
  · rw [key _ _ (by omega) (by omega)]
    exact b t ht
  · rw [upN_no (by omega)]
    exact hw k hk
  · by_cases q : k = day
    · rw [q, upN_s, updF_s]
    · rw [upN_nk q, updF_o q, h1 233 k (fun z => by have z2 : 233 = 241 + (day + 1) := z; omega)]
      exact e k (by omega)
  · rw [key _ _ (by omega) (by omega)]
    exact f
  · rw [key _ _ (by omega) (by omega)]
    exact g q k hk
set_option maxRecDepth 100000 in
theorem sp_areBorne {d : Nat} {I : Pl} {N X : Nat → Nat} {day m : Nat} (hT : Tw I 247 N) (hN : TI N) (hX : TI X) (hsX : same X N) (hday : day < 3) (hm : m < 64) (hmd : ¬ m = 0 ∨ dueN N (N 4 + day) = 0) (hW : ∀ k, k < 6 → I (241 + day) k = nI (X (21 + k))) : EvX (d + 4) 39 [.ref 225, .ref 247, .int (nI day), .int (nI m)] I (fun v K => v = some (.int (b2i (lav X (dueN N (N 4 + day)) m < 1000000))) ∧ ((clA X (dueN N (N 4 + day)) m (X 3)).2 = true → ∀ k, k < 6 → K (241 + (day + 1)) k = nI ((clA X (dueN N (N 4 + day)) m (X 3)).1 (21 + k))) ∧ Only I K (onB (day + 1))) := by
  obtain ⟨b0, b1, b2, b3, b4, b5, b6, b7, b8, bS, bC, bS1, bC1, bZ, bG⟩ := id hN
  obtain ⟨s6, s7, s64⟩ := hN.set64
  have hdl := dueN_lt (n := N 4 + day) hN
  have hlv := lav_le (due := dueN N (N 4 + day)) (m := m) hX hm
  refine EvX.enter rfl rfl rfl ?_
  refine WP.run (pc' := 4) (L' := [.ref 225, .ref 247, .int (nI day), .int (nI m)]) (st' := [.int (nI day), .ref 247, .ref 247, .ref 225]) (I1 := I) 4 rfl ?_
  refine WP.callV (rest := [.ref 247, .ref 225]) rfl rfl (sp_dueIn (d := d + 2) (n := day) hT hN (by omega)) ?_
  refine WP.run (pc' := 13) (L' := [.ref 225, .ref 247, .int (nI day), .int (nI m)]) (st' := [.int (nI day), .ref 240, .int (nI m), .int (nI (dueN N (N 4 + day))), .ref 247, .ref 225]) (I1 := I) 4 rfl ?_
  refine WP.aald rfl rfl (by decide) rfl (by omega) (by decide) (RRW day (by omega)) ?_
  refine WP.run (pc' := 21) (L' := [.ref 225, .ref 247, .int (nI day), .int (nI m)]) (st' := [.int ((nI day) + (nI 1)), .ref 240, .ref (241 + day), .int (nI m), .int (nI (dueN N (N 4 + day))), .ref 247, .ref 225]) (I1 := I) 5 rfl ?_
  refine WP.cg (st' := [.int (nI (day + 1)), .ref 240, .ref (241 + day), .int (nI m), .int (nI (dueN N (N 4 + day))), .ref 247, .ref 225]) rfl (congrArg (fun z : Int32 => (.int z :: [.ref 240, .ref (241 + day), .int (nI m), .int (nI (dueN N (N 4 + day))), .ref 247, .ref 225] : List Value)) (nI_add day 1)) rfl ?_
  refine WP.aald rfl rfl (by decide) rfl (by omega) (by decide) (RRW (day + 1) (by omega)) ?_
  refine WP.callX (rest := []) rfl rfl (sp_lac (d := d) (N := N) (X := X) (due := dueN N (N 4 + day)) (m := m) (a := day) (b := day + 1) hT hN hX hsX hm hdl hmd (by omega) (by omega) (by omega) hW) (fun v J1 hv => ?_)
  obtain ⟨rfl, hv2, hO1⟩ := hv
  refine WP.run (pc' := if (nI 1000000) ≤ (nI (lav X (dueN N (N 4 + day)) m)) then 34 else 30) (L' := [.ref 225, .ref 247, .int (nI day), .int (nI m)]) (st' := []) (I1 := J1) 2 rfl ?_
  refine WP.br (fun h1 => ?_) (fun h1 => ?_)
  · have h1 : 1000000 ≤ lav X (dueN N (N 4 + day)) m := nI_le_ (by omega) (by omega) h1
    refine WP.run (pc' := 35) (L' := [.ref 225, .ref 247, .int (nI day), .int (nI m)]) (st' := [.int (nI 0)]) (I1 := J1) 1 rfl ?_
    exact WP.ret rfl rfl (⟨(congrArg (fun z : Int32 => some (Value.int z)) (b2iF (by omega)).symm), hv2, hO1⟩)
  · have h1 : ¬ 1000000 ≤ lav X (dueN N (N 4 + day)) m := fun q => h1 (nI_le_r (by omega) q)
    refine WP.run (pc' := 35) (L' := [.ref 225, .ref 247, .int (nI day), .int (nI m)]) (st' := [.int (nI 1)]) (I1 := J1) 2 rfl ?_
    exact WP.ret rfl rfl (⟨(congrArg (fun z : Int32 => some (Value.int z)) (b2iT (by omega)).symm), hv2, hO1⟩)
set_option maxRecDepth 100000 in
theorem se_base {d : Nat} {I : Pl} {N X P : Nat → Nat} {dd day : Nat} {x : Bst} (h1 : day = dd) (hd3 : dd ≤ 3) (hS : SrC I N dd day X P x) : EvX (d + 5) 40 [.ref 225, .ref 247, .int (nI dd), .int (nI day), .int (nI (sumW X - sumW N))] I (fun v K => v = none ∧ K 227 dd = nI (srch (sumW N) 0 day X P x).1 ∧ ((srch (sumW N) 0 day X P x).1 < 1000000 → ∀ k, k < dd → K (229 + dd) k = nI ((srch (sumW N) 0 day X P x).2 k)) ∧ Only I K (seP dd day)) := by
  refine EvX.enter rfl rfl rfl ?_
  refine WP.run (pc' := if (nI dd) ≤ (nI day) then 10 else 5) (L' := [.ref 225, .ref 247, .int (nI dd), .int (nI day), .int (nI (sumW X - sumW N)), UU, UU]) (st' := []) (I1 := I) 3 rfl ?_
  refine WP.brT (nI_le_r (by omega) (by omega)) ?_
  refine WP.run (pc' := 17) (L' := [.ref 225, .ref 247, .int (nI dd), .int (nI day), .int (nI (sumW X - sumW N)), UU, UU]) (st' := [.int (nI (sumW X - sumW N)), .int (nI dd), .ref 227]) (I1 := I) 4 rfl ?_
  refine WP.iast rfl rfl rfl (by omega) (by decide) ?_
  refine WP.run (pc' := 28) (L' := [.ref 225, .ref 247, .int (nI dd), .int (nI day), .int (nI (sumW X - sumW N)), UU, UU]) (st' := [.int (nI dd), .ref 228, .int (nI 0), .ref 233]) (I1 := (upN I 227 dd (nI (sumW X - sumW N)))) 6 rfl ?_
  refine WP.aald rfl rfl (by decide) rfl (by omega) (by decide) (RRB dd (by omega)) ?_
  refine WP.run (pc' := 31) (L' := [.ref 225, .ref 247, .int (nI dd), .int (nI day), .int (nI (sumW X - sumW N)), UU, UU]) (st' := [.int (nI 3), .int (nI 0), .ref (229 + dd), .int (nI 0), .ref 233]) (I1 := (upN I 227 dd (nI (sumW X - sumW N)))) 2 rfl ?_
  refine WP.copy rfl rfl rfl (KdB dd (by omega)) rfl (NNB dd (by omega)) (by omega) (by omega) (by decide) (by decide) ?_
  exact WP.ret rfl rfl (by
      refine ⟨rfl, ?_, fun _ k hk => ?_, fun o k q => ?_⟩
      · rw [cpy_o (by omega)]
        exact upN_s
      · rw [cpy_b (by omega), upN_no (by decide)]
        exact hS.2.2.2.1 k (by omega)
      · have q1 : ¬ o = 229 + dd := fun z => q (Or.inr (Or.inl z))
        have q2 : ¬ (o = 227 ∧ k = dd) := fun z => q (Or.inl z)
        rw [cpy_o q1]
        by_cases z : o = 227
        · exact upN_nk (fun w => q2 ⟨z, w⟩)
        · exact upN_no z)
set_option maxRecDepth 100000 in
theorem se_loop {d j dd : Nat} {N : Nat → Nat} (hN : TI N) (hd3 : dd ≤ 3) (ihj : ∀ (I : Pl) (X P : Nat → Nat) (x : Bst) (day : Nat), day + j = dd → Tw I 247 N → TI X → same X N → (∀ k, k < 6 → N (21 + k) ≤ X (21 + k)) → x.1 ≤ 1000000 → SrC I N dd day X P x → EvX (d + j + 5) 40 [.ref 225, .ref 247, .int (nI dd), .int (nI day), .int (nI (sumW X - sumW N))] I (fun v K => v = none ∧ K 227 dd = nI (srch (sumW N) j day X P x).1 ∧ ((srch (sumW N) j day X P x).1 < 1000000 → ∀ k, k < dd → K (229 + dd) k = nI ((srch (sumW N) j day X P x).2 k)) ∧ Only I K (seP dd day))) {I : Pl} {X P : Nat → Nat} {x : Bst} {day : Nat} (hjd : day + (j + 1) = dd) (hT : Tw I 247 N) (hX : TI X) (hs : same X N) (hle : ∀ k, k < 6 → N (21 + k) ≤ X (21 + k)) (hx : x.1 ≤ 1000000) : ∀ k, k ≤ 64 → ∀ J y7, (foldN (stpS (sumW N) j day X P) (min k (2 ^ N 2)) x).1 ≤ 1000000 → SrC J N dd day X P (foldN (stpS (sumW N) j day X P) (min k (2 ^ N 2)) x) → Only I J (seP dd day) → WP (d + j + 5) (40, 2, none, sc0) 38 ([.ref 225, .ref 247, .int (nI dd), .int (nI day), .int (nI (sumW X - sumW N)), .int (nI k), y7]) [] J (fun v K => v = none ∧ K 227 dd = nI (srch (sumW N) (j + 1) day X P x).1 ∧ ((srch (sumW N) (j + 1) day X P x).1 < 1000000 → ∀ k, k < dd → K (229 + dd) k = nI ((srch (sumW N) (j + 1) day X P x).2 k)) ∧ Only I K (seP dd day)) := by
  refine loopUp (fun k hk ih => ?_)
  intro J y7 hy hS hO
  have hJT : Tw J 247 N := hT.cg (fun o k x y => hO o k (fun z => by rcases z with z | z | z | z <;> omega))
  obtain ⟨b0, b1, b2, b3, b4, b5, b6, b7, b8, bS, bC, bS1, bC1, bZ, bG⟩ := id hN
  obtain ⟨s6, s7, s64⟩ := hN.set64
  have hsX := sumW_le hX
  have hsm := sumW_mono hle
  have hdl := dueN_lt (n := N 4 + day) hN
  have hwl := wv_le (day := day) (m := k) hN
  have hla := laN_le (N := N) j (day + 1)
  generalize hyk : (foldN (stpS (sumW N) j day X P) (min k (2 ^ N 2)) x) = y at *
  have hnx : k < 2 ^ N 2 → (foldN (stpS (sumW N) j day X P) (min (k + 1) (2 ^ N 2)) x) = stpS (sumW N) j day X P k y := fun q => by
    rw [show min (k + 1) (2 ^ N 2) = min k (2 ^ N 2) + 1 by omega, ← hyk]
    show stpS (sumW N) j day X P (min k (2 ^ N 2)) _ = _
    rw [show min k (2 ^ N 2) = k by omega]
  have hnx2 : ¬ k < 2 ^ N 2 → (foldN (stpS (sumW N) j day X P) (min (k + 1) (2 ^ N 2)) x) = y := fun q => by
    rw [show min (k + 1) (2 ^ N 2) = min k (2 ^ N 2) by omega, hyk]
  refine WP.run (pc' := if (nI 64) ≤ (nI k) then 115 else 45) (L' := [.ref 225, .ref 247, .int (nI dd), .int (nI day), .int (nI (sumW X - sumW N)), .int (nI k), y7]) (st' := []) (I1 := J) 3 rfl ?_
  refine WP.br (fun h1 => ?_) (fun h1 => ?_)
  · have h1 : 64 ≤ k := nI_le_ (by omega) (by omega) h1
    exact WP.ret rfl rfl (by
          have hend : srch (sumW N) (j + 1) day X P x = y := by
            rw [srch_e, hs 2 (by omega), ← hyk, show min k (2 ^ N 2) = 2 ^ N 2 by omega]
          rw [hend]
          exact ⟨rfl, hS.2.2.2.2.1, hS.2.2.2.2.2, hO⟩)
  · have h1 : ¬ 64 ≤ k := fun q => h1 (nI_le_r (by omega) q)
    refine WP.run (pc' := 52) (L' := [.ref 225, .ref 247, .int (nI dd), .int (nI day), .int (nI (sumW X - sumW N)), .int (nI k), y7]) (st' := [.int (nI day), .ref 234, .int (nI (sumW X - sumW N))]) (I1 := J) 4 rfl ?_
    refine WP.aald rfl rfl (by decide) rfl (by omega) (by decide) (RRV day (by omega)) ?_
    refine WP.run (pc' := 55) (L' := [.ref 225, .ref 247, .int (nI dd), .int (nI day), .int (nI (sumW X - sumW N)), .int (nI k), y7]) (st' := [.int (nI k), .ref (235 + day), .int (nI (sumW X - sumW N))]) (I1 := J) 1 rfl ?_
    refine WP.iald rfl (KdV day (by omega)) (NNV day (by omega)) (by omega) (by decide) ?_
    refine WP.cg (st' := [.int (nI (wv N day k)), .int (nI (sumW X - sumW N))]) rfl (congrArg (fun z : Int32 => (.int z :: [.int (nI (sumW X - sumW N))] : List Value)) (hS.1 day (by omega) k (by omega))) rfl ?_
    refine WP.run (pc' := 57) (L' := [.ref 225, .ref 247, .int (nI dd), .int (nI day), .int (nI (sumW X - sumW N)), .int (nI k), y7]) (st' := [.int ((nI (sumW X - sumW N)) + (nI (wv N day k)))]) (I1 := J) 1 rfl ?_
    refine WP.cg (st' := [.int (nI ((sumW X - sumW N) + (wv N day k)))]) rfl (congrArg (fun z : Int32 => (.int z :: [] : List Value)) (nI_add (sumW X - sumW N) (wv N day k))) rfl ?_
    refine WP.run (pc' := 68) (L' := [.ref 225, .ref 247, .int (nI dd), .int (nI day), .int (nI (sumW X - sumW N)), .int (nI k), .int (nI ((sumW X - sumW N) + (wv N day k)))]) (st' := [.int ((nI day) + (nI 1)), .ref 239, .int (nI ((sumW X - sumW N) + (wv N day k)))]) (I1 := J) 7 rfl ?_
    refine WP.cg (st' := [.int (nI (day + 1)), .ref 239, .int (nI ((sumW X - sumW N) + (wv N day k)))]) rfl (congrArg (fun z : Int32 => (.int z :: [.ref 239, .int (nI ((sumW X - sumW N) + (wv N day k)))] : List Value)) (nI_add day 1)) rfl ?_
    refine WP.iald rfl rfl rfl (by omega) (by decide) ?_
    refine WP.cg (st' := [.int (nI (laN N j (day + 1))), .int (nI ((sumW X - sumW N) + (wv N day k)))]) rfl (congrArg (fun z : Int32 => (.int z :: [.int (nI ((sumW X - sumW N) + (wv N day k)))] : List Value)) ((hS.2.1 (day + 1) (by omega)).trans (by rw [show dd - (day + 1) = j by omega]))) rfl ?_
    refine WP.run (pc' := 70) (L' := [.ref 225, .ref 247, .int (nI dd), .int (nI day), .int (nI (sumW X - sumW N)), .int (nI k), .int (nI ((sumW X - sumW N) + (wv N day k)))]) (st' := [.int ((nI ((sumW X - sumW N) + (wv N day k))) + (nI (laN N j (day + 1))))]) (I1 := J) 1 rfl ?_
    refine WP.cg (st' := [.int (nI (((sumW X - sumW N) + (wv N day k)) + (laN N j (day + 1))))]) rfl (congrArg (fun z : Int32 => (.int z :: [] : List Value)) (nI_add ((sumW X - sumW N) + (wv N day k)) (laN N j (day + 1)))) rfl ?_
    refine WP.run (pc' := 75) (L' := [.ref 225, .ref 247, .int (nI dd), .int (nI day), .int (nI (sumW X - sumW N)), .int (nI k), .int (nI ((sumW X - sumW N) + (wv N day k)))]) (st' := [.int (nI dd), .ref 227, .int (nI (((sumW X - sumW N) + (wv N day k)) + (laN N j (day + 1))))]) (I1 := J) 3 rfl ?_
    refine WP.iald rfl rfl rfl (by omega) (by decide) ?_
    refine WP.cg (st' := [.int (nI y.1), .int (nI (((sumW X - sumW N) + (wv N day k)) + (laN N j (day + 1))))]) rfl (congrArg (fun z : Int32 => (.int z :: [.int (nI (((sumW X - sumW N) + (wv N day k)) + (laN N j (day + 1))))] : List Value)) (hS.2.2.2.2.1)) rfl ?_
    refine WP.run (pc' := if (nI y.1) ≤ (nI (((sumW X - sumW N) + (wv N day k)) + (laN N j (day + 1)))) then 109 else 79) (L' := [.ref 225, .ref 247, .int (nI dd), .int (nI day), .int (nI (sumW X - sumW N)), .int (nI k), .int (nI ((sumW X - sumW N) + (wv N day k)))]) (st' := []) (I1 := J) 1 rfl ?_
    refine WP.br (fun h2 => ?_) (fun h2 => ?_)
    · have h2 : y.1 ≤ ((sumW X - sumW N) + (wv N day k)) + (laN N j (day + 1)) := nI_le_ (by omega) (by omega) h2
      refine WP.run (pc' := 112) (L' := [.ref 225, .ref 247, .int (nI dd), .int (nI day), .int (nI (sumW X - sumW N)), .int ((nI k) + nI 1), .int (nI ((sumW X - sumW N) + (wv N day k)))]) (st' := []) (I1 := J) 1 rfl ?_
      refine WP.cg (L' := [.ref 225, .ref 247, .int (nI dd), .int (nI day), .int (nI (sumW X - sumW N)), .int (nI (k + 1)), .int (nI ((sumW X - sumW N) + (wv N day k)))]) (congrArg (fun z : Int32 => ([.ref 225, .ref 247, .int (nI dd), .int (nI day), .int (nI (sumW X - sumW N)), .int z, .int (nI ((sumW X - sumW N) + (wv N day k)))] : List Value)) (nI_add k 1)) rfl rfl ?_
      refine WP.run (pc' := 38) (L' := [.ref 225, .ref 247, .int (nI dd), .int (nI day), .int (nI (sumW X - sumW N)), .int (nI (k + 1)), .int (nI ((sumW X - sumW N) + (wv N day k)))]) (st' := []) (I1 := J) 1 rfl ?_
      have hr : (foldN (stpS (sumW N) j day X P) (min (k + 1) (2 ^ N 2)) x) = y := by
        by_cases q : k < 2 ^ N 2
        · rw [hnx q, stp_cut hN hX (by omega) hs hle q (by omega)]
        · exact hnx2 q
      rw [hr] at ih
      exact ih (by omega) J _ hy hS hO
    · have h2 : ¬ y.1 ≤ ((sumW X - sumW N) + (wv N day k)) + (laN N j (day + 1)) := fun q => h2 (nI_le_r (by omega) q)
      obtain ⟨w1, w2, w3⟩ := wv_gd (N := N) (day := day) (m := k) (by omega)
      have hgi := gd_is hs w2
      have hmd : ¬ k = 0 ∨ dueN N (N 4 + day) = 0 := by
        by_cases q : dueN N (N 4 + day) = 0
        · exact Or.inr q
        · left
          intro z
          have := wv_c hN q z
          omega
      refine WP.run (pc' := 84) (L' := [.ref 225, .ref 247, .int (nI dd), .int (nI day), .int (nI (sumW X - sumW N)), .int (nI k), .int (nI ((sumW X - sumW N) + (wv N day k)))]) (st' := [.int (nI k), .int (nI day), .ref 247, .ref 225]) (I1 := J) 4 rfl ?_
      refine WP.callX (rest := []) rfl rfl (sp_areBorne (d := d + j + 1) (N := N) (X := X) (day := day) (m := k) hJT hN hX hs (by omega) (by omega) hmd hS.2.2.1) (fun v J1 hv => ?_)
      obtain ⟨rfl, hv2, hO1⟩ := hv
      by_cases hp : lav X (dueN N (N 4 + day)) k < 1000000
      · refine WP.cg (st' := [.int (nI 1)]) rfl (by rw [b2iT hp]; rfl) rfl ?_
        refine WP.run (pc' := 90) (L' := [.ref 225, .ref 247, .int (nI dd), .int (nI day), .int (nI (sumW X - sumW N)), .int (nI k), .int (nI ((sumW X - sumW N) + (wv N day k)))]) (st' := []) (I1 := J1) 1 rfl ?_
        have hok : (clA X (dueN N (N 4 + day)) k (X 3)).2 = true := by
          by_cases q : (clA X (dueN N (N 4 + day)) k (X 3)).2 = true
          · exact q
          · have := lav_no q
            omega
        have hgo : (gd X day k).2 = true := by rw [hgi]; exact hok
        obtain ⟨g1, g2⟩ := gd_sum hN hX (by omega) hs hle w1 hgo
        obtain ⟨i1, i2, i3⟩ := gd_I (day := day) (m := k) hX (by omega)
        refine WP.run (pc' := 97) (L' := [.ref 225, .ref 247, .int (nI dd), .int (nI day), .int (nI (sumW X - sumW N)), .int (nI k), .int (nI ((sumW X - sumW N) + (wv N day k)))]) (st' := [.int (nI k), .int (nI day), .ref 233]) (I1 := J1) 4 rfl ?_
        refine WP.iast rfl rfl rfl (by omega) (by decide) ?_
        refine WP.run (pc' := 104) (L' := [.ref 225, .ref 247, .int (nI dd), .int (nI day), .int (nI (sumW X - sumW N)), .int (nI k), .int (nI ((sumW X - sumW N) + (wv N day k)))]) (st' := [.int ((nI day) + (nI 1)), .int (nI dd), .ref 247, .ref 225]) (I1 := (upN J1 233 day (nI k))) 6 rfl ?_
        refine WP.cg (st' := [.int (nI (day + 1)), .int (nI dd), .ref 247, .ref 225]) rfl (congrArg (fun z : Int32 => (.int z :: [.int (nI dd), .ref 247, .ref 225] : List Value)) (nI_add day 1)) rfl ?_
        refine WP.run (pc' := 106) (L' := [.ref 225, .ref 247, .int (nI dd), .int (nI day), .int (nI (sumW X - sumW N)), .int (nI k), .int (nI ((sumW X - sumW N) + (wv N day k)))]) (st' := [.int (nI ((sumW X - sumW N) + (wv N day k))), .int (nI (day + 1)), .int (nI dd), .ref 247, .ref 225]) (I1 := (upN J1 233 day (nI k))) 1 rfl ?_
        refine WP.cg (st' := [.int (nI (sumW (gd X day k).1 - sumW N)), .int (nI (day + 1)), .int (nI dd), .ref 247, .ref 225]) rfl (by rw [g2]) rfl ?_
        refine WP.callX (rest := []) rfl rfl (ihj (upN J1 233 day (nI k)) (gd X day k).1 (updF P day k) y (day + 1) (by omega) (hJT.cg (fun o k x y => (upN_no (by omega)).trans (hO1 o k (fun z => by have z2 : o = 241 + (day + 1) := z; omega)))) i1 (i2.tr hs) (fun k hk => Nat.le_trans (hle k hk) (i3 k hk)) hy (hS.deep (by omega) hd3 hO1 (by rw [hgi]; exact hv2 hok))) (fun v J2 hv => ?_)
        obtain ⟨rfl, k1, k2, hO2⟩ := hv
        refine WP.run (pc' := 112) (L' := [.ref 225, .ref 247, .int (nI dd), .int (nI day), .int (nI (sumW X - sumW N)), .int ((nI k) + nI 1), .int (nI ((sumW X - sumW N) + (wv N day k)))]) (st' := []) (I1 := J2) 1 rfl ?_
        refine WP.cg (L' := [.ref 225, .ref 247, .int (nI dd), .int (nI day), .int (nI (sumW X - sumW N)), .int (nI (k + 1)), .int (nI ((sumW X - sumW N) + (wv N day k)))]) (congrArg (fun z : Int32 => ([.ref 225, .ref 247, .int (nI dd), .int (nI day), .int (nI (sumW X - sumW N)), .int z, .int (nI ((sumW X - sumW N) + (wv N day k)))] : List Value)) (nI_add k 1)) rfl rfl ?_
        refine WP.run (pc' := 38) (L' := [.ref 225, .ref 247, .int (nI dd), .int (nI day), .int (nI (sumW X - sumW N)), .int (nI (k + 1)), .int (nI ((sumW X - sumW N) + (wv N day k)))]) (st' := []) (I1 := J2) 1 rfl ?_
        have hr := hnx w1
        rw [stp_go hgo (by omega)] at hr
        have hS2 := hS.next (r := srch (sumW N) j (day + 1) (gd X day k).1 (updF P day k) y) (by omega) hd3 hO1 hO2 k1 k2
        rw [← hr] at hS2
        have hb := srch_lt (s0 := sumW N) (B := 1000000) j (day + 1) (gd X day k).1 (updF P day k) y i1 ⟨hy, by decide⟩
        rw [← hr] at hb
        refine ih (by omega) J2 _ hb hS2 (((hO.tr (hO1.wk (fun o k z => Or.inr (Or.inr (Or.inr (by have z2 : o = 241 + (day + 1) := z; omega)))))).up (Or.inr (Or.inr (Or.inl ⟨rfl, Nat.le_refl _⟩)))).tr (hO2.wk (fun o k z => seP_up z)))
      · refine WP.cg (st' := [.int (nI 0)]) rfl (by rw [b2iF hp]; rfl) rfl ?_
        refine WP.run (pc' := 112) (L' := [.ref 225, .ref 247, .int (nI dd), .int (nI day), .int (nI (sumW X - sumW N)), .int ((nI k) + nI 1), .int (nI ((sumW X - sumW N) + (wv N day k)))]) (st' := []) (I1 := J1) 2 rfl ?_
        refine WP.cg (L' := [.ref 225, .ref 247, .int (nI dd), .int (nI day), .int (nI (sumW X - sumW N)), .int (nI (k + 1)), .int (nI ((sumW X - sumW N) + (wv N day k)))]) (congrArg (fun z : Int32 => ([.ref 225, .ref 247, .int (nI dd), .int (nI day), .int (nI (sumW X - sumW N)), .int z, .int (nI ((sumW X - sumW N) + (wv N day k)))] : List Value)) (nI_add k 1)) rfl rfl ?_
        refine WP.run (pc' := 38) (L' := [.ref 225, .ref 247, .int (nI dd), .int (nI day), .int (nI (sumW X - sumW N)), .int (nI (k + 1)), .int (nI ((sumW X - sumW N) + (wv N day k)))]) (st' := []) (I1 := J1) 1 rfl ?_
        have hno : ¬ (gd X day k).2 = true := fun q => by
          rw [hgi] at q
          have := lav_ok hX (by omega) q
          omega
        have hr := hnx w1
        rw [stp_no hno] at hr
        rw [hr] at ih
        refine ih (by omega) J1 _ hy ?_ (hO.tr (hO1.wk (fun o k z => Or.inr (Or.inr (Or.inr (by have z2 : o = 241 + (day + 1) := z; omega))))))
        have e : ∀ o k, ¬ o = 242 + day → J1 o k = J o k := fun o k q => hO1 o k (fun z => by have z2 : o = 241 + (day + 1) := z; omega)
        obtain ⟨a1, a2, a3, a4, a5, a6⟩ := hS
        exact ⟨fun t ht m hm => by rw [e _ _ (by omega)]; exact a1 t ht m hm, fun t ht => by rw [e _ _ (by omega)]; exact a2 t ht, fun k hk => by rw [e _ _ (by omega)]; exact a3 k hk, fun k hk => by rw [e _ _ (by omega)]; exact a4 k hk, by rw [e _ _ (by omega)]; exact a5, fun q k hk => by rw [e _ _ (by omega)]; exact a6 q k hk⟩
set_option maxRecDepth 100000 in
theorem sp_search {d dd : Nat} {N : Nat → Nat} (hN : TI N) (hd3 : dd ≤ 3) : ∀ j, ∀ (I : Pl) (X P : Nat → Nat) (x : Bst) (day : Nat), day + j = dd → Tw I 247 N → TI X → same X N → (∀ k, k < 6 → N (21 + k) ≤ X (21 + k)) → x.1 ≤ 1000000 → SrC I N dd day X P x → EvX (d + j + 5) 40 [.ref 225, .ref 247, .int (nI dd), .int (nI day), .int (nI (sumW X - sumW N))] I (fun v K => v = none ∧ K 227 dd = nI (srch (sumW N) j day X P x).1 ∧ ((srch (sumW N) j day X P x).1 < 1000000 → ∀ k, k < dd → K (229 + dd) k = nI ((srch (sumW N) j day X P x).2 k)) ∧ Only I K (seP dd day)) := by
  intro j
  induction j with
  | zero =>
    intro I X P x day h1 hT hX hs hle hx hS
    exact se_base h1 hd3 hS
  | succ j ihj =>
    intro I X P x day hjd hT hX hs hle hx hS
    refine EvX.enter rfl rfl rfl ?_
    refine WP.run (pc' := if (nI dd) ≤ (nI day) then 10 else 5) (L' := [.ref 225, .ref 247, .int (nI dd), .int (nI day), .int (nI (sumW X - sumW N)), UU, UU]) (st' := []) (I1 := I) 3 rfl ?_
    refine WP.brF (fun q => absurd (nI_le_ (by omega) (by omega) q) (by omega)) ?_
    refine WP.run (pc' := if (nI day) < (nI 3) then 35 else 10) (L' := [.ref 225, .ref 247, .int (nI dd), .int (nI day), .int (nI (sumW X - sumW N)), UU, UU]) (st' := []) (I1 := I) 3 rfl ?_
    refine WP.brT (nI_lt_r (by omega) (by omega)) ?_
    refine WP.run (pc' := 38) (L' := [.ref 225, .ref 247, .int (nI dd), .int (nI day), .int (nI (sumW X - sumW N)), .int (nI 0), UU]) (st' := []) (I1 := I) 2 rfl ?_
    exact se_loop hN hd3 ihj hjd hT hX hs hle hx 0 (Nat.zero_le _) I _ (by rw [Nat.zero_min]; exact hx) (by rw [Nat.zero_min]; exact hS) Only.rfl_
