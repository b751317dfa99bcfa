/-! the reference's search -/
def lwL (l : Nat) : Nat := if l = 1000000 then 1000000000 else l
theorem lwL_le {l w : Nat} (hw : w < 1000000) (hl : l ≤ 1000000) : lwL l ≤ w ↔ l ≤ w := by
  unfold lwL
  split <;> omega
theorem lwL_b {l : Nat} (hl : l ≤ 1000000) : lwL l ≤ 1000000000 := by
  unfold lwL
  split <;> omega
def lwP (day o k : Nat) : Prop := (o = 272 ∧ 21 ≤ k ∧ k < 27) ∨ (o = 279 ∧ 6 * (day + 1) ≤ k) ∨ (o = 280 ∧ day ≤ k) ∨ o = 281
def LwF (J : Pl) (N : Nat → Nat) (dd day : Nat) (X P : Nat → Nat) (s : Nat) (y : Bst) : Prop := (∀ k, k < 47 → ¬ (21 ≤ k ∧ k < 27) → J 272 k = nI (N k)) ∧ (∀ k, k < 6 → J 279 k = nI (N (21 + k))) ∧ (∀ k, k < 6 → J 279 (6 * day + k) = nI (X (21 + k))) ∧ (∀ k, k < day → J 280 k = nI (P k)) ∧ J 280 day = nI s - nI 1 ∧ (y.1 < 1000000 → ∀ k, k < dd → J 281 k = nI (y.2 k))
section LW
variable {J K : Pl} {N X P : Nat → Nat} {dd day s : Nat} {y : Bst}
theorem LwF.nx (h : LwF J N dd day X P s y) (hO : Only J K (lwP day)) {s2 : Nat} {y2 : Bst} (h1 : K 280 day = nI s2 - nI 1) (h2 : y2.1 < 1000000 → ∀ k, k < dd → K 281 k = nI (y2.2 k)) : LwF K N dd day X P s2 y2 := by
  obtain ⟨a, b, c, e, -, -⟩ := h
  refine ⟨fun k hk q => ?_, fun k hk => ?_, fun k hk => ?_, fun k hk => ?_, h1, h2⟩
  · rw [hO 272 k (fun z => by rcases z with z | z | z | z <;> omega)]
    exact a k hk q
  · rw [hO 279 k (fun z => by rcases z with z | z | z | z <;> omega)]
    exact b k hk
  · rw [hO 279 _ (fun z => by rcases z with z | z | z | z <;> omega)]
    exact c k hk
  · rw [hO 280 k (fun z => by rcases z with z | z | z | z <;> omega)]
    exact e k hk
theorem LwF.t0 (h : LwF J N dd day X P s y) (hs : same X N) : T0 (pbN J day 6) X := by
  intro k hk
  by_cases q : 21 ≤ k ∧ k < 27
  · have := pbN_v (I := J) (day := day) 6 (k - 21) (by omega)
    rw [show 21 + (k - 21) = k by omega, h.2.2.1 (k - 21) (by omega), show 21 + (k - 21) = k by omega] at this
    exact this
  · rw [pbN_o _ _ _ (by omega), h.1 k hk q, hs k q]
theorem pb_lw : Only J (pbN J day 6) (lwP day) := fun o k q => pbN_o _ _ _ (fun z => q (Or.inl ⟨z.1, z.2.1, by omega⟩))
theorem wP_lw (h : Only J K wP) : Only J K (lwP day) := h.wk (fun o k z => Or.inl z)
theorem kw_lw : Only J (kwN J (day + 1) 6) (lwP day) := fun o k q => kwN_o _ _ _ (fun z => q (Or.inr (Or.inl ⟨z.1, z.2.1⟩)))
theorem lwP_up (h : Only J K (lwP (day + 1))) : Only J K (lwP day) := h.wk (fun o k z => by
  rcases z with z | z | z | z
  · exact Or.inl z
  · exact Or.inr (Or.inl ⟨z.1, by omega⟩)
  · exact Or.inr (Or.inr (Or.inl ⟨z.1, by omega⟩))
  · exact Or.inr (Or.inr (Or.inr z)))
end LW
def bcN (I : Pl) : Nat → Pl
  | 0 => I
  | k + 1 => upN (bcN I k) 281 k (bcN I k 280 k)
theorem bcN_o {I : Pl} : ∀ k o x, ¬ o = 281 → bcN I k o x = I o x := by
  intro k
  induction k with
  | zero => intro o x _; rfl
  | succ k ih =>
    intro o x h
    unfold bcN
    rw [upN_no h, ih o x h]
theorem bcN_v {I : Pl} : ∀ k x, x < k → bcN I k 281 x = I 280 x := by
  intro k
  induction k with
  | zero => intro x h; omega
  | succ k ih =>
    intro x h
    unfold bcN
    by_cases q : x = k
    · subst q
      rw [upN_s, bcN_o _ _ _ (by decide)]
    · rw [upN_nk q, ih x (by omega)]
set_option maxRecDepth 100000 in
theorem lm_bc {d : Nat} {J : Pl} {dd least day : Nat} {Q : Option Value → Pl → Prop} (hdd : dd ≤ 3) (g : WP (d + 5) (177, 7, (some .int), sc0) 17 [.ref 271, .int (nI dd), .int (nI least), .int (nI day), .int (nI dd)] [] (bcN J dd) Q) : ∀ k, k ≤ dd → WP (d + 5) (177, 7, (some .int), sc0) 86 [.ref 271, .int (nI dd), .int (nI least), .int (nI day), .int (nI k)] [] (bcN J k) Q := by
  refine loopUp (fun k hk ih => ?_)
  refine WP.run (pc' := if (nI dd) ≤ (nI k) then 112 else 92) (L' := [.ref 271, .int (nI dd), .int (nI least), .int (nI day), .int (nI k)]) (st' := []) (I1 := (bcN J k)) 3 rfl ?_
  refine WP.br (fun h1 => ?_) (fun h1 => ?_)
  · have h1 : dd ≤ k := nI_le_ (by omega) (by omega) h1
    refine WP.run (pc' := 17) (L' := [.ref 271, .int (nI dd), .int (nI least), .int (nI day), .int (nI k)]) (st' := []) (I1 := (bcN J k)) 1 rfl ?_
    obtain rfl : k = dd := by omega
    exact g
  · have h1 : ¬ dd ≤ k := fun q => h1 (nI_le_r (by omega) q)
    refine WP.run (pc' := 104) (L' := [.ref 271, .int (nI dd), .int (nI least), .int (nI day), .int (nI k)]) (st' := [.int (nI k), .ref 280, .int (nI k), .ref 281]) (I1 := (bcN J k)) 6 rfl ?_
    refine WP.iald rfl rfl rfl (by omega) (by decide) ?_
    refine WP.iast rfl rfl rfl (by omega) (by decide) ?_
    refine WP.run (pc' := 109) (L' := [.ref 271, .int (nI dd), .int (nI least), .int (nI day), .int ((nI k) + nI 1)]) (st' := []) (I1 := (upN (bcN J k) 281 k ((bcN J k) 280 k))) 1 rfl ?_
    refine WP.cg (L' := [.ref 271, .int (nI dd), .int (nI least), .int (nI day), .int (nI (k + 1))]) (congrArg (fun z : Int32 => ([.ref 271, .int (nI dd), .int (nI least), .int (nI day), .int z] : List Value)) (nI_add k 1)) rfl rfl ?_
    refine WP.run (pc' := 86) (L' := [.ref 271, .int (nI dd), .int (nI least), .int (nI day), .int (nI (k + 1))]) (st' := []) (I1 := (upN (bcN J k) 281 k ((bcN J k) 280 k))) 1 rfl ?_
    refine WP.cg (L' := [.ref 271, .int (nI dd), .int (nI least), .int (nI day), .int (nI (k + 1))]) rfl rfl rfl (ih (by omega))
set_option maxRecDepth 100000 in
theorem lw_l0 {d dd : Nat} {N : Nat → Nat} {Q : Option Value → Pl → Prop} (hN : TI N) (hd3 : dd ≤ 3) {J : Pl} {X P : Nat → Nat} {x : Bst} {day : Nat} (hjd : day + (0 + 1) = dd) (hX : TI X) (hs : same X N) (hle : ∀ k, k < 6 → N (21 + k) ≤ X (21 + k)) (g : (∀ J' y4, Only J J' (lwP day) → ((srch (sumW N) (0 + 1) day X P x).1 < 1000000 → ∀ k, k < dd → J' 281 k = nI ((srch (sumW N) (0 + 1) day X P x).2 k)) → WP (d + 5) (177, 7, (some .int), sc0) 17 ([.ref 271, .int (nI dd), .int (nI (lwL (srch (sumW N) (0 + 1) day X P x).1)), .int (nI day + -1), y4]) [] J' Q)) : ∀ s, s ≤ 2 ^ N 2 → ∀ J1 y4, (foldN (stpS (sumW N) 0 day X P) s x).1 ≤ 1000000 → LwF J1 N dd day X P s (foldN (stpS (sumW N) 0 day X P) s x) → Only J J1 (lwP day) → WP (d + 5) (177, 7, (some .int), sc0) 17 ([.ref 271, .int (nI dd), .int (nI (lwL (foldN (stpS (sumW N) 0 day X P) s x).1)), .int (nI day), y4]) [] J1 Q := by
  refine loopUp (fun s hs9 ih => ?_)
  intro J1 y4 hy hF hO
  obtain ⟨b0, b1, b2, b3, b4, b5, b6, b7, b8, bS, bC, bS1, bC1, bZ, bG⟩ := id hX
  obtain ⟨s6, s7, s64⟩ := hX.set64
  have eX : 2 ^ X 2 = 2 ^ N 2 := by rw [hs 2 (by omega)]
  generalize hys : (foldN (stpS (sumW N) 0 day X P) s x) = y at *
  have hnx : (foldN (stpS (sumW N) 0 day X P) (s + 1) x) = stpS (sumW N) 0 day X P s y := by
    show stpS (sumW N) 0 day X P s _ = _
    rw [hys]
  have hlb := lwL_b hy
  have hM0 := hF.t0 hs
  have hM : T0 (upN (pbN J1 day 6) 280 day (nI s)) X := hM0.out (Or.inl (by decide))
  have hOa : Only J1 (upN (pbN J1 day 6) 280 day (nI s)) (lwP day) := (pb_lw).up (Or.inr (Or.inr (Or.inl ⟨rfl, Nat.le_refl _⟩)))
  refine WP.run (pc' := if (nI day) < 0 then 133 else 21) (L' := [.ref 271, .int (nI dd), .int (nI (lwL y.1)), .int (nI day), y4]) (st' := []) (I1 := J1) 2 rfl ?_
  refine WP.brF (nI_pos (by omega)) ?_
  refine WP.run (pc' := 23) (L' := [.ref 271, .int (nI dd), .int (nI (lwL y.1)), .int (nI day), y4]) (st' := [.int (nI day), .ref 271]) (I1 := J1) 2 rfl ?_
  refine WP.callV (rest := []) rfl rfl (ms_puts (d := d + 4) (I := J1) (day := day) (by omega)) ?_
  refine WP.run (pc' := 32) (L' := [.ref 271, .int (nI dd), .int (nI (lwL y.1)), .int (nI day), y4]) (st' := [.int (nI day), .ref 280, .int (nI day), .ref 280]) (I1 := (pbN J1 day 6)) 4 rfl ?_
  refine WP.iald rfl rfl rfl (by omega) (by decide) ?_
  refine WP.cg (st' := [.int ((nI s) - (nI 1)), .int (nI day), .ref 280]) rfl (congrArg (fun z : Int32 => (.int z :: [.int (nI day), .ref 280] : List Value)) ((pbN_o _ _ _ (by omega)).trans hF.2.2.2.2.1)) rfl ?_
  refine WP.run (pc' := 35) (L' := [.ref 271, .int (nI dd), .int (nI (lwL y.1)), .int (nI day), y4]) (st' := [.int (((nI s) - (nI 1)) + (nI 1)), .int (nI day), .ref 280]) (I1 := (pbN J1 day 6)) 2 rfl ?_
  refine WP.cg (st' := [.int (nI s), .int (nI day), .ref 280]) rfl (congrArg (fun z : Int32 => (.int z :: [.int (nI day), .ref 280] : List Value)) (sm1)) rfl ?_
  refine WP.iast rfl rfl rfl (by omega) (by decide) ?_
  refine WP.run (pc' := 42) (L' := [.ref 271, .int (nI dd), .int (nI (lwL y.1)), .int (nI day), y4]) (st' := [.int (nI day), .ref 280, .ref 271]) (I1 := (upN (pbN J1 day 6) 280 day (nI s))) 4 rfl ?_
  refine WP.iald rfl rfl rfl (by omega) (by decide) ?_
  refine WP.cg (st' := [.int (nI s), .ref 271]) rfl (congrArg (fun z : Int32 => (.int z :: [.ref 271] : List Value)) (upN_s)) rfl ?_
  refine WP.callB (rest := []) rfl rfl (ms_isSet (d := d + 3) (x := nI s) hM hX) (fun h1 => ?_) (fun h1 => ?_)
  · have hs64 : s < 64 := by
      have hA9 := (inA_nI (n := 2 ^ X 2) (j := s) (by omega)).mp h1
      omega
    refine WP.run (pc' := 57) (L' := [.ref 271, .int (nI dd), .int (nI (lwL y.1)), .int (nI day), y4]) (st' := [.int (nI day), .ref 271]) (I1 := (upN (pbN J1 day 6) 280 day (nI s))) 3 rfl ?_
    refine WP.callX (rest := []) rfl rfl (ms_goesDay (d := d) (I := (upN (pbN J1 day 6) 280 day (nI s))) (day := day) (m := s) hM hX (by omega) (by omega) upN_s) (fun v J2 hv => ?_)
    obtain ⟨rfl, hv2, hO2⟩ := hv
    have hOb : Only J1 J2 (lwP day) := hOa.tr (wP_lw hO2)
    have h280 : J2 280 day = nI s := (hO2 280 day (fun z => by have z2 := z.1; omega)).trans upN_s
    by_cases hok : (gd X day s).2 = true
    · refine WP.cg (st' := [.int (nI 1)]) rfl (by rw [b2iT hok]; rfl) rfl ?_
      refine WP.run (pc' := 63) (L' := [.ref 271, .int (nI dd), .int (nI (lwL y.1)), .int (nI day), y4]) (st' := []) (I1 := J2) 1 rfl ?_
      obtain ⟨i1, i2, i3⟩ := gd_I (day := day) (m := s) hX (by omega)
      have hM2 := hv2 hok
      have hle2 : ∀ k, k < 6 → N (21 + k) ≤ (gd X day s).1 (21 + k) := fun k hk => Nat.le_trans (hle k hk) (i3 k hk)
      have hA : ∀ k, k < 6 → J2 279 k = nI (N (21 + k)) := fun k hk => by
        rw [hOb 279 k (fun z => by rcases z with z | z | z | z <;> omega)]
        exact hF.2.1 k hk
      have hsw := sumW_le i1
      refine WP.run (pc' := 64) (L' := [.ref 271, .int (nI dd), .int (nI (lwL y.1)), .int (nI day), y4]) (st' := [.ref 271]) (I1 := J2) 1 rfl ?_
      refine WP.callV (rest := []) rfl rfl (ms_wornMore (d := d + 4) (N := N) (X := (gd X day s).1) hM2 i1 hle2 hA) ?_
      refine WP.run (pc' := if (nI (lwL y.1)) ≤ (nI (sumW (gd X day s).1 - sumW N)) then 17 else 71) (L' := [.ref 271, .int (nI dd), .int (nI (lwL y.1)), .int (nI day), y4]) (st' := []) (I1 := J2) 2 rfl ?_
      refine WP.br (fun h2 => ?_) (fun h2 => ?_)
      · have h2 : lwL y.1 ≤ sumW (gd X day s).1 - sumW N := nI_le_ (by omega) (by omega) h2
        have hsl : s < 2 ^ N 2 := by
          have hA9 := (inA_nI (n := 2 ^ X 2) (j := s) (by omega)).mp (by assumption)
          omega
        have hst : (foldN (stpS (sumW N) 0 day X P) (s + 1) x) = y := by
          rw [hnx]
          rw [stpS_e, hok]
          have hbf : Nat.blt (sumW (gd X day s).1 - sumW N) y.1 = false := by
            rw [← Bool.not_eq_true, Nat.blt_eq]
            have := (lwL_le (l := y.1) (w := sumW (gd X day s).1 - sumW N) (by omega) hy).mp (by assumption)
            omega
          rw [hbf]
          rfl
        rw [hst] at ih
        exact ih hsl J2 _ hy (hF.nx hOb (by rw [h280, ← sm1 (a := s), ← nI_add]; exact (Int32.add_sub_cancel _ _).symm.trans (by rw [sm1])) (fun q k hk => by
          rw [hO2 281 k (fun z => by have z2 := z.1; omega), upN_no (by decide), pbN_o _ _ _ (by omega)]
          exact hF.2.2.2.2.2 q k hk)) (hO.tr hOb)
      · have h2 : ¬ lwL y.1 ≤ sumW (gd X day s).1 - sumW N := fun q => h2 (nI_le_r (by omega) q)
        have hbl : sumW (gd X day s).1 - sumW N < y.1 := by
          have hnl : ¬ y.1 ≤ sumW (gd X day s).1 - sumW N := fun q => absurd ((lwL_le (l := y.1) (w := sumW (gd X day s).1 - sumW N) (by omega) hy).mpr q) (by assumption)
          omega
        have hst := hnx
        rw [stp_go hok hbl] at hst
        have hsl : s < 2 ^ N 2 := by
          have hA9 := (inA_nI (n := 2 ^ X 2) (j := s) (by omega)).mp (by assumption)
          omega
        refine WP.run (pc' := 75) (L' := [.ref 271, .int (nI dd), .int (nI (lwL y.1)), .int (nI day), y4]) (st' := [.int ((nI dd) - (nI 1)), .int (nI day)]) (I1 := J2) 4 rfl ?_
        refine WP.cg (st' := [.int (nI (dd - 1)), .int (nI day)]) rfl (congrArg (fun z : Int32 => (.int z :: [.int (nI day)] : List Value)) (pk_sub (a := dd) (b := 1) (by omega))) rfl ?_
        refine WP.run (pc' := if ¬ (nI day) = (nI (dd - 1)) then 115 else 78) (L' := [.ref 271, .int (nI dd), .int (nI (lwL y.1)), .int (nI day), y4]) (st' := []) (I1 := J2) 1 rfl ?_
        refine WP.brF (fun q => q (nI_eq_r (by omega))) ?_
        refine WP.run (pc' := 79) (L' := [.ref 271, .int (nI dd), .int (nI (lwL y.1)), .int (nI day), y4]) (st' := [.ref 271]) (I1 := J2) 1 rfl ?_
        refine WP.callV (rest := []) rfl rfl (ms_wornMore (d := d + 4) (N := N) (X := (gd X day s).1) hM2 i1 hle2 hA) ?_
        refine WP.run (pc' := 86) (L' := [.ref 271, .int (nI dd), .int (nI (sumW (gd X day s).1 - sumW N)), .int (nI day), .int (nI 0)]) (st' := []) (I1 := J2) 3 rfl ?_
        have hst2 : (foldN (stpS (sumW N) 0 day X P) (s + 1) x) = (sumW (gd X day s).1 - sumW N, updF P day s) := hst
        rw [hst2] at ih
        refine lm_bc hd3 ?_ 0 (Nat.zero_le _)
        have hOc : Only J2 (bcN J2 dd) (lwP day) := fun o k q => bcN_o _ _ _ (fun z => q (Or.inr (Or.inr (Or.inr z))))
        refine WP.cg (L' := [.ref 271, .int (nI dd), .int (nI (lwL (sumW (gd X day s).1 - sumW N))), .int (nI day), .int (nI dd)]) (by rw [show lwL (sumW (gd X day s).1 - sumW N) = sumW (gd X day s).1 - sumW N from if_neg (by omega)]) rfl rfl ?_
        refine ih hsl _ _ (by show sumW (gd X day s).1 - sumW N ≤ 1000000; omega) (hF.nx (hOb.tr hOc) (by rw [bcN_o _ _ _ (by decide), h280, ← nI_add]; exact (Int32.add_sub_cancel _ _).symm) (fun _ k hk => ?_)) (hO.tr (hOb.tr hOc))
        rw [bcN_v dd k hk]
        show _ = nI (updF P day s k)
        by_cases q : k = day
        · rw [q, updF_s, h280]
        · rw [updF_o q, hOb 280 k (fun z => by rcases z with z | z | z | z <;> omega)]
          exact hF.2.2.2.1 k (by omega)
    · refine WP.cg (st' := [.int (nI 0)]) rfl (by rw [b2iF hok]; rfl) rfl ?_
      refine WP.run (pc' := 17) (L' := [.ref 271, .int (nI dd), .int (nI (lwL y.1)), .int (nI day), y4]) (st' := []) (I1 := J2) 1 rfl ?_
      have hsl : s < 2 ^ N 2 := by
        have hA9 := (inA_nI (n := 2 ^ X 2) (j := s) (by omega)).mp (by assumption)
        omega
      have hst : (foldN (stpS (sumW N) 0 day X P) (s + 1) x) = y := by
        rw [hnx]
        exact stp_no hok
      rw [hst] at ih
      exact ih hsl J2 _ hy (hF.nx hOb (by rw [h280, ← sm1 (a := s), ← nI_add]; exact (Int32.add_sub_cancel _ _).symm.trans (by rw [sm1])) (fun q k hk => by
        rw [hO2 281 k (fun z => by have z2 := z.1; omega), upN_no (by decide), pbN_o _ _ _ (by omega)]
        exact hF.2.2.2.2.2 q k hk)) (hO.tr hOb)
  · refine WP.run (pc' := 17) (L' := [.ref 271, .int (nI dd), .int (nI (lwL y.1)), .int ((nI day) + -1), y4]) (st' := []) (I1 := (upN (pbN J1 day 6) 280 day (nI s))) 3 rfl ?_
    have hse : s = 2 ^ N 2 := by
      have hnA : ¬ s < 2 ^ X 2 := fun q => absurd ((inA_nI (by omega)).mpr q) (by assumption)
      omega
    have hR : (srch (sumW N) (0 + 1) day X P x) = y := by
      rw [srch_e, eX, ← hse, hys]
    rw [hR] at g
    exact g _ _ (hO.tr hOa) (fun q k hk => by
      rw [upN_no (by decide), pbN_o _ _ _ (by omega)]
      exact hF.2.2.2.2.2 q k hk)
set_option maxRecDepth 100000 in
theorem lw_l1 {d dd : Nat} {j : Nat} {N : Nat → Nat} {Q : Option Value → Pl → Prop} (hN : TI N) (hd3 : dd ≤ 3) (ihj : ∀ (J : Pl) (X P : Nat → Nat) (x : Bst) (day : Nat), day + (j + 1) = dd → TI X → same X N → (∀ k, k < 6 → N (21 + k) ≤ X (21 + k)) → x.1 ≤ 1000000 → (∀ J' y4, Only J J' (lwP day) → ((srch (sumW N) (j + 1) day X P x).1 < 1000000 → ∀ k, k < dd → J' 281 k = nI ((srch (sumW N) (j + 1) day X P x).2 k)) → WP (d + 5) (177, 7, (some .int), sc0) 17 ([.ref 271, .int (nI dd), .int (nI (lwL (srch (sumW N) (j + 1) day X P x).1)), .int (nI day + -1), y4]) [] J' Q) → ∀ y4, LwF J N dd day X P 0 x → WP (d + 5) (177, 7, (some .int), sc0) 17 ([.ref 271, .int (nI dd), .int (nI (lwL x.1)), .int (nI day), y4]) [] J Q) {J : Pl} {X P : Nat → Nat} {x : Bst} {day : Nat} (hjd : day + ((j + 1) + 1) = dd) (hX : TI X) (hs : same X N) (hle : ∀ k, k < 6 → N (21 + k) ≤ X (21 + k)) (g : (∀ J' y4, Only J J' (lwP day) → ((srch (sumW N) ((j + 1) + 1) day X P x).1 < 1000000 → ∀ k, k < dd → J' 281 k = nI ((srch (sumW N) ((j + 1) + 1) day X P x).2 k)) → WP (d + 5) (177, 7, (some .int), sc0) 17 ([.ref 271, .int (nI dd), .int (nI (lwL (srch (sumW N) ((j + 1) + 1) day X P x).1)), .int (nI day + -1), y4]) [] J' Q)) : ∀ s, s ≤ 2 ^ N 2 → ∀ J1 y4, (foldN (stpS (sumW N) (j + 1) day X P) s x).1 ≤ 1000000 → LwF J1 N dd day X P s (foldN (stpS (sumW N) (j + 1) day X P) s x) → Only J J1 (lwP day) → WP (d + 5) (177, 7, (some .int), sc0) 17 ([.ref 271, .int (nI dd), .int (nI (lwL (foldN (stpS (sumW N) (j + 1) day X P) s x).1)), .int (nI day), y4]) [] J1 Q := by
  refine loopUp (fun s hs9 ih => ?_)
  intro J1 y4 hy hF hO
  obtain ⟨b0, b1, b2, b3, b4, b5, b6, b7, b8, bS, bC, bS1, bC1, bZ, bG⟩ := id hX
  obtain ⟨s6, s7, s64⟩ := hX.set64
  have eX : 2 ^ X 2 = 2 ^ N 2 := by rw [hs 2 (by omega)]
  generalize hys : (foldN (stpS (sumW N) (j + 1) day X P) s x) = y at *
  have hnx : (foldN (stpS (sumW N) (j + 1) day X P) (s + 1) x) = stpS (sumW N) (j + 1) day X P s y := by
    show stpS (sumW N) (j + 1) day X P s _ = _
    rw [hys]
  have hlb := lwL_b hy
  have hM0 := hF.t0 hs
  have hM : T0 (upN (pbN J1 day 6) 280 day (nI s)) X := hM0.out (Or.inl (by decide))
  have hOa : Only J1 (upN (pbN J1 day 6) 280 day (nI s)) (lwP day) := (pb_lw).up (Or.inr (Or.inr (Or.inl ⟨rfl, Nat.le_refl _⟩)))
  refine WP.run (pc' := if (nI day) < 0 then 133 else 21) (L' := [.ref 271, .int (nI dd), .int (nI (lwL y.1)), .int (nI day), y4]) (st' := []) (I1 := J1) 2 rfl ?_
  refine WP.brF (nI_pos (by omega)) ?_
  refine WP.run (pc' := 23) (L' := [.ref 271, .int (nI dd), .int (nI (lwL y.1)), .int (nI day), y4]) (st' := [.int (nI day), .ref 271]) (I1 := J1) 2 rfl ?_
  refine WP.callV (rest := []) rfl rfl (ms_puts (d := d + 4) (I := J1) (day := day) (by omega)) ?_
  refine WP.run (pc' := 32) (L' := [.ref 271, .int (nI dd), .int (nI (lwL y.1)), .int (nI day), y4]) (st' := [.int (nI day), .ref 280, .int (nI day), .ref 280]) (I1 := (pbN J1 day 6)) 4 rfl ?_
  refine WP.iald rfl rfl rfl (by omega) (by decide) ?_
  refine WP.cg (st' := [.int ((nI s) - (nI 1)), .int (nI day), .ref 280]) rfl (congrArg (fun z : Int32 => (.int z :: [.int (nI day), .ref 280] : List Value)) ((pbN_o _ _ _ (by omega)).trans hF.2.2.2.2.1)) rfl ?_
  refine WP.run (pc' := 35) (L' := [.ref 271, .int (nI dd), .int (nI (lwL y.1)), .int (nI day), y4]) (st' := [.int (((nI s) - (nI 1)) + (nI 1)), .int (nI day), .ref 280]) (I1 := (pbN J1 day 6)) 2 rfl ?_
  refine WP.cg (st' := [.int (nI s), .int (nI day), .ref 280]) rfl (congrArg (fun z : Int32 => (.int z :: [.int (nI day), .ref 280] : List Value)) (sm1)) rfl ?_
  refine WP.iast rfl rfl rfl (by omega) (by decide) ?_
  refine WP.run (pc' := 42) (L' := [.ref 271, .int (nI dd), .int (nI (lwL y.1)), .int (nI day), y4]) (st' := [.int (nI day), .ref 280, .ref 271]) (I1 := (upN (pbN J1 day 6) 280 day (nI s))) 4 rfl ?_
  refine WP.iald rfl rfl rfl (by omega) (by decide) ?_
  refine WP.cg (st' := [.int (nI s), .ref 271]) rfl (congrArg (fun z : Int32 => (.int z :: [.ref 271] : List Value)) (upN_s)) rfl ?_
  refine WP.callB (rest := []) rfl rfl (ms_isSet (d := d + 3) (x := nI s) hM hX) (fun h1 => ?_) (fun h1 => ?_)
  · have hs64 : s < 64 := by
      have hA9 := (inA_nI (n := 2 ^ X 2) (j := s) (by omega)).mp h1
      omega
    refine WP.run (pc' := 57) (L' := [.ref 271, .int (nI dd), .int (nI (lwL y.1)), .int (nI day), y4]) (st' := [.int (nI day), .ref 271]) (I1 := (upN (pbN J1 day 6) 280 day (nI s))) 3 rfl ?_
    refine WP.callX (rest := []) rfl rfl (ms_goesDay (d := d) (I := (upN (pbN J1 day 6) 280 day (nI s))) (day := day) (m := s) hM hX (by omega) (by omega) upN_s) (fun v J2 hv => ?_)
    obtain ⟨rfl, hv2, hO2⟩ := hv
    have hOb : Only J1 J2 (lwP day) := hOa.tr (wP_lw hO2)
    have h280 : J2 280 day = nI s := (hO2 280 day (fun z => by have z2 := z.1; omega)).trans upN_s
    by_cases hok : (gd X day s).2 = true
    · refine WP.cg (st' := [.int (nI 1)]) rfl (by rw [b2iT hok]; rfl) rfl ?_
      refine WP.run (pc' := 63) (L' := [.ref 271, .int (nI dd), .int (nI (lwL y.1)), .int (nI day), y4]) (st' := []) (I1 := J2) 1 rfl ?_
      obtain ⟨i1, i2, i3⟩ := gd_I (day := day) (m := s) hX (by omega)
      have hM2 := hv2 hok
      have hle2 : ∀ k, k < 6 → N (21 + k) ≤ (gd X day s).1 (21 + k) := fun k hk => Nat.le_trans (hle k hk) (i3 k hk)
      have hA : ∀ k, k < 6 → J2 279 k = nI (N (21 + k)) := fun k hk => by
        rw [hOb 279 k (fun z => by rcases z with z | z | z | z <;> omega)]
        exact hF.2.1 k hk
      have hsw := sumW_le i1
      refine WP.run (pc' := 64) (L' := [.ref 271, .int (nI dd), .int (nI (lwL y.1)), .int (nI day), y4]) (st' := [.ref 271]) (I1 := J2) 1 rfl ?_
      refine WP.callV (rest := []) rfl rfl (ms_wornMore (d := d + 4) (N := N) (X := (gd X day s).1) hM2 i1 hle2 hA) ?_
      refine WP.run (pc' := if (nI (lwL y.1)) ≤ (nI (sumW (gd X day s).1 - sumW N)) then 17 else 71) (L' := [.ref 271, .int (nI dd), .int (nI (lwL y.1)), .int (nI day), y4]) (st' := []) (I1 := J2) 2 rfl ?_
      refine WP.br (fun h2 => ?_) (fun h2 => ?_)
      · have h2 : lwL y.1 ≤ sumW (gd X day s).1 - sumW N := nI_le_ (by omega) (by omega) h2
        have hsl : s < 2 ^ N 2 := by
          have hA9 := (inA_nI (n := 2 ^ X 2) (j := s) (by omega)).mp (by assumption)
          omega
        have hst : (foldN (stpS (sumW N) (j + 1) day X P) (s + 1) x) = y := by
          rw [hnx]
          rw [stpS_e, hok]
          have hbf : Nat.blt (sumW (gd X day s).1 - sumW N) y.1 = false := by
            rw [← Bool.not_eq_true, Nat.blt_eq]
            have := (lwL_le (l := y.1) (w := sumW (gd X day s).1 - sumW N) (by omega) hy).mp (by assumption)
            omega
          rw [hbf]
          rfl
        rw [hst] at ih
        exact ih hsl J2 _ hy (hF.nx hOb (by rw [h280, ← sm1 (a := s), ← nI_add]; exact (Int32.add_sub_cancel _ _).symm.trans (by rw [sm1])) (fun q k hk => by
          rw [hO2 281 k (fun z => by have z2 := z.1; omega), upN_no (by decide), pbN_o _ _ _ (by omega)]
          exact hF.2.2.2.2.2 q k hk)) (hO.tr hOb)
      · have h2 : ¬ lwL y.1 ≤ sumW (gd X day s).1 - sumW N := fun q => h2 (nI_le_r (by omega) q)
        have hbl : sumW (gd X day s).1 - sumW N < y.1 := by
          have hnl : ¬ y.1 ≤ sumW (gd X day s).1 - sumW N := fun q => absurd ((lwL_le (l := y.1) (w := sumW (gd X day s).1 - sumW N) (by omega) hy).mpr q) (by assumption)
          omega
        have hst := hnx
        rw [stp_go hok hbl] at hst
        have hsl : s < 2 ^ N 2 := by
          have hA9 := (inA_nI (n := 2 ^ X 2) (j := s) (by omega)).mp (by assumption)
          omega
        refine WP.run (pc' := 75) (L' := [.ref 271, .int (nI dd), .int (nI (lwL y.1)), .int (nI day), y4]) (st' := [.int ((nI dd) - (nI 1)), .int (nI day)]) (I1 := J2) 4 rfl ?_
        refine WP.cg (st' := [.int (nI (dd - 1)), .int (nI day)]) rfl (congrArg (fun z : Int32 => (.int z :: [.int (nI day)] : List Value)) (pk_sub (a := dd) (b := 1) (by omega))) rfl ?_
        refine WP.run (pc' := if ¬ (nI day) = (nI (dd - 1)) then 115 else 78) (L' := [.ref 271, .int (nI dd), .int (nI (lwL y.1)), .int (nI day), y4]) (st' := []) (I1 := J2) 1 rfl ?_
        refine WP.brT (fun q => absurd (nI_eq_ (by omega) (by omega) q) (by omega)) ?_
        refine WP.run (pc' := 118) (L' := [.ref 271, .int (nI dd), .int (nI (lwL y.1)), .int ((nI day) + nI 1), y4]) (st' := []) (I1 := J2) 1 rfl ?_
        refine WP.cg (L' := [.ref 271, .int (nI dd), .int (nI (lwL y.1)), .int (nI (day + 1)), y4]) (congrArg (fun z : Int32 => ([.ref 271, .int (nI dd), .int (nI (lwL y.1)), .int z, y4] : List Value)) (nI_add day 1)) rfl rfl ?_
        refine WP.run (pc' := 120) (L' := [.ref 271, .int (nI dd), .int (nI (lwL y.1)), .int (nI (day + 1)), y4]) (st' := [.int (nI (day + 1)), .ref 271]) (I1 := J2) 2 rfl ?_
        refine WP.callV (rest := []) rfl rfl (ms_keeps (d := d + 4) (I := J2) (day := day + 1) (by omega)) ?_
        refine WP.run (pc' := 129) (L' := [.ref 271, .int (nI dd), .int (nI (lwL y.1)), .int (nI (day + 1)), y4]) (st' := [.int (-1), .int (nI (day + 1)), .ref 280]) (I1 := (kwN J2 (day + 1) 6)) 4 rfl ?_
        refine WP.iast rfl rfl rfl (by omega) (by decide) ?_
        refine WP.run (pc' := 17) (L' := [.ref 271, .int (nI dd), .int (nI (lwL y.1)), .int (nI (day + 1)), y4]) (st' := []) (I1 := (upN (kwN J2 (day + 1) 6) 280 (day + 1) (-1))) 1 rfl ?_
        have hOk : Only J2 (upN (kwN J2 (day + 1) 6) 280 (day + 1) (-1)) (lwP day) := (kw_lw).up (Or.inr (Or.inr (Or.inl ⟨rfl, by omega⟩)))
        refine ihj _ (gd X day s).1 (updF P day s) y (day + 1) (by omega) i1 (i2.tr hs) hle2 hy (fun K z4 hOK hbK => ?_) _ ⟨fun k hk q => ?_, fun k hk => ?_, fun k hk => ?_, fun k hk => ?_, ?_, fun q k hk => ?_⟩
        · have hb := srch_lt (s0 := sumW N) (B := 1000000) (j + 1) (day + 1) (gd X day s).1 (updF P day s) y i1 ⟨hy, by decide⟩
          rw [← hst] at hbK hb ⊢
          refine WP.cg (L' := [.ref 271, .int (nI dd), .int (nI (lwL (foldN (stpS (sumW N) (j + 1) day X P) (s + 1) x).1)), .int (nI day), z4]) (by rw [pm1]) rfl rfl ?_
          have hOall := hOb.tr (hOk.tr (lwP_up hOK))
          refine ih hsl K _ hb (hF.nx hOall ?_ hbK) (hO.tr hOall)
          rw [hOK 280 day (fun z => by rcases z with z | z | z | z <;> omega), upN_nk (by omega), kwN_o _ _ _ (by omega), h280, ← nI_add]
          exact (Int32.add_sub_cancel _ _).symm
        · rw [upN_no (by decide), kwN_o _ _ _ (by omega)]
          rw [hOb 272 k (fun z => by rcases z with z | z | z | z <;> omega)]
          exact hF.1 k hk q
        · rw [upN_no (by decide), kwN_o _ _ _ (by omega)]
          exact hA k hk
        · rw [upN_no (by decide), kwN_v 6 k hk]
          exact hM2 (21 + k) (by omega)
        · rw [upN_nk (by omega), kwN_o _ _ _ (by omega)]
          by_cases q : k = day
          · rw [q, updF_s, h280]
          · rw [updF_o q, hOb 280 k (fun z => by rcases z with z | z | z | z <;> omega)]
            exact hF.2.2.2.1 k (by omega)
        · rw [upN_s]
          rfl
        · rw [upN_no (by decide), kwN_o _ _ _ (by omega), hO2 281 k (fun z => by have z2 := z.1; omega), upN_no (by decide), pbN_o _ _ _ (by omega)]
          exact hF.2.2.2.2.2 q k hk
    · refine WP.cg (st' := [.int (nI 0)]) rfl (by rw [b2iF hok]; rfl) rfl ?_
      refine WP.run (pc' := 17) (L' := [.ref 271, .int (nI dd), .int (nI (lwL y.1)), .int (nI day), y4]) (st' := []) (I1 := J2) 1 rfl ?_
      have hsl : s < 2 ^ N 2 := by
        have hA9 := (inA_nI (n := 2 ^ X 2) (j := s) (by omega)).mp (by assumption)
        omega
      have hst : (foldN (stpS (sumW N) (j + 1) day X P) (s + 1) x) = y := by
        rw [hnx]
        exact stp_no hok
      rw [hst] at ih
      exact ih hsl J2 _ hy (hF.nx hOb (by rw [h280, ← sm1 (a := s), ← nI_add]; exact (Int32.add_sub_cancel _ _).symm.trans (by rw [sm1])) (fun q k hk => by
        rw [hO2 281 k (fun z => by have z2 := z.1; omega), upN_no (by decide), pbN_o _ _ _ (by omega)]
        exact hF.2.2.2.2.2 q k hk)) (hO.tr hOb)
  · refine WP.run (pc' := 17) (L' := [.ref 271, .int (nI dd), .int (nI (lwL y.1)), .int ((nI day) + -1), y4]) (st' := []) (I1 := (upN (pbN J1 day 6) 280 day (nI s))) 3 rfl ?_
    have hse : s = 2 ^ N 2 := by
      have hnA : ¬ s < 2 ^ X 2 := fun q => absurd ((inA_nI (by omega)).mpr q) (by assumption)
      omega
    have hR : (srch (sumW N) ((j + 1) + 1) day X P x) = y := by
      rw [srch_e, eX, ← hse, hys]
    rw [hR] at g
    exact g _ _ (hO.tr hOa) (fun q k hk => by
      rw [upN_no (by decide), pbN_o _ _ _ (by omega)]
      exact hF.2.2.2.2.2 q k hk)
theorem lw_all {d dd : Nat} {N : Nat → Nat} {Q : Option Value → Pl → Prop} (hN : TI N) (hd3 : dd ≤ 3) : ∀ (j : Nat) (J : Pl) (X P : Nat → Nat) (x : Bst) (day : Nat), day + (j + 1) = dd → TI X → same X N → (∀ k, k < 6 → N (21 + k) ≤ X (21 + k)) → x.1 ≤ 1000000 → (∀ J' y4, Only J J' (lwP day) → ((srch (sumW N) (j + 1) day X P x).1 < 1000000 → ∀ k, k < dd → J' 281 k = nI ((srch (sumW N) (j + 1) day X P x).2 k)) → WP (d + 5) (177, 7, (some .int), sc0) 17 ([.ref 271, .int (nI dd), .int (nI (lwL (srch (sumW N) (j + 1) day X P x).1)), .int (nI day + -1), y4]) [] J' Q) → ∀ y4, LwF J N dd day X P 0 x → WP (d + 5) (177, 7, (some .int), sc0) 17 ([.ref 271, .int (nI dd), .int (nI (lwL x.1)), .int (nI day), y4]) [] J Q := by
  intro j
  induction j with
  | zero =>
    intro J X P x day hjd hX hs hle hx g y4 hF
    exact lw_l0 hN hd3 hjd hX hs hle g 0 (Nat.zero_le _) J y4 hx hF Only.rfl_
  | succ j ih =>
    intro J X P x day hjd hX hs hle hx g y4 hF
    exact lw_l1 hN hd3 ih hjd hX hs hle g 0 (Nat.zero_le _) J y4 hx hF Only.rfl_
def lwV (l : Nat) : Int32 := if l = 1000000 then -1000000 else nI l
def mpP (o k : Nat) : Prop := (o = 272 ∧ 21 ≤ k ∧ k < 27) ∨ o = 279 ∨ o = 280 ∨ o = 281
theorem lw_mp {J K : Pl} {day : Nat} (h : Only J K (lwP day)) : Only J K mpP := h.wk (fun o k z => by
  unfold lwP at z
  unfold mpP
  omega)
theorem pb_mp {J : Pl} : Only J (pbN J 0 6) mpP := fun o k q => pbN_o _ _ _ (fun z => q (Or.inl ⟨z.1, z.2.1, by omega⟩))
theorem lwV_1 {l : Nat} (h : ¬ lwL l = 1000000000) : nI (lwL l) = lwV l := by
  unfold lwL at *
  unfold lwV
  by_cases q : l = 1000000
  · rw [if_pos q] at h
    exact absurd rfl h
  · rw [if_neg q, if_neg q]
theorem lwV_2 {l : Nat} (hl : l ≤ 1000000) (h : lwL l = 1000000000) : (-1000000 : Int32) = lwV l := by
  unfold lwL at h
  unfold lwV
  by_cases q : l = 1000000
  · rw [if_pos q]
  · rw [if_neg q] at h
    omega
set_option maxRecDepth 100000 in
theorem ms_leastWorn {d : Nat} {I : Pl} {N : Nat → Nat} {dd : Nat} (hM : T0 I N) (hN : TI N) (hd1 : 1 ≤ dd) (hd3 : dd ≤ 3) : EvX (d + 6) 177 [.ref 271, .int (nI dd)] I (fun v K => v = some (.int (lwV (planN N dd).1)) ∧ T0 K N ∧ ((planN N dd).1 < 1000000 → ∀ k, k < dd → K 281 k = nI ((planN N dd).2 k)) ∧ Only I K mpP) := by
  refine EvX.enter rfl rfl rfl ?_
  refine WP.run (pc' := 11) (L' := [.ref 271, .int (nI dd), .int (nI 1000000000), .int (nI 0), UU]) (st' := [.int (-1), .int (nI 0), .ref 280]) (I1 := I) 8 rfl ?_
  refine WP.iast rfl rfl rfl (by omega) (by decide) ?_
  refine WP.run (pc' := 14) (L' := [.ref 271, .int (nI dd), .int (nI 1000000000), .int (nI 0), UU]) (st' := [.int (nI 0), .ref 271]) (I1 := (upN I 280 0 (-1))) 2 rfl ?_
  refine WP.callV (rest := []) rfl rfl (ms_keeps (d := d + 4) (I := (upN I 280 0 (-1))) (day := 0) (by omega)) ?_
  refine WP.cg (L' := [.ref 271, .int (nI dd), .int (nI (lwL 1000000)), .int (nI 0), UU]) rfl rfl rfl ?_
  have hOs : Only I (kwN (upN I 280 0 (-1)) 0 6) mpP := fun o k q => by
    have q1 : ¬ o = 279 := fun z => q (Or.inr (Or.inl z))
    have q2 : ¬ o = 280 := fun z => q (Or.inr (Or.inr (Or.inl z)))
    rw [kwN_o _ _ _ (by omega), upN_no q2]
  have hM1 : T0 (upN I 280 0 (-1)) N := hM.out (Or.inl (by decide))
  refine lw_all hN hd3 (dd - 1) _ N Z0 (1000000, Z0) 0 (by omega) hN same.rfl_ (fun k hk => Nat.le_refl _) (Nat.le_refl _) (fun K y4 hOK hbK => ?_) _ ⟨fun k hk q => ?_, fun k hk => ?_, fun k hk => ?_, fun k hk => absurd hk (Nat.not_lt_zero _), ?_, fun q => absurd q (by show ¬ 1000000 < 1000000; omega)⟩
  · rw [show dd - 1 + 1 = dd by omega] at hbK ⊢
    have hpl := planN_le (d := dd) hN
    have hpe : srch (sumW N) dd 0 N Z0 (1000000, Z0) = planN N dd := rfl
    rw [hpe] at hbK ⊢
    generalize planN N dd = r at hbK hpl ⊢
    have hlb := lwL_b hpl
    refine WP.cg (L' := [.ref 271, .int (nI dd), .int (nI (lwL r.1)), .int (-1), y4]) rfl rfl rfl ?_
    refine WP.run (pc' := 135) (L' := [.ref 271, .int (nI dd), .int (nI (lwL r.1)), .int (-1), y4]) (st' := [.int (nI 0), .ref 271]) (I1 := K) 4 rfl ?_
    refine WP.callV (rest := []) rfl rfl (ms_puts (d := d + 4) (I := K) (day := 0) (by omega)) ?_
    refine WP.run (pc' := if ¬ (nI (lwL r.1)) = (nI 1000000000) then 149 else 144) (L' := [.ref 271, .int (nI dd), .int (nI (lwL r.1)), .int (-1), y4]) (st' := []) (I1 := (pbN K 0 6)) 3 rfl ?_
    refine WP.br (fun h1 => ?_) (fun h1 => ?_)
    · have h1 : ¬ lwL r.1 = 1000000000 := fun q => h1 (nI_eq_r q)
      refine WP.run (pc' := 150) (L' := [.ref 271, .int (nI dd), .int (nI (lwL r.1)), .int (-1), y4]) (st' := [.int (nI (lwL r.1))]) (I1 := (pbN K 0 6)) 1 rfl ?_
      exact WP.ret rfl rfl (by
              refine ⟨congrArg (fun z : Int32 => some (Value.int z)) ?_, fun k hk => ?_, fun q k hk => ?_, ?_⟩
              · exact lwV_1 h1
              · by_cases q : 21 ≤ k ∧ k < 27
                · have hq := pbN_v (I := K) (day := 0) 6 (k - 21) (by omega)
                  rw [show 21 + (k - 21) = k by omega] at hq
                  rw [hq, hOK 279 _ (fun z => by rcases z with z | z | z | z <;> omega), kwN_v 6 _ (by omega), show 21 + (k - 21) = k by omega]
                  exact hM1 k hk
                · rw [pbN_o _ _ _ (by omega), hOK 272 k (fun z => by rcases z with z | z | z | z <;> omega), kwN_o _ _ _ (by omega)]
                  exact hM1 k hk
              · rw [pbN_o _ _ _ (by omega)]
                exact hbK q k hk
              · exact (hOs.tr (lw_mp hOK)).tr pb_mp)
    · have h1 : lwL r.1 = 1000000000 := nI_eq_ (by omega) (by omega) (Decidable.byContradiction h1)
      refine WP.run (pc' := 150) (L' := [.ref 271, .int (nI dd), .int (nI (lwL r.1)), .int (-1), y4]) (st' := [.int (-1000000)]) (I1 := (pbN K 0 6)) 2 rfl ?_
      exact WP.ret rfl rfl (by
              refine ⟨congrArg (fun z : Int32 => some (Value.int z)) ?_, fun k hk => ?_, fun q k hk => ?_, ?_⟩
              · exact lwV_2 hpl h1
              · by_cases q : 21 ≤ k ∧ k < 27
                · have hq := pbN_v (I := K) (day := 0) 6 (k - 21) (by omega)
                  rw [show 21 + (k - 21) = k by omega] at hq
                  rw [hq, hOK 279 _ (fun z => by rcases z with z | z | z | z <;> omega), kwN_v 6 _ (by omega), show 21 + (k - 21) = k by omega]
                  exact hM1 k hk
                · rw [pbN_o _ _ _ (by omega), hOK 272 k (fun z => by rcases z with z | z | z | z <;> omega), kwN_o _ _ _ (by omega)]
                  exact hM1 k hk
              · rw [pbN_o _ _ _ (by omega)]
                exact hbK q k hk
              · exact (hOs.tr (lw_mp hOK)).tr pb_mp)
  · rw [kwN_o _ _ _ (by omega)]
    exact hM1 k hk
  · rw [show k = 6 * 0 + k by omega, kwN_v 6 _ (by omega)]
    rw [show 6 * 0 + k = k by omega]
    exact hM1 (21 + k) (by omega)
  · rw [kwN_v 6 k hk]
    exact hM1 (21 + k) (by omega)
  · rw [kwN_o _ _ _ (by omega), upN_s]
    rfl
