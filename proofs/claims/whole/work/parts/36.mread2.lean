/-! the reference: strongest, cutMost, storm -/
theorem d1_le {a b : Nat} (ha : a < 1000) (hb : b < 1000) : nI a - nI 1 ≤ nI b - nI 1 ↔ a ≤ b := by
  rw [le_iff_, pk_sub_toInt (by omega) (by omega), pk_sub_toInt (by omega) (by omega)]
  omega
theorem sbP_le (N : Nat → Nat) (m : Nat) : ∀ w, sbP N m w ≤ w := by
  intro w
  induction w with
  | zero => exact Nat.le_refl _
  | succ w ih =>
    unfold sbP
    split <;> omega
theorem stM_le (N : Nat → Nat) : ∀ k, (stM N k).1 ≤ k ∧ (stM N k).2 ≤ 100 := by
  intro k
  induction k with
  | zero => exact ⟨Nat.le_refl _, Nat.zero_le _⟩
  | succ k ih =>
    rw [stM_e]
    have hv : vM N k ≤ 100 := by
      unfold vM
      have := sbP_le N k 99
      unfold sbN
      split <;> omega
    split
    · exact ⟨by omega, ih.2⟩
    · exact ⟨Nat.le_succ k, hv⟩
theorem vM_le (N : Nat → Nat) (k : Nat) : vM N k ≤ 100 := by
  unfold vM
  have := sbP_le N k 99
  unfold sbN
  split <;> omega
set_option maxRecDepth 100000 in
theorem lm_strongestBy {d : Nat} {I : Pl} {m : Nat} {N : Nat → Nat} (hM : T0 I N) (hN : TI N) (hm : m < 64) : ∀ k, k ≤ 99 → WP (d + 3) (181, 7, (some .int), sc0) 4 [.ref 271, .int (nI m), .int (nI (sbP N m k)), .int (nI (k + 1))] [] I (fun v J => v = some (.int (nI (sbN N m))) ∧ J = I) := by
  refine loopUp (fun k hk ih => ?_)
  have hsl := sbP_le N m k
  refine WP.run (pc' := if (nI 99) < (nI (k + 1)) then 31 else 10) (L' := [.ref 271, .int (nI m), .int (nI (sbP N m k)), .int (nI (k + 1))]) (st' := []) (I1 := I) 3 rfl ?_
  refine WP.br (fun h1 => ?_) (fun h1 => ?_)
  · have h1 : 99 < k + 1 := nI_lt_ (by omega) (by omega) h1
    refine WP.run (pc' := 32) (L' := [.ref 271, .int (nI m), .int (nI (sbP N m k)), .int (nI (k + 1))]) (st' := [.int (nI (sbP N m k))]) (I1 := I) 1 rfl ?_
    exact WP.ret rfl rfl (⟨by rw [show k = 99 by omega]; rfl, rfl⟩)
  · have h1 : ¬ 99 < k + 1 := fun q => h1 (nI_lt_r (by omega) q)
    refine WP.run (pc' := 13) (L' := [.ref 271, .int (nI m), .int (nI (sbP N m k)), .int (nI (k + 1))]) (st' := [.int (nI m), .int (nI (k + 1)), .ref 271]) (I1 := I) 3 rfl ?_
    refine WP.callB (rest := []) rfl rfl (ms_isBorne (d := d) (w := k + 1) (m := m) hM hN (by omega) (by omega)) (fun h2 => ?_) (fun h2 => ?_)
    · refine WP.run (pc' := 28) (L' := [.ref 271, .int (nI m), .int (nI (k + 1)), .int ((nI (k + 1)) + nI 1)]) (st' := []) (I1 := I) 5 rfl ?_
      refine WP.cg (L' := [.ref 271, .int (nI m), .int (nI (k + 1)), .int (nI (k + 1 + 1))]) (congrArg (fun z : Int32 => ([.ref 271, .int (nI m), .int (nI (k + 1)), .int z] : List Value)) (nI_add (k + 1) 1)) rfl rfl ?_
      refine WP.run (pc' := 4) (L' := [.ref 271, .int (nI m), .int (nI (k + 1)), .int (nI (k + 1 + 1))]) (st' := []) (I1 := I) 1 rfl ?_
      refine WP.cg (L' := [.ref 271, .int (nI m), .int (nI (sbP N m (k + 1))), .int (nI (k + 1 + 1))]) (by first | rw [show sbP N m (k + 1) = _ from if_pos (by assumption)] | rw [show sbP N m (k + 1) = _ from if_neg (by assumption)]) rfl rfl (ih (by omega))
    · refine WP.run (pc' := 28) (L' := [.ref 271, .int (nI m), .int (nI (sbP N m k)), .int ((nI (k + 1)) + nI 1)]) (st' := []) (I1 := I) 4 rfl ?_
      refine WP.cg (L' := [.ref 271, .int (nI m), .int (nI (sbP N m k)), .int (nI (k + 1 + 1))]) (congrArg (fun z : Int32 => ([.ref 271, .int (nI m), .int (nI (sbP N m k)), .int z] : List Value)) (nI_add (k + 1) 1)) rfl rfl ?_
      refine WP.run (pc' := 4) (L' := [.ref 271, .int (nI m), .int (nI (sbP N m k)), .int (nI (k + 1 + 1))]) (st' := []) (I1 := I) 1 rfl ?_
      refine WP.cg (L' := [.ref 271, .int (nI m), .int (nI (sbP N m (k + 1))), .int (nI (k + 1 + 1))]) (by first | rw [show sbP N m (k + 1) = _ from if_pos (by assumption)] | rw [show sbP N m (k + 1) = _ from if_neg (by assumption)]) rfl rfl (ih (by omega))
set_option maxRecDepth 100000 in
theorem ms_strongestBy {d : Nat} {I : Pl} {m : Nat} {N : Nat → Nat} (hM : T0 I N) (hN : TI N) (hm : m < 64) : Ev (d + 4) 181 [.ref 271, .int (nI m)] (mem I) (some (.int (nI (sbN N m)))) (mem I) := by
  refine Ev.only (EvX.enter rfl rfl rfl ?_)
  refine WP.run (pc' := 4) (L' := [.ref 271, .int (nI m), .int (nI 0), .int (nI 1)]) (st' := []) (I1 := I) 4 rfl ?_
  exact lm_strongestBy hM hN hm 0 (Nat.zero_le _)
set_option maxRecDepth 100000 in
theorem lm_strong {d : Nat} {I : Pl} {w : Nat} {N : Nat → Nat} (hM : T0 I N) (hN : TI N) (hw : w < 3) : ∀ k, k ≤ 2 ^ N 2 → ∀ y : Value, WP (d + 4) (182, 7, (some .int), sc0) 48 ([.ref 271, .int (nI w), .int (nI ((stM N k).1)), .int ((nI ((stM N k).2)) - (nI 1)), .int (nI k), y]) [] I (fun v J => v = some (.int (nI (if w = 1 then stN N else mwN N (stN N)))) ∧ J = I) := by
  refine loopUp (fun k hk ih => ?_)
  intro y
  obtain ⟨b0, b1, b2, b3, b4, b5, b6, b7, b8, bS, bC, bS1, bC1, bZ, bG⟩ := id hN
  obtain ⟨s6, s7, s64⟩ := hN.set64
  have hsm := stM_le N k
  have hvm := vM_le N k
  have hand := Nat.and_le_left (n := k) (m := N 7)
  have hsb := sbP_le N k 99
  refine WP.run (pc' := 51) (L' := [.ref 271, .int (nI w), .int (nI ((stM N k).1)), .int ((nI ((stM N k).2)) - (nI 1)), .int (nI k), y]) (st' := [.int (nI k), .ref 271]) (I1 := I) 2 rfl ?_
  refine WP.callB (rest := []) rfl rfl (ms_isSet (d := d + 2) (x := (nI k)) hM hN) (fun h1 => ?_) (fun h1 => ?_)
  · refine WP.run (pc' := 57) (L' := [.ref 271, .int (nI w), .int (nI ((stM N k).1)), .int ((nI ((stM N k).2)) - (nI 1)), .int (nI k), y]) (st' := []) (I1 := I) 1 rfl ?_
    have hkl : k < 2 ^ N 2 := (inA_nI (by omega)).mp (by assumption)
    refine WP.run (pc' := 65) (L' := [.ref 271, .int (nI w), .int (nI ((stM N k).1)), .int ((nI ((stM N k).2)) - (nI 1)), .int (nI k), y]) (st' := [.int (nI 7), .ref 272, .int (nI k)]) (I1 := I) 4 rfl ?_
    refine WP.iald rfl rfl rfl (by omega) (by decide) ?_
    refine WP.cg (st' := [.int (nI (N 7)), .int (nI k)]) rfl (congrArg (fun z : Int32 => (.int z :: [.int (nI k)] : List Value)) (hM 7 (by omega))) rfl ?_
    refine WP.run (pc' := 67) (L' := [.ref 271, .int (nI w), .int (nI ((stM N k).1)), .int ((nI ((stM N k).2)) - (nI 1)), .int (nI k), y]) (st' := [.int ((nI k) &&& (nI (N 7)))]) (I1 := I) 1 rfl ?_
    refine WP.cg (st' := [.int (nI (k &&& (N 7)))]) rfl (congrArg (fun z : Int32 => (.int z :: [] : List Value)) (nI_and k (N 7))) rfl ?_
    refine WP.run (pc' := if ¬ (nI (k &&& (N 7))) = 0 then 79 else 70) (L' := [.ref 271, .int (nI w), .int (nI ((stM N k).1)), .int ((nI ((stM N k).2)) - (nI 1)), .int (nI k), y]) (st' := []) (I1 := I) 1 rfl ?_
    refine WP.br (fun h2 => ?_) (fun h2 => ?_)
    · have h2 : ¬ k &&& (N 7) = 0 := fun q => h2 (nI_eq_r q)
      refine WP.run (pc' := 80) (L' := [.ref 271, .int (nI w), .int (nI ((stM N k).1)), .int ((nI ((stM N k).2)) - (nI 1)), .int (nI k), y]) (st' := [.int (-1)]) (I1 := I) 1 rfl ?_
      have hvv : vM N k = 0 := by
        unfold vM
        rw [if_neg (by assumption)]
      refine WP.cg (st' := [.int ((nI (vM N k)) - (nI 1))]) rfl (congrArg (fun z : Int32 => ([.int z] : List Value)) (by rw [hvv]; rfl)) rfl ?_
      refine WP.run (pc' := 82) (L' := [.ref 271, .int (nI w), .int (nI ((stM N k).1)), .int ((nI ((stM N k).2)) - (nI 1)), .int (nI k), .int ((nI (vM N k)) - (nI 1))]) (st' := []) (I1 := I) 1 rfl ?_
      refine WP.run (pc' := if ((nI (vM N k)) - (nI 1)) ≤ ((nI ((stM N k).2)) - (nI 1)) then 93 else 88) (L' := [.ref 271, .int (nI w), .int (nI ((stM N k).1)), .int ((nI ((stM N k).2)) - (nI 1)), .int (nI k), .int ((nI (vM N k)) - (nI 1))]) (st' := []) (I1 := I) 3 rfl ?_
      refine WP.br (fun hg => ?_) (fun hg => ?_)
      · have hg2 := (d1_le (by omega) (by omega)).mp hg
        refine WP.run (pc' := 95) (L' := [.ref 271, .int (nI w), .int (nI ((stM N k).1)), .int ((nI ((stM N k).2)) - (nI 1)), .int (nI k), .int ((nI (vM N k)) - (nI 1))]) (st' := []) (I1 := I) 2 rfl ?_
        refine WP.run (pc' := if ((nI (vM N k)) - (nI 1)) ≤ ((nI ((stM N k).2)) - (nI 1)) then 106 else 101) (L' := [.ref 271, .int (nI w), .int (nI ((stM N k).1)), .int ((nI ((stM N k).2)) - (nI 1)), .int (nI k), .int ((nI (vM N k)) - (nI 1))]) (st' := []) (I1 := I) 3 rfl ?_
        refine WP.brT hg ?_
        refine WP.run (pc' := 111) (L' := [.ref 271, .int (nI w), .int (nI ((stM N k).1)), .int ((nI ((stM N k).2)) - (nI 1)), .int ((nI k) + nI 1), .int ((nI (vM N k)) - (nI 1))]) (st' := []) (I1 := I) 3 rfl ?_
        refine WP.cg (L' := [.ref 271, .int (nI w), .int (nI ((stM N k).1)), .int ((nI ((stM N k).2)) - (nI 1)), .int (nI (k + 1)), .int ((nI (vM N k)) - (nI 1))]) (congrArg (fun z : Int32 => ([.ref 271, .int (nI w), .int (nI ((stM N k).1)), .int ((nI ((stM N k).2)) - (nI 1)), .int z, .int ((nI (vM N k)) - (nI 1))] : List Value)) (nI_add k 1)) rfl rfl ?_
        refine WP.run (pc' := 48) (L' := [.ref 271, .int (nI w), .int (nI ((stM N k).1)), .int ((nI ((stM N k).2)) - (nI 1)), .int (nI (k + 1)), .int ((nI (vM N k)) - (nI 1))]) (st' := []) (I1 := I) 1 rfl ?_
        refine WP.cg (L' := [.ref 271, .int (nI w), .int (nI ((stM N (k + 1)).1)), .int ((nI ((stM N (k + 1)).2)) - (nI 1)), .int (nI (k + 1)), .int ((nI (vM N k)) - (nI 1))]) (by rw [stM_e]; first | rw [if_pos hg2] | rw [if_neg hg2]) rfl rfl (ih (by omega) _)
      · have hg2 : ¬ _ := fun q => hg ((d1_le (by omega) (by omega)).mpr q)
        refine WP.run (pc' := 95) (L' := [.ref 271, .int (nI w), .int (nI k), .int ((nI ((stM N k).2)) - (nI 1)), .int (nI k), .int ((nI (vM N k)) - (nI 1))]) (st' := []) (I1 := I) 3 rfl ?_
        refine WP.run (pc' := if ((nI (vM N k)) - (nI 1)) ≤ ((nI ((stM N k).2)) - (nI 1)) then 106 else 101) (L' := [.ref 271, .int (nI w), .int (nI k), .int ((nI ((stM N k).2)) - (nI 1)), .int (nI k), .int ((nI (vM N k)) - (nI 1))]) (st' := []) (I1 := I) 3 rfl ?_
        refine WP.brF hg ?_
        refine WP.run (pc' := 111) (L' := [.ref 271, .int (nI w), .int (nI k), .int ((nI (vM N k)) - (nI 1)), .int ((nI k) + nI 1), .int ((nI (vM N k)) - (nI 1))]) (st' := []) (I1 := I) 4 rfl ?_
        refine WP.cg (L' := [.ref 271, .int (nI w), .int (nI k), .int ((nI (vM N k)) - (nI 1)), .int (nI (k + 1)), .int ((nI (vM N k)) - (nI 1))]) (congrArg (fun z : Int32 => ([.ref 271, .int (nI w), .int (nI k), .int ((nI (vM N k)) - (nI 1)), .int z, .int ((nI (vM N k)) - (nI 1))] : List Value)) (nI_add k 1)) rfl rfl ?_
        refine WP.run (pc' := 48) (L' := [.ref 271, .int (nI w), .int (nI k), .int ((nI (vM N k)) - (nI 1)), .int (nI (k + 1)), .int ((nI (vM N k)) - (nI 1))]) (st' := []) (I1 := I) 1 rfl ?_
        refine WP.cg (L' := [.ref 271, .int (nI w), .int (nI ((stM N (k + 1)).1)), .int ((nI ((stM N (k + 1)).2)) - (nI 1)), .int (nI (k + 1)), .int ((nI (vM N k)) - (nI 1))]) (by rw [stM_e]; first | rw [if_pos hg2] | rw [if_neg hg2]) rfl rfl (ih (by omega) _)
    · have h2 : k &&& (N 7) = 0 := nI_eq_ (by omega) (by omega) (Decidable.byContradiction h2)
      refine WP.run (pc' := 73) (L' := [.ref 271, .int (nI w), .int (nI ((stM N k).1)), .int ((nI ((stM N k).2)) - (nI 1)), .int (nI k), y]) (st' := [.int (nI k), .ref 271]) (I1 := I) 2 rfl ?_
      refine WP.callV (rest := []) rfl rfl (ms_strongestBy (d := d) (m := k) hM hN (by omega)) ?_
      refine WP.run (pc' := 80) (L' := [.ref 271, .int (nI w), .int (nI ((stM N k).1)), .int ((nI ((stM N k).2)) - (nI 1)), .int (nI k), y]) (st' := [.int (nI (sbN N k))]) (I1 := I) 1 rfl ?_
      have hvv : vM N k = sbN N k + 1 := by
        unfold vM
        rw [if_pos (by assumption)]
      refine WP.cg (st' := [.int ((nI (vM N k)) - (nI 1))]) rfl (congrArg (fun z : Int32 => ([.int z] : List Value)) (by rw [hvv, pk_sub (by omega)]; rfl)) rfl ?_
      refine WP.run (pc' := 82) (L' := [.ref 271, .int (nI w), .int (nI ((stM N k).1)), .int ((nI ((stM N k).2)) - (nI 1)), .int (nI k), .int ((nI (vM N k)) - (nI 1))]) (st' := []) (I1 := I) 1 rfl ?_
      refine WP.run (pc' := if ((nI (vM N k)) - (nI 1)) ≤ ((nI ((stM N k).2)) - (nI 1)) then 93 else 88) (L' := [.ref 271, .int (nI w), .int (nI ((stM N k).1)), .int ((nI ((stM N k).2)) - (nI 1)), .int (nI k), .int ((nI (vM N k)) - (nI 1))]) (st' := []) (I1 := I) 3 rfl ?_
      refine WP.br (fun hg => ?_) (fun hg => ?_)
      · have hg2 := (d1_le (by omega) (by omega)).mp hg
        refine WP.run (pc' := 95) (L' := [.ref 271, .int (nI w), .int (nI ((stM N k).1)), .int ((nI ((stM N k).2)) - (nI 1)), .int (nI k), .int ((nI (vM N k)) - (nI 1))]) (st' := []) (I1 := I) 2 rfl ?_
        refine WP.run (pc' := if ((nI (vM N k)) - (nI 1)) ≤ ((nI ((stM N k).2)) - (nI 1)) then 106 else 101) (L' := [.ref 271, .int (nI w), .int (nI ((stM N k).1)), .int ((nI ((stM N k).2)) - (nI 1)), .int (nI k), .int ((nI (vM N k)) - (nI 1))]) (st' := []) (I1 := I) 3 rfl ?_
        refine WP.brT hg ?_
        refine WP.run (pc' := 111) (L' := [.ref 271, .int (nI w), .int (nI ((stM N k).1)), .int ((nI ((stM N k).2)) - (nI 1)), .int ((nI k) + nI 1), .int ((nI (vM N k)) - (nI 1))]) (st' := []) (I1 := I) 3 rfl ?_
        refine WP.cg (L' := [.ref 271, .int (nI w), .int (nI ((stM N k).1)), .int ((nI ((stM N k).2)) - (nI 1)), .int (nI (k + 1)), .int ((nI (vM N k)) - (nI 1))]) (congrArg (fun z : Int32 => ([.ref 271, .int (nI w), .int (nI ((stM N k).1)), .int ((nI ((stM N k).2)) - (nI 1)), .int z, .int ((nI (vM N k)) - (nI 1))] : List Value)) (nI_add k 1)) rfl rfl ?_
        refine WP.run (pc' := 48) (L' := [.ref 271, .int (nI w), .int (nI ((stM N k).1)), .int ((nI ((stM N k).2)) - (nI 1)), .int (nI (k + 1)), .int ((nI (vM N k)) - (nI 1))]) (st' := []) (I1 := I) 1 rfl ?_
        refine WP.cg (L' := [.ref 271, .int (nI w), .int (nI ((stM N (k + 1)).1)), .int ((nI ((stM N (k + 1)).2)) - (nI 1)), .int (nI (k + 1)), .int ((nI (vM N k)) - (nI 1))]) (by rw [stM_e]; first | rw [if_pos hg2] | rw [if_neg hg2]) rfl rfl (ih (by omega) _)
      · have hg2 : ¬ _ := fun q => hg ((d1_le (by omega) (by omega)).mpr q)
        refine WP.run (pc' := 95) (L' := [.ref 271, .int (nI w), .int (nI k), .int ((nI ((stM N k).2)) - (nI 1)), .int (nI k), .int ((nI (vM N k)) - (nI 1))]) (st' := []) (I1 := I) 3 rfl ?_
        refine WP.run (pc' := if ((nI (vM N k)) - (nI 1)) ≤ ((nI ((stM N k).2)) - (nI 1)) then 106 else 101) (L' := [.ref 271, .int (nI w), .int (nI k), .int ((nI ((stM N k).2)) - (nI 1)), .int (nI k), .int ((nI (vM N k)) - (nI 1))]) (st' := []) (I1 := I) 3 rfl ?_
        refine WP.brF hg ?_
        refine WP.run (pc' := 111) (L' := [.ref 271, .int (nI w), .int (nI k), .int ((nI (vM N k)) - (nI 1)), .int ((nI k) + nI 1), .int ((nI (vM N k)) - (nI 1))]) (st' := []) (I1 := I) 4 rfl ?_
        refine WP.cg (L' := [.ref 271, .int (nI w), .int (nI k), .int ((nI (vM N k)) - (nI 1)), .int (nI (k + 1)), .int ((nI (vM N k)) - (nI 1))]) (congrArg (fun z : Int32 => ([.ref 271, .int (nI w), .int (nI k), .int ((nI (vM N k)) - (nI 1)), .int z, .int ((nI (vM N k)) - (nI 1))] : List Value)) (nI_add k 1)) rfl rfl ?_
        refine WP.run (pc' := 48) (L' := [.ref 271, .int (nI w), .int (nI k), .int ((nI (vM N k)) - (nI 1)), .int (nI (k + 1)), .int ((nI (vM N k)) - (nI 1))]) (st' := []) (I1 := I) 1 rfl ?_
        refine WP.cg (L' := [.ref 271, .int (nI w), .int (nI ((stM N (k + 1)).1)), .int ((nI ((stM N (k + 1)).2)) - (nI 1)), .int (nI (k + 1)), .int ((nI (vM N k)) - (nI 1))]) (by rw [stM_e]; first | rw [if_pos hg2] | rw [if_neg hg2]) rfl rfl (ih (by omega) _)
  · refine WP.run (pc' := 114) (L' := [.ref 271, .int (nI w), .int (nI ((stM N k).1)), .int ((nI ((stM N k).2)) - (nI 1)), .int (nI k), y]) (st' := []) (I1 := I) 1 rfl ?_
    have hkl : ¬ k < 2 ^ N 2 := fun q => absurd ((inA_nI (by omega)).mpr q) (by assumption)
    obtain ⟨e1, e2⟩ := stM_end hN
    have hmw := mwN_le N (stN N)
    refine WP.cg (L' := [.ref 271, .int (nI w), .int (nI (stN N)), .int (nI (mwN N (stN N))), .int (nI k), y]) (by rw [show k = 2 ^ N 2 by omega, e1, e2, pk_sub (by omega)]; rfl) rfl rfl ?_
    refine WP.run (pc' := if ¬ (nI w) = (nI 1) then 123 else 119) (L' := [.ref 271, .int (nI w), .int (nI (stN N)), .int (nI (mwN N (stN N))), .int (nI k), y]) (st' := []) (I1 := I) 3 rfl ?_
    refine WP.br (fun h3 => ?_) (fun h3 => ?_)
    · have h3 : ¬ w = 1 := fun q => h3 (nI_eq_r q)
      refine WP.run (pc' := 124) (L' := [.ref 271, .int (nI w), .int (nI (stN N)), .int (nI (mwN N (stN N))), .int (nI k), y]) (st' := [.int (nI (mwN N (stN N)))]) (I1 := I) 1 rfl ?_
      exact WP.ret rfl rfl (⟨by first | rw [if_pos (by assumption)] | rw [if_neg (by assumption)], rfl⟩)
    · have h3 : w = 1 := nI_eq_ (by omega) (by omega) (Decidable.byContradiction h3)
      refine WP.run (pc' := 124) (L' := [.ref 271, .int (nI w), .int (nI (stN N)), .int (nI (mwN N (stN N))), .int (nI k), y]) (st' := [.int (nI (stN N))]) (I1 := I) 2 rfl ?_
      exact WP.ret rfl rfl (⟨by first | rw [if_pos (by assumption)] | rw [if_neg (by assumption)], rfl⟩)
set_option maxRecDepth 100000 in
theorem ms_strong {d : Nat} {I : Pl} {N : Nat → Nat} {x : Int32} (hM : T0 I N) (hN : TI N)  : Ev (d + 5) 182 [.ref 271, .int x] (mem I) (some (.int (aStrong N x))) (mem I) := by
  obtain ⟨b0, b1, b2, b3, b4, b5, b6, b7, b8, bS, bC, bS1, bC1, bZ, bG⟩ := id hN
  obtain ⟨s6, s7, s64⟩ := hN.set64
  refine Ev.only (EvX.enter rfl rfl rfl ?_)
  refine WP.run (pc' := 1) (L' := [.ref 271, .int x, UU, UU, UU, UU]) (st' := [.ref 271]) (I1 := I) 1 rfl ?_
  refine WP.callB (rest := []) rfl rfl (ms_isNone (d := d + 3) hM hN) (fun h1 => ?_) (fun h1 => ?_)
  · refine WP.run (pc' := 9) (L' := [.ref 271, .int x, UU, UU, UU, UU]) (st' := [.int (-1000002)]) (I1 := I) 2 rfl ?_
    exact WP.ret rfl rfl (⟨by (unfold aStrong; (repeat rw [nOf_nI (by omega)]); (repeat first | rw [if_pos (by first | assumption | omega | (refine inA_iff.mpr ?_; omega) | (intro q; have q2 := inA_iff.mp q; omega) | (intro q; omega) | (refine ⟨?_, ?_⟩ <;> rw [nI_int (by omega)] <;> omega) | (rw [nI_int (by omega)]; omega) | (intro q; rw [nI_int (by omega)] at q; omega) | (refine ⟨?_, ?_, ?_⟩ <;> omega) | (intro q; obtain ⟨q1, q2, q3⟩ := q; omega) | fail)] | rw [if_neg (by first | assumption | omega | (refine inA_iff.mpr ?_; omega) | (intro q; have q2 := inA_iff.mp q; omega) | (intro q; omega) | (refine ⟨?_, ?_⟩ <;> rw [nI_int (by omega)] <;> omega) | (rw [nI_int (by omega)]; omega) | (intro q; rw [nI_int (by omega)] at q; omega) | (refine ⟨?_, ?_, ?_⟩ <;> omega) | (intro q; obtain ⟨q1, q2, q3⟩ := q; omega) | fail)])) <;> rfl, rfl⟩)
  · refine WP.run (pc' := 16) (L' := [.ref 271, .int x, UU, UU, UU, UU]) (st' := [.long (2 : Int64), .long (0 : Int64), .long x.toInt64]) (I1 := I) 5 rfl ?_
    refine WP.callB (rest := []) rfl rfl (sp_inA (d := d + 3) (x := x) (n := 3) (hi := (2 : Int64)) rfl) (fun h2 => ?_) (fun h2 => ?_)
    · refine WP.run (pc' := 25) (L' := [.ref 271, .int x, UU, UU, UU, UU]) (st' := []) (I1 := I) 1 rfl ?_
      have hx_j : inA x 3 := (by assumption)
      obtain ⟨j, hj, rfl⟩ := inA_of hx_j (by omega)
      refine WP.run (pc' := if ¬ (nI j) = 0 then 41 else 29) (L' := [.ref 271, .int (nI j), UU, UU, UU, UU]) (st' := []) (I1 := I) 2 rfl ?_
      refine WP.br (fun h3 => ?_) (fun h3 => ?_)
      · have h3 : ¬ j = 0 := fun q => h3 (nI_eq_r q)
        refine WP.run (pc' := 48) (L' := [.ref 271, .int (nI j), .int (nI 0), .int (-1), .int (nI 0), UU]) (st' := []) (I1 := I) 6 rfl ?_
        refine WP.cg (L' := [.ref 271, .int (nI j), .int (nI ((stM N 0).1)), .int ((nI ((stM N 0).2)) - (nI 1)), .int (nI 0), UU]) rfl rfl rfl ?_
        unfold aStrong
        rw [nOf_nI (by omega), if_neg (by assumption), if_pos (by assumption), if_neg (by omega)]
        exact lm_strong hM hN hj 0 (Nat.zero_le _) _
      · have h3 : j = 0 := nI_eq_ (by omega) (by omega) (Decidable.byContradiction h3)
        refine WP.run (pc' := 36) (L' := [.ref 271, .int (nI j), UU, UU, UU, UU]) (st' := [.int (nI 6), .ref 272, .ref 271]) (I1 := I) 4 rfl ?_
        refine WP.iald rfl rfl rfl (by omega) (by decide) ?_
        refine WP.cg (st' := [.int (nI (N 6)), .ref 271]) rfl (congrArg (fun z : Int32 => (.int z :: [.ref 271] : List Value)) (hM 6 (by omega))) rfl ?_
        refine WP.callV (rest := []) rfl rfl (ms_strongestBy (d := d) (m := N 6) hM hN (by omega)) ?_
        exact WP.ret rfl rfl (⟨by unfold aStrong; rw [nOf_nI (by omega), if_neg (by assumption), if_pos (by assumption), if_pos (by omega), mw_sb hN s6], rfl⟩)
    · refine WP.run (pc' := 24) (L' := [.ref 271, .int x, UU, UU, UU, UU]) (st' := [.int (-1000001)]) (I1 := I) 2 rfl ?_
      exact WP.ret rfl rfl (⟨by (unfold aStrong; (repeat rw [nOf_nI (by omega)]); (repeat first | rw [if_pos (by first | assumption | omega | (refine inA_iff.mpr ?_; omega) | (intro q; have q2 := inA_iff.mp q; omega) | (intro q; omega) | (refine ⟨?_, ?_⟩ <;> rw [nI_int (by omega)] <;> omega) | (rw [nI_int (by omega)]; omega) | (intro q; rw [nI_int (by omega)] at q; omega) | (refine ⟨?_, ?_, ?_⟩ <;> omega) | (intro q; obtain ⟨q1, q2, q3⟩ := q; omega) | fail)] | rw [if_neg (by first | assumption | omega | (refine inA_iff.mpr ?_; omega) | (intro q; have q2 := inA_iff.mp q; omega) | (intro q; omega) | (refine ⟨?_, ?_⟩ <;> rw [nI_int (by omega)] <;> omega) | (rw [nI_int (by omega)]; omega) | (intro q; rw [nI_int (by omega)] at q; omega) | (refine ⟨?_, ?_, ?_⟩ <;> omega) | (intro q; obtain ⟨q1, q2, q3⟩ := q; omega) | fail)])) <;> rfl, rfl⟩)
set_option maxRecDepth 100000 in
theorem lm_cut {d : Nat} {I : Pl} {N : Nat → Nat} (hM : T0 I N) (hN : TI N) : ∀ k, k ≤ 9 → ∀ y : Value, WP (d + 1) (183, 7, (some .int), sc0) 15 ([.ref 271, .int (mvC (cmP N k)), .int (nI k), y]) [] I (fun v J => v = some (.int (if N 3 = 0 then -1000000 else if min (N 1 + 200) (cmP N 9) < 200 then -1000000 else nI (min (N 1 + 200) (cmP N 9) - 200))) ∧ J = I) := by
  refine loopUp (fun k hk ih => ?_)
  intro y
  obtain ⟨b0, b1, b2, b3, b4, b5, b6, b7, b8, bS, bC, bS1, bC1, bZ, bG⟩ := id hN
  obtain ⟨s6, s7, s64⟩ := hN.set64
  have hcm := cmP_or hN k hk
  have hdl := dueN_lt (n := N 4 + k) hN
  refine WP.run (pc' := if (nI 9) ≤ (nI k) then 69 else 21) (L' := [.ref 271, .int (mvC (cmP N k)), .int (nI k), y]) (st' := []) (I1 := I) 3 rfl ?_
  refine WP.br (fun h1 => ?_) (fun h1 => ?_)
  · have h1 : 9 ≤ k := nI_le_ (by omega) (by omega) h1
    obtain rfl : k = 9 := by omega
    by_cases h3 : N 3 = 0
    · have hc0 := cmP_no h3 9
      refine WP.run (pc' := if (mvC (cmP N 9)) = nI 1000000000 then 79 else 75) (L' := [.ref 271, .int (mvC (cmP N 9)), .int (nI 9), y]) (st' := []) (I1 := I) 3 rfl ?_
      refine WP.brT ((mvC_far hcm).mpr hc0) ?_
      refine WP.run (pc' := 104) (L' := [.ref 271, .int (mvC (cmP N 9)), .int (nI 9), y]) (st' := [.int (-1000000)]) (I1 := I) 2 rfl ?_
      exact WP.ret rfl rfl (⟨by rw [if_pos h3], rfl⟩)
    · have hc0 := cmP_yes hN h3
      refine WP.run (pc' := if (mvC (cmP N 9)) = nI 1000000000 then 79 else 75) (L' := [.ref 271, .int (mvC (cmP N 9)), .int (nI 9), y]) (st' := []) (I1 := I) 3 rfl ?_
      refine WP.brF (fun q => absurd ((mvC_far hcm).mp q) (by omega)) ?_
      refine WP.run (pc' := if (0 : Int32) ≤ (mvC (cmP N 9)) then 84 else 79) (L' := [.ref 271, .int (mvC (cmP N 9)), .int (nI 9), y]) (st' := []) (I1 := I) 2 rfl ?_
      refine WP.br (fun hg => ?_) (fun hg => ?_)
      · have hg2 := (mvC_neg hc0).mp hg
        refine WP.run (pc' := 90) (L' := [.ref 271, .int (mvC (cmP N 9)), .int (nI 9), y]) (st' := [.int (nI 1), .ref 272, .int (mvC (cmP N 9))]) (I1 := I) 4 rfl ?_
        refine WP.iald rfl rfl rfl (by omega) (by decide) ?_
        refine WP.cg (st' := [.int (nI (N 1)), .int (mvC (cmP N 9))]) rfl (congrArg (fun z : Int32 => (.int z :: [.int (mvC (cmP N 9))] : List Value)) (hM 1 (by omega))) rfl ?_
        refine WP.run (pc' := if (mvC (cmP N 9)) ≤ (nI (N 1)) then 103 else 94) (L' := [.ref 271, .int (mvC (cmP N 9)), .int (nI 9), y]) (st' := []) (I1 := I) 1 rfl ?_
        refine WP.br (fun hl => ?_) (fun hl => ?_)
        · have hl2 := (mvC_long hc0 (by omega)).mp hl
          refine WP.run (pc' := 104) (L' := [.ref 271, .int (mvC (cmP N 9)), .int (nI 9), y]) (st' := [.int (mvC (cmP N 9))]) (I1 := I) 1 rfl ?_
          exact WP.ret rfl rfl (⟨by rw [if_neg h3, if_neg (by omega), mvC_val hc0 hg2, Nat.min_eq_right hl2], rfl⟩)
        · have hl2 : ¬ _ := fun q => hl ((mvC_long hc0 (by omega)).mpr q)
          refine WP.run (pc' := 99) (L' := [.ref 271, .int (mvC (cmP N 9)), .int (nI 9), y]) (st' := [.int (nI 1), .ref 272]) (I1 := I) 3 rfl ?_
          refine WP.iald rfl rfl rfl (by omega) (by decide) ?_
          refine WP.cg (st' := [.int (nI (N 1))]) rfl (congrArg (fun z : Int32 => (.int z :: [] : List Value)) (hM 1 (by omega))) rfl ?_
          refine WP.run (pc' := 104) (L' := [.ref 271, .int (mvC (cmP N 9)), .int (nI 9), y]) (st' := [.int (nI (N 1))]) (I1 := I) 1 rfl ?_
          exact WP.ret rfl rfl (⟨by rw [if_neg h3, if_neg (by omega), Nat.min_eq_left (by omega), Nat.add_sub_cancel], rfl⟩)
      · have hg2 : ¬ _ := fun q => hg ((mvC_neg hc0).mpr q)
        refine WP.run (pc' := 104) (L' := [.ref 271, .int (mvC (cmP N 9)), .int (nI 9), y]) (st' := [.int (-1000000)]) (I1 := I) 2 rfl ?_
        exact WP.ret rfl rfl (⟨by rw [if_neg h3, if_pos (by omega)], rfl⟩)
  · have h1 : ¬ 9 ≤ k := fun q => h1 (nI_le_r (by omega) q)
    refine WP.run (pc' := 26) (L' := [.ref 271, .int (mvC (cmP N k)), .int (nI k), y]) (st' := [.int (nI 1), .ref 272]) (I1 := I) 3 rfl ?_
    refine WP.iald rfl rfl rfl (by omega) (by decide) ?_
    refine WP.cg (st' := [.int (nI (N 1))]) rfl (congrArg (fun z : Int32 => (.int z :: [] : List Value)) (hM 1 (by omega))) rfl ?_
    refine WP.run (pc' := 29) (L' := [.ref 271, .int (mvC (cmP N k)), .int (nI k), y]) (st' := [.int ((nI (N 1)) + (nI k))]) (I1 := I) 2 rfl ?_
    refine WP.cg (st' := [.int (nI ((N 1) + k))]) rfl (congrArg (fun z : Int32 => (.int z :: [] : List Value)) (nI_add (N 1) k)) rfl ?_
    refine WP.run (pc' := 34) (L' := [.ref 271, .int (mvC (cmP N k)), .int (nI k), y]) (st' := [.int (nI 0), .ref 272, .int (nI ((N 1) + k))]) (I1 := I) 3 rfl ?_
    refine WP.iald rfl rfl rfl (by omega) (by decide) ?_
    refine WP.cg (st' := [.int (nI (N 0)), .int (nI ((N 1) + k))]) rfl (congrArg (fun z : Int32 => (.int z :: [.int (nI ((N 1) + k))] : List Value)) (hM 0 (by omega))) rfl ?_
    refine WP.run (pc' := 36) (L' := [.ref 271, .int (mvC (cmP N k)), .int (nI k), y]) (st' := [.int ((nI ((N 1) + k)) - (nI (N 0)))]) (I1 := I) 1 rfl ?_
    refine WP.cg (st' := [.int ((nI ((N 1) + k)) - (nI (N 0)))]) rfl (congrArg (fun z : Int32 => (.int z :: [] : List Value)) (rfl)) rfl ?_
    refine WP.run (pc' := 43) (L' := [.ref 271, .int (mvC (cmP N k)), .int (nI k), .int ((nI ((N 1) + k)) - (nI (N 0)))]) (st' := [.int (nI 4), .ref 272, .ref 271]) (I1 := I) 5 rfl ?_
    refine WP.iald rfl rfl rfl (by omega) (by decide) ?_
    refine WP.cg (st' := [.int (nI (N 4)), .ref 271]) rfl (congrArg (fun z : Int32 => (.int z :: [.ref 271] : List Value)) (hM 4 (by omega))) rfl ?_
    refine WP.run (pc' := 46) (L' := [.ref 271, .int (mvC (cmP N k)), .int (nI k), .int ((nI ((N 1) + k)) - (nI (N 0)))]) (st' := [.int ((nI (N 4)) + (nI k)), .ref 271]) (I1 := I) 2 rfl ?_
    refine WP.cg (st' := [.int (nI ((N 4) + k)), .ref 271]) rfl (congrArg (fun z : Int32 => (.int z :: [.ref 271] : List Value)) (nI_add (N 4) k)) rfl ?_
    refine WP.callV (rest := []) rfl rfl (ms_dueOn (d := d) (n := (N 4) + k) hM hN (by omega)) ?_
    refine WP.run (pc' := if (nI (dueN N ((N 4) + k))) = 0 then 61 else 52) (L' := [.ref 271, .int (mvC (cmP N k)), .int (nI k), .int ((nI ((N 1) + k)) - (nI (N 0)))]) (st' := []) (I1 := I) 1 rfl ?_
    refine WP.br (fun h2 => ?_) (fun h2 => ?_)
    · have h2 : dueN N ((N 4) + k) = 0 := nI_eq_ (by omega) (by omega) h2
      refine WP.run (pc' := 66) (L' := [.ref 271, .int (mvC (cmP N k)), .int ((nI k) + nI 1), .int ((nI ((N 1) + k)) - (nI (N 0)))]) (st' := []) (I1 := I) 3 rfl ?_
      refine WP.cg (L' := [.ref 271, .int (mvC (cmP N k)), .int (nI (k + 1)), .int ((nI ((N 1) + k)) - (nI (N 0)))]) (congrArg (fun z : Int32 => ([.ref 271, .int (mvC (cmP N k)), .int z, .int ((nI ((N 1) + k)) - (nI (N 0)))] : List Value)) (nI_add k 1)) rfl rfl ?_
      refine WP.run (pc' := 15) (L' := [.ref 271, .int (mvC (cmP N k)), .int (nI (k + 1)), .int ((nI ((N 1) + k)) - (nI (N 0)))]) (st' := []) (I1 := I) 1 rfl ?_
      refine WP.cg (L' := [.ref 271, .int (mvC (cmP N (k + 1))), .int (nI (k + 1)), .int ((nI ((N 1) + k)) - (nI (N 0)))]) (by rw [show cmP N (k + 1) = _ from if_pos (by assumption)]) rfl rfl (ih (by omega) _)
    · have h2 : ¬ dueN N ((N 4) + k) = 0 := fun q => h2 (nI_eq_r q)
      refine WP.run (pc' := if (mvC (cmP N k)) ≤ ((nI ((N 1) + k)) - (nI (N 0))) then 61 else 57) (L' := [.ref 271, .int (mvC (cmP N k)), .int (nI k), .int ((nI ((N 1) + k)) - (nI (N 0)))]) (st' := []) (I1 := I) 3 rfl ?_
      refine WP.br (fun hg => ?_) (fun hg => ?_)
      · have hg2 := (mvC_le hcm (by omega) (by omega)).mp hg
        refine WP.run (pc' := 66) (L' := [.ref 271, .int (mvC (cmP N k)), .int ((nI k) + nI 1), .int ((nI ((N 1) + k)) - (nI (N 0)))]) (st' := []) (I1 := I) 3 rfl ?_
        refine WP.cg (L' := [.ref 271, .int (mvC (cmP N k)), .int (nI (k + 1)), .int ((nI ((N 1) + k)) - (nI (N 0)))]) (congrArg (fun z : Int32 => ([.ref 271, .int (mvC (cmP N k)), .int z, .int ((nI ((N 1) + k)) - (nI (N 0)))] : List Value)) (nI_add k 1)) rfl rfl ?_
        refine WP.run (pc' := 15) (L' := [.ref 271, .int (mvC (cmP N k)), .int (nI (k + 1)), .int ((nI ((N 1) + k)) - (nI (N 0)))]) (st' := []) (I1 := I) 1 rfl ?_
        refine WP.cg (L' := [.ref 271, .int (mvC (cmP N (k + 1))), .int (nI (k + 1)), .int ((nI ((N 1) + k)) - (nI (N 0)))]) (by rw [show cmP N (k + 1) = _ from if_neg (by assumption), Nat.min_eq_left (by omega)]) rfl rfl (ih (by omega) _)
      · have hg2 : ¬ _ := fun q => hg ((mvC_le hcm (by omega) (by omega)).mpr q)
        refine WP.run (pc' := 66) (L' := [.ref 271, .int ((nI ((N 1) + k)) - (nI (N 0))), .int ((nI k) + nI 1), .int ((nI ((N 1) + k)) - (nI (N 0)))]) (st' := []) (I1 := I) 4 rfl ?_
        refine WP.cg (L' := [.ref 271, .int ((nI ((N 1) + k)) - (nI (N 0))), .int (nI (k + 1)), .int ((nI ((N 1) + k)) - (nI (N 0)))]) (congrArg (fun z : Int32 => ([.ref 271, .int ((nI ((N 1) + k)) - (nI (N 0))), .int z, .int ((nI ((N 1) + k)) - (nI (N 0)))] : List Value)) (nI_add k 1)) rfl rfl ?_
        refine WP.run (pc' := 15) (L' := [.ref 271, .int ((nI ((N 1) + k)) - (nI (N 0))), .int (nI (k + 1)), .int ((nI ((N 1) + k)) - (nI (N 0)))]) (st' := []) (I1 := I) 1 rfl ?_
        refine WP.cg (L' := [.ref 271, .int (mvC (cmP N (k + 1))), .int (nI (k + 1)), .int ((nI ((N 1) + k)) - (nI (N 0)))]) (by rw [show cmP N (k + 1) = _ from if_neg (by assumption), Nat.min_eq_right (by omega), mvC_d (by omega) (by omega)]) rfl rfl (ih (by omega) _)
set_option maxRecDepth 100000 in
theorem ms_cut {d : Nat} {I : Pl} {N : Nat → Nat} (hM : T0 I N) (hN : TI N)  : Ev (d + 2) 183 [.ref 271] (mem I) (some (.int (aCut N))) (mem I) := by
  obtain ⟨b0, b1, b2, b3, b4, b5, b6, b7, b8, bS, bC, bS1, bC1, bZ, bG⟩ := id hN
  obtain ⟨s6, s7, s64⟩ := hN.set64
  refine Ev.only (EvX.enter rfl rfl rfl ?_)
  refine WP.run (pc' := 1) (L' := [.ref 271, UU, UU, UU]) (st' := [.ref 271]) (I1 := I) 1 rfl ?_
  refine WP.callB (rest := []) rfl rfl (ms_isNone (d := d) hM hN) (fun h1 => ?_) (fun h1 => ?_)
  · refine WP.run (pc' := 9) (L' := [.ref 271, UU, UU, UU]) (st' := [.int (-1000002)]) (I1 := I) 2 rfl ?_
    exact WP.ret rfl rfl (⟨by (unfold aCut; (repeat rw [nOf_nI (by omega)]); (repeat first | rw [if_pos (by first | assumption | omega | (refine inA_iff.mpr ?_; omega) | (intro q; have q2 := inA_iff.mp q; omega) | (intro q; omega) | (refine ⟨?_, ?_⟩ <;> rw [nI_int (by omega)] <;> omega) | (rw [nI_int (by omega)]; omega) | (intro q; rw [nI_int (by omega)] at q; omega) | (refine ⟨?_, ?_, ?_⟩ <;> omega) | (intro q; obtain ⟨q1, q2, q3⟩ := q; omega) | fail)] | rw [if_neg (by first | assumption | omega | (refine inA_iff.mpr ?_; omega) | (intro q; have q2 := inA_iff.mp q; omega) | (intro q; omega) | (refine ⟨?_, ?_⟩ <;> rw [nI_int (by omega)] <;> omega) | (rw [nI_int (by omega)]; omega) | (intro q; rw [nI_int (by omega)] at q; omega) | (refine ⟨?_, ?_, ?_⟩ <;> omega) | (intro q; obtain ⟨q1, q2, q3⟩ := q; omega) | fail)])) <;> rfl, rfl⟩)
  · refine WP.run (pc' := 15) (L' := [.ref 271, .int (nI 1000000000), .int (nI 0), UU]) (st' := []) (I1 := I) 5 rfl ?_
    unfold aCut
    rw [if_neg (by assumption)]
    refine WP.cg (L' := [.ref 271, .int (mvC (cmP N 0)), .int (nI 0), UU]) rfl rfl rfl ?_
    exact lm_cut hM hN 0 (Nat.zero_le _) _
