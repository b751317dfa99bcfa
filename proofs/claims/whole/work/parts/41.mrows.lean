/-! rows, asked by the reference -/
theorem RowsM.size {I : Pl} {R : RS} {r : Nat} (h : RowsM I R) (hr : r < 8) (hl : ¬ R.1 r = 3) : I 275 r = nI (R.2.1 r) ∧ R.2.1 r ≤ 40 ∧ I 274 r = nI (R.1 r) ∧ R.1 r < 3 := by
  obtain ⟨h1, h2, h3⟩ := h.2 r hr
  obtain ⟨a, b, c, -⟩ := h3 (by omega)
  exact ⟨b, c, a, by omega⟩
def agN (R : RS) (r : Nat) (i n : Int32) : Nat := if R.1 r = 3 then 1 else if plP i n (R.2.1 r) then 0 else 2
theorem l_add {x y : Int32} : (x.toInt64 + y.toInt64).toInt = x.toInt + y.toInt := by
  have h1 := Int32.le_toInt x
  have h2 := Int32.toInt_lt x
  have h3 := Int32.le_toInt y
  have h4 := Int32.toInt_lt y
  rw [Int64.toInt_add, Int32.toInt_toInt64, Int32.toInt_toInt64]
  exact Int.bmod_eq_of_le (by omega) (by omega)
theorem l_sumR {x y z : Int32} : lg_cmp (x.toInt64 + y.toInt64) z.toInt64 ≤ 0 ↔ x.toInt + y.toInt ≤ z.toInt := by
  rw [lg_cmp_le, Int64.le_iff_toInt_le, l_add, Int32.toInt_toInt64]
set_option maxRecDepth 100000 in
theorem zmN_only {I : Pl} {r l n : Nat} : Only I (zmN (upN (upN I 274 r (nI l)) 275 r (nI n)) r 40) rmP := by
  intro o k h
  have h2 : ¬ (274 ≤ o ∧ o ≤ 277) := fun q => h (Or.inr q)
  rw [zmN_v, if_neg (fun q => h2 (by omega)), upN_no (by omega), upN_no (by omega)]
theorem lyN_only {I : Pl} {a i b j n : Nat} : Only I (lyN (hdN I a i n) b j n) rmP := by
  intro o k h
  have h2 : ¬ (274 ≤ o ∧ o ≤ 277) := fun q => h (Or.inr q)
  rw [lyN_o _ _ _ (by omega), hdN_o _ _ _ (by omega)]
set_option maxRecDepth 100000 in
theorem ms_found {d : Nat} {I : Pl} {x : Nat} : Ev (d + 1) 127 [.ref 271, .int (nI x)] (mem I) (some (.int (-1000010 - nI x))) (mem (upN I 271 7 (nI x))) := by
  refine Ev.only (EvX.enter rfl rfl rfl ?_)
  refine WP.run (pc' := 9) (L' := [.ref 271, .int (nI x)]) (st' := [.int ((-1000010) - (nI x))]) (I1 := (upN I 271 7 (nI x))) 6 rfl ?_
  exact WP.ret rfl rfl (⟨rfl, rfl⟩)
set_option maxRecDepth 100000 in
theorem ms_well {d : Nat} {I : Pl} {x : Int32} : Ev (d + 1) 128 [.ref 271, .int x] (mem I) (some (.int x)) (mem (upN I 271 7 (nI 0))) := by
  refine Ev.only (EvX.enter rfl rfl rfl ?_)
  refine WP.run (pc' := 6) (L' := [.ref 271, .int x]) (st' := [.int x]) (I1 := (upN I 271 7 (nI 0))) 4 rfl ?_
  exact WP.ret rfl rfl (⟨rfl, rfl⟩)
set_option maxRecDepth 100000 in
theorem ms_cutTo {d : Nat} {I : Pl} {l : Nat} {v : Int32} (hl : l < 3) : Ev (d + 1) 131 [.int (nI l), .int v] (mem I) (some (.int (laneV l v))) (mem I) := by
  refine Ev.only (EvX.enter rfl rfl rfl ?_)
  refine WP.run (pc' := if ¬ (nI l) = 0 then 9 else 4) (L' := [.int (nI l), .int v]) (st' := []) (I1 := I) 2 rfl ?_
  refine WP.br (fun h1 => ?_) (fun h1 => ?_)
  · have h1 : ¬ l = 0 := fun q => h1 (nI_eq_r q)
    refine WP.run (pc' := if ¬ (nI l) = (nI 1) then 19 else 14) (L' := [.int (nI l), .int v]) (st' := []) (I1 := I) 3 rfl ?_
    refine WP.br (fun h2 => ?_) (fun h2 => ?_)
    · have h2 : ¬ l = 1 := fun q => h2 (nI_eq_r q)
      refine WP.run (pc' := 20) (L' := [.int (nI l), .int v]) (st' := [.int v]) (I1 := I) 1 rfl ?_
      exact WP.ret rfl rfl (⟨by unfold laneV; first | rw [if_pos (by assumption)] | rw [if_neg (by assumption), if_pos (by assumption)] | rw [if_neg (by assumption), if_neg (by assumption)], rfl⟩)
    · have h2 : l = 1 := nI_eq_ (by omega) (by omega) (Decidable.byContradiction h2)
      refine WP.run (pc' := 20) (L' := [.int (nI l), .int v]) (st' := [.int v.toInt16.toInt32]) (I1 := I) 3 rfl ?_
      exact WP.ret rfl rfl (⟨by unfold laneV; first | rw [if_pos (by assumption)] | rw [if_neg (by assumption), if_pos (by assumption)] | rw [if_neg (by assumption), if_neg (by assumption)], rfl⟩)
  · have h1 : l = 0 := nI_eq_ (by omega) (by omega) (Decidable.byContradiction h1)
    refine WP.run (pc' := 20) (L' := [.int (nI l), .int v]) (st' := [.int v.toInt8.toInt32]) (I1 := I) 3 rfl ?_
    exact WP.ret rfl rfl (⟨by unfold laneV; first | rw [if_pos (by assumption)] | rw [if_neg (by assumption), if_pos (by assumption)] | rw [if_neg (by assumption), if_neg (by assumption)], rfl⟩)
theorem of_bool : ∀ a, a < 6 → ∀ b, b < 6 → a = 0 ∨ ofN a b = (Nat.beq b 0 || Nat.beq b a || (Nat.beq b 1 && Nat.ble a 3) || (Nat.beq b 4 && Nat.beq a 5)) := by decide +kernel
theorem of_dec (a : Nat) (ha : a < 6) (b : Nat) (hb : b < 6) (h1 : 1 ≤ a) : (b = 0 ∨ b = a ∨ (b = 1 ∧ a ≤ 3) ∨ (b = 4 ∧ a = 5)) ↔ ofN a b = true := by
  rcases of_bool a ha b hb with q | q
  · omega
  · rw [q]
    simp only [Bool.or_eq_true, Bool.and_eq_true, Nat.beq_eq, Nat.ble_eq]
    omega
set_option maxRecDepth 100000 in
theorem ms_isOf {d : Nat} {I : Pl} {a b : Nat} (ha : a < 6) (ha1 : 1 ≤ a) (hb : b < 6) : Ev (d + 1) 192 [.int (nI a), .int (nI b)] (mem I) (some (.int (b2i (ofN a b = true)))) (mem I) := by
  refine Ev.only (EvX.enter rfl rfl rfl ?_)
  refine WP.run (pc' := if (nI b) = 0 then 29 else 4) (L' := [.int (nI a), .int (nI b)]) (st' := []) (I1 := I) 2 rfl ?_
  refine WP.br (fun h1 => ?_) (fun h1 => ?_)
  · have h1 : b = 0 := nI_eq_ (by omega) (by omega) h1
    refine WP.run (pc' := 34) (L' := [.int (nI a), .int (nI b)]) (st' := [.int (nI 1)]) (I1 := I) 2 rfl ?_
    exact WP.ret rfl rfl (⟨b2i01 (b2iT (of_dec a ha b hb ha1 |>.mp (by omega))), rfl⟩)
  · have h1 : ¬ b = 0 := fun q => h1 (nI_eq_r q)
    refine WP.run (pc' := if (nI b) = (nI a) then 29 else 9) (L' := [.int (nI a), .int (nI b)]) (st' := []) (I1 := I) 3 rfl ?_
    refine WP.br (fun h2 => ?_) (fun h2 => ?_)
    · have h2 : b = a := nI_eq_ (by omega) (by omega) h2
      refine WP.run (pc' := 34) (L' := [.int (nI a), .int (nI b)]) (st' := [.int (nI 1)]) (I1 := I) 2 rfl ?_
      exact WP.ret rfl rfl (⟨b2i01 (b2iT (of_dec a ha b hb ha1 |>.mp (by omega))), rfl⟩)
    · have h2 : ¬ b = a := fun q => h2 (nI_eq_r q)
      refine WP.run (pc' := if ¬ (nI b) = (nI 1) then 19 else 14) (L' := [.int (nI a), .int (nI b)]) (st' := []) (I1 := I) 3 rfl ?_
      refine WP.br (fun h3 => ?_) (fun h3 => ?_)
      · have h3 : ¬ b = 1 := fun q => h3 (nI_eq_r q)
        refine WP.run (pc' := if ¬ (nI b) = (nI 4) then 33 else 24) (L' := [.int (nI a), .int (nI b)]) (st' := []) (I1 := I) 3 rfl ?_
        refine WP.br (fun h4 => ?_) (fun h4 => ?_)
        · have h4 : ¬ b = 4 := fun q => h4 (nI_eq_r q)
          refine WP.run (pc' := 34) (L' := [.int (nI a), .int (nI b)]) (st' := [.int (nI 0)]) (I1 := I) 1 rfl ?_
          exact WP.ret rfl rfl (⟨b2i01 (b2iF (fun q => by have q2 := (of_dec a ha b hb ha1).mpr q; omega)), rfl⟩)
        · have h4 : b = 4 := nI_eq_ (by omega) (by omega) (Decidable.byContradiction h4)
          refine WP.run (pc' := if ¬ (nI a) = (nI 5) then 33 else 29) (L' := [.int (nI a), .int (nI b)]) (st' := []) (I1 := I) 3 rfl ?_
          refine WP.br (fun h5 => ?_) (fun h5 => ?_)
          · have h5 : ¬ a = 5 := fun q => h5 (nI_eq_r q)
            refine WP.run (pc' := 34) (L' := [.int (nI a), .int (nI b)]) (st' := [.int (nI 0)]) (I1 := I) 1 rfl ?_
            exact WP.ret rfl rfl (⟨b2i01 (b2iF (fun q => by have q2 := (of_dec a ha b hb ha1).mpr q; omega)), rfl⟩)
          · have h5 : a = 5 := nI_eq_ (by omega) (by omega) (Decidable.byContradiction h5)
            refine WP.run (pc' := 34) (L' := [.int (nI a), .int (nI b)]) (st' := [.int (nI 1)]) (I1 := I) 2 rfl ?_
            exact WP.ret rfl rfl (⟨b2i01 (b2iT (of_dec a ha b hb ha1 |>.mp (by omega))), rfl⟩)
      · have h3 : b = 1 := nI_eq_ (by omega) (by omega) (Decidable.byContradiction h3)
        refine WP.run (pc' := if (nI a) ≤ (nI 3) then 29 else 19) (L' := [.int (nI a), .int (nI b)]) (st' := []) (I1 := I) 3 rfl ?_
        refine WP.br (fun h6 => ?_) (fun h6 => ?_)
        · have h6 : a ≤ 3 := nI_le_ (by omega) (by omega) h6
          refine WP.run (pc' := 34) (L' := [.int (nI a), .int (nI b)]) (st' := [.int (nI 1)]) (I1 := I) 2 rfl ?_
          exact WP.ret rfl rfl (⟨b2i01 (b2iT (of_dec a ha b hb ha1 |>.mp (by omega))), rfl⟩)
        · have h6 : ¬ a ≤ 3 := fun q => h6 (nI_le_r (by omega) q)
          refine WP.run (pc' := if ¬ (nI b) = (nI 4) then 33 else 24) (L' := [.int (nI a), .int (nI b)]) (st' := []) (I1 := I) 3 rfl ?_
          refine WP.br (fun h7 => ?_) (fun h7 => ?_)
          · have h7 : ¬ b = 4 := fun q => h7 (nI_eq_r q)
            refine WP.run (pc' := 34) (L' := [.int (nI a), .int (nI b)]) (st' := [.int (nI 0)]) (I1 := I) 1 rfl ?_
            exact WP.ret rfl rfl (⟨b2i01 (b2iF (fun q => by have q2 := (of_dec a ha b hb ha1).mpr q; omega)), rfl⟩)
          · have h7 : b = 4 := nI_eq_ (by omega) (by omega) (Decidable.byContradiction h7)
            refine WP.run (pc' := if ¬ (nI a) = (nI 5) then 33 else 29) (L' := [.int (nI a), .int (nI b)]) (st' := []) (I1 := I) 3 rfl ?_
            refine WP.br (fun h8 => ?_) (fun h8 => ?_)
            · have h8 : ¬ a = 5 := fun q => h8 (nI_eq_r q)
              refine WP.run (pc' := 34) (L' := [.int (nI a), .int (nI b)]) (st' := [.int (nI 0)]) (I1 := I) 1 rfl ?_
              exact WP.ret rfl rfl (⟨b2i01 (b2iF (fun q => by have q2 := (of_dec a ha b hb ha1).mpr q; omega)), rfl⟩)
            · have h8 : a = 5 := nI_eq_ (by omega) (by omega) (Decidable.byContradiction h8)
              refine WP.run (pc' := 34) (L' := [.int (nI a), .int (nI b)]) (st' := [.int (nI 1)]) (I1 := I) 2 rfl ?_
              exact WP.ret rfl rfl (⟨b2i01 (b2iT (of_dec a ha b hb ha1 |>.mp (by omega))), rfl⟩)
set_option maxRecDepth 100000 in
theorem ms_against {d : Nat} {I : Pl} {R : RS} {r : Nat} {i n : Int32} (hR : RowsM I R) (hr : r < 8) : Ev (d + 1) 132 [.ref 271, .int (nI r), .int i, .int n] (mem I) (some (.int (nI (agN R r i n)))) (mem I) := by
  refine Ev.only (EvX.enter rfl rfl rfl ?_)
  refine WP.run (pc' := 5) (L' := [.ref 271, .int (nI r), .int i, .int n]) (st' := [.int (nI r), .ref 274]) (I1 := I) 3 rfl ?_
  refine WP.iald rfl rfl rfl (by omega) (by decide) ?_
  by_cases hl_r : R.1 r = 3
  · refine WP.cg (st' := [.int (-1)]) rfl (congrArg (fun z : Int32 => (.int z :: [] : List Value)) (((hR.2 r (by omega)).2.1 hl_r))) rfl ?_
    refine WP.run (pc' := 42) (L' := [.ref 271, .int (nI r), .int i, .int n]) (st' := [.int (nI 1)]) (I1 := I) 3 rfl ?_
    exact WP.ret rfl rfl (⟨by (unfold agN; (repeat first | rw [if_pos (by first | assumption | omega | (refine inA_iff.mpr ?_; omega) | (intro q; have q2 := inA_iff.mp q; omega) | (intro q; omega) | (refine ⟨?_, ?_⟩ <;> rw [nI_int (by omega)] <;> omega) | (rw [nI_int (by omega)]; omega) | (intro q; rw [nI_int (by omega)] at q; omega) | (refine ⟨?_, ?_, ?_⟩ <;> omega) | (intro q; obtain ⟨q1, q2, q3⟩ := q; omega) | fail)] | rw [if_neg (by first | assumption | omega | (refine inA_iff.mpr ?_; omega) | (intro q; have q2 := inA_iff.mp q; omega) | (intro q; omega) | (refine ⟨?_, ?_⟩ <;> rw [nI_int (by omega)] <;> omega) | (rw [nI_int (by omega)]; omega) | (intro q; rw [nI_int (by omega)] at q; omega) | (refine ⟨?_, ?_, ?_⟩ <;> omega) | (intro q; obtain ⟨q1, q2, q3⟩ := q; omega) | fail)])) <;> rfl, rfl⟩)
  · obtain ⟨z1_r, z2_r, z3_r, z4_r⟩ := hR.size (r := r) (by omega) hl_r
    refine WP.cg (st' := [.int (nI (R.1 r))]) rfl (congrArg (fun z : Int32 => (.int z :: [] : List Value)) z3_r) rfl ?_
    refine WP.run (pc' := if (0 : Int32) ≤ (nI (R.1 r)) then 13 else 9) (L' := [.ref 271, .int (nI r), .int i, .int n]) (st' := []) (I1 := I) 1 rfl ?_
    refine WP.brT (nI_pos' (by omega)) ?_
    refine WP.run (pc' := 14) (L' := [.ref 271, .int (nI r), .int i, .int n]) (st' := [.int i]) (I1 := I) 1 rfl ?_
    refine WP.run (pc' := if i < 0 then 37 else 17) (L' := [.ref 271, .int (nI r), .int i, .int n]) (st' := []) (I1 := I) 1 rfl ?_
    refine WP.br (fun h1 => ?_) (fun h1 => ?_)
    · have h1 : i.toInt < 0 := (iLtZ).mp h1
      refine WP.run (pc' := 42) (L' := [.ref 271, .int (nI r), .int i, .int n]) (st' := [.int (nI 2)]) (I1 := I) 2 rfl ?_
      exact WP.ret rfl rfl (⟨by (unfold agN; (repeat first | rw [if_pos (by first | assumption | omega | (refine inA_iff.mpr ?_; omega) | (intro q; have q2 := inA_iff.mp q; omega) | (intro q; omega) | (refine ⟨?_, ?_⟩ <;> rw [nI_int (by omega)] <;> omega) | (rw [nI_int (by omega)]; omega) | (intro q; rw [nI_int (by omega)] at q; omega) | (refine ⟨?_, ?_, ?_⟩ <;> omega) | (intro q; obtain ⟨q1, q2, q3⟩ := q; omega) | fail)] | rw [if_neg (by first | assumption | omega | (refine inA_iff.mpr ?_; omega) | (intro q; have q2 := inA_iff.mp q; omega) | (intro q; omega) | (refine ⟨?_, ?_⟩ <;> rw [nI_int (by omega)] <;> omega) | (rw [nI_int (by omega)]; omega) | (intro q; rw [nI_int (by omega)] at q; omega) | (refine ⟨?_, ?_, ?_⟩ <;> omega) | (intro q; obtain ⟨q1, q2, q3⟩ := q; omega) | fail)])) <;> rfl, rfl⟩)
    · have h1 : ¬ (i.toInt < 0) := fun q => h1 ((iLtZ).mpr q)
      refine WP.run (pc' := 18) (L' := [.ref 271, .int (nI r), .int i, .int n]) (st' := [.int n]) (I1 := I) 1 rfl ?_
      refine WP.run (pc' := if n < 0 then 37 else 21) (L' := [.ref 271, .int (nI r), .int i, .int n]) (st' := []) (I1 := I) 1 rfl ?_
      refine WP.br (fun h2 => ?_) (fun h2 => ?_)
      · have h2 : n.toInt < 0 := (iLtZ).mp h2
        refine WP.run (pc' := 42) (L' := [.ref 271, .int (nI r), .int i, .int n]) (st' := [.int (nI 2)]) (I1 := I) 2 rfl ?_
        exact WP.ret rfl rfl (⟨by (unfold agN; (repeat first | rw [if_pos (by first | assumption | omega | (refine inA_iff.mpr ?_; omega) | (intro q; have q2 := inA_iff.mp q; omega) | (intro q; omega) | (refine ⟨?_, ?_⟩ <;> rw [nI_int (by omega)] <;> omega) | (rw [nI_int (by omega)]; omega) | (intro q; rw [nI_int (by omega)] at q; omega) | (refine ⟨?_, ?_, ?_⟩ <;> omega) | (intro q; obtain ⟨q1, q2, q3⟩ := q; omega) | fail)] | rw [if_neg (by first | assumption | omega | (refine inA_iff.mpr ?_; omega) | (intro q; have q2 := inA_iff.mp q; omega) | (intro q; omega) | (refine ⟨?_, ?_⟩ <;> rw [nI_int (by omega)] <;> omega) | (rw [nI_int (by omega)]; omega) | (intro q; rw [nI_int (by omega)] at q; omega) | (refine ⟨?_, ?_, ?_⟩ <;> omega) | (intro q; obtain ⟨q1, q2, q3⟩ := q; omega) | fail)])) <;> rfl, rfl⟩)
      · have h2 : ¬ (n.toInt < 0) := fun q => h2 ((iLtZ).mpr q)
        refine WP.run (pc' := 31) (L' := [.ref 271, .int (nI r), .int i, .int n]) (st' := [.int (nI r), .ref 275, .long (i.toInt64 + n.toInt64)]) (I1 := I) 8 rfl ?_
        refine WP.iald rfl rfl rfl (by omega) (by decide) ?_
        refine WP.cg (st' := [.int (nI (R.2.1 r)), .long (i.toInt64 + n.toInt64)]) rfl (congrArg (fun z : Int32 => (.int z :: [.long (i.toInt64 + n.toInt64)] : List Value)) ((RowsM.size hR (by omega) (by assumption)).1)) rfl ?_
        refine WP.run (pc' := 34) (L' := [.ref 271, .int (nI r), .int i, .int n]) (st' := [.int (lg_cmp (i.toInt64 + n.toInt64) ((nI (R.2.1 r)).toInt64))]) (I1 := I) 2 rfl ?_
        refine WP.run (pc' := if (lg_cmp (i.toInt64 + n.toInt64) ((nI (R.2.1 r)).toInt64)) ≤ 0 then 41 else 37) (L' := [.ref 271, .int (nI r), .int i, .int n]) (st' := []) (I1 := I) 1 rfl ?_
        refine WP.br (fun hs => ?_) (fun hs => ?_)
        · have hs := l_sumR.mp hs
          rw [nI_int (by omega)] at hs
          refine WP.run (pc' := 42) (L' := [.ref 271, .int (nI r), .int i, .int n]) (st' := [.int (nI 0)]) (I1 := I) 1 rfl ?_
          exact WP.ret rfl rfl (⟨by (unfold agN; (repeat first | rw [if_pos (by first | assumption | omega | (refine inA_iff.mpr ?_; omega) | (intro q; have q2 := inA_iff.mp q; omega) | (intro q; omega) | (refine ⟨?_, ?_⟩ <;> rw [nI_int (by omega)] <;> omega) | (rw [nI_int (by omega)]; omega) | (intro q; rw [nI_int (by omega)] at q; omega) | (refine ⟨?_, ?_, ?_⟩ <;> omega) | (intro q; obtain ⟨q1, q2, q3⟩ := q; omega) | fail)] | rw [if_neg (by first | assumption | omega | (refine inA_iff.mpr ?_; omega) | (intro q; have q2 := inA_iff.mp q; omega) | (intro q; omega) | (refine ⟨?_, ?_⟩ <;> rw [nI_int (by omega)] <;> omega) | (rw [nI_int (by omega)]; omega) | (intro q; rw [nI_int (by omega)] at q; omega) | (refine ⟨?_, ?_, ?_⟩ <;> omega) | (intro q; obtain ⟨q1, q2, q3⟩ := q; omega) | fail)])) <;> rfl, rfl⟩)
        · have hs : ¬ _ := fun q => hs (l_sumR.mpr q)
          rw [nI_int (by omega)] at hs
          refine WP.run (pc' := 42) (L' := [.ref 271, .int (nI r), .int i, .int n]) (st' := [.int (nI 2)]) (I1 := I) 2 rfl ?_
          exact WP.ret rfl rfl (⟨by (unfold agN; (repeat first | rw [if_pos (by first | assumption | omega | (refine inA_iff.mpr ?_; omega) | (intro q; have q2 := inA_iff.mp q; omega) | (intro q; omega) | (refine ⟨?_, ?_⟩ <;> rw [nI_int (by omega)] <;> omega) | (rw [nI_int (by omega)]; omega) | (intro q; rw [nI_int (by omega)] at q; omega) | (refine ⟨?_, ?_, ?_⟩ <;> omega) | (intro q; obtain ⟨q1, q2, q3⟩ := q; omega) | fail)] | rw [if_neg (by first | assumption | omega | (refine inA_iff.mpr ?_; omega) | (intro q; have q2 := inA_iff.mp q; omega) | (intro q; omega) | (refine ⟨?_, ?_⟩ <;> rw [nI_int (by omega)] <;> omega) | (rw [nI_int (by omega)]; omega) | (intro q; rw [nI_int (by omega)] at q; omega) | (refine ⟨?_, ?_, ?_⟩ <;> omega) | (intro q; obtain ⟨q1, q2, q3⟩ := q; omega) | fail)])) <;> rfl, rfl⟩)
set_option maxRecDepth 100000 in
theorem lm_row {d : Nat} {I : Pl} {R : RS} {j m r : Nat} (hR : RowsM I R) (hj : j < 8) (hm : m < 3) (hr : r < 41) : ∀ k, k ≤ 40 → WP (d + 2) (130, 7, (some .int), sc0) 55 [.ref 271, .int (nI j), .int (nI m), .int (nI r), .int (nI k)] [] (zmN (upN (upN I 274 j (nI m)) 275 j (nI r)) j k) (fun v K => v = some (.int (nRow R (nI j) (nI m) (nI r)).1) ∧ RowsM K (nRow R (nI j) (nI m) (nI r)).2 ∧ Only I K rmP) := by
  refine loopUp (fun k hk ih => ?_)
  refine WP.run (pc' := if (nI 40) ≤ (nI k) then 81 else 62) (L' := [.ref 271, .int (nI j), .int (nI m), .int (nI r), .int (nI k)]) (st' := []) (I1 := (zmN (upN (upN I 274 j (nI m)) 275 j (nI r)) j k)) 3 rfl ?_
  refine WP.br (fun h1 => ?_) (fun h1 => ?_)
  · have h1 : 40 ≤ k := nI_le_ (by omega) (by omega) h1
    rw [show k = 40 by omega]
    have c1 : inA (nI j) 8 := (inA_nI (by omega)).mpr hj
    have c2 : inA (nI m) 3 := (inA_nI (by omega)).mpr hm
    refine WP.cg (L' := [.ref 271, .int (nI j), .int (nI m), .int (nI r), .int (nI 40)]) rfl rfl rfl ?_
    refine WP.run (pc' := 83) (L' := [.ref 271, .int (nI j), .int (nI m), .int (nI r), .int (nI 40)]) (st' := [.int (nI r), .ref 271]) (I1 := (zmN (upN (upN I 274 j (nI m)) 275 j (nI r)) j 40)) 2 rfl ?_
    refine WP.callV (rest := []) rfl rfl (ms_well (d := d + 1) (I := (zmN (upN (upN I 274 j (nI m)) 275 j (nI r)) j 40)) (x := (nI r))) ?_
    exact WP.ret rfl rfl (by
          have e : nRow R (nI j) (nI m) (nI r) = ((nI r), stR (makeR R j m r) (nI 0)) := by (unfold nRow; (repeat rw [nOf_nI (by omega)]); (repeat first | rw [if_pos (by first | assumption | omega | (refine inA_iff.mpr ?_; omega) | (intro q; have q2 := inA_iff.mp q; omega) | (intro q; omega) | (refine ⟨?_, ?_⟩ <;> rw [nI_int (by omega)] <;> omega) | (rw [nI_int (by omega)]; omega) | (intro q; rw [nI_int (by omega)] at q; omega) | (refine ⟨?_, ?_, ?_⟩ <;> omega) | (intro q; obtain ⟨q1, q2, q3⟩ := q; omega) | fail)] | rw [if_neg (by first | assumption | omega | (refine inA_iff.mpr ?_; omega) | (intro q; have q2 := inA_iff.mp q; omega) | (intro q; omega) | (refine ⟨?_, ?_⟩ <;> rw [nI_int (by omega)] <;> omega) | (rw [nI_int (by omega)]; omega) | (intro q; rw [nI_int (by omega)] at q; omega) | (refine ⟨?_, ?_, ?_⟩ <;> omega) | (intro q; obtain ⟨q1, q2, q3⟩ := q; omega) | fail)])) <;> rfl
          rw [e]
          exact ⟨rfl, (RowsM.stat (RowsM.make hR (by omega) (by omega) (by omega))), (Only.up zmN_only (Or.inl ⟨rfl, rfl⟩))⟩)
  · have h1 : ¬ 40 ≤ k := fun q => h1 (nI_le_r (by omega) q)
    refine WP.run (pc' := 70) (L' := [.ref 271, .int (nI j), .int (nI m), .int (nI r), .int (nI k)]) (st' := [.int ((nI 40) * (nI j)), .ref 276]) (I1 := (zmN (upN (upN I 274 j (nI m)) 275 j (nI r)) j k)) 5 rfl ?_
    refine WP.cg (st' := [.int (nI (40 * j)), .ref 276]) rfl (congrArg (fun z : Int32 => (.int z :: [.ref 276] : List Value)) (pk_mul 40 j)) rfl ?_
    refine WP.run (pc' := 73) (L' := [.ref 271, .int (nI j), .int (nI m), .int (nI r), .int (nI k)]) (st' := [.int ((nI (40 * j)) + (nI k)), .ref 276]) (I1 := (zmN (upN (upN I 274 j (nI m)) 275 j (nI r)) j k)) 2 rfl ?_
    refine WP.cg (st' := [.int (nI ((40 * j) + k)), .ref 276]) rfl (congrArg (fun z : Int32 => (.int z :: [.ref 276] : List Value)) (nI_add (40 * j) k)) rfl ?_
    refine WP.run (pc' := 74) (L' := [.ref 271, .int (nI j), .int (nI m), .int (nI r), .int (nI k)]) (st' := [.int (nI 0), .int (nI ((40 * j) + k)), .ref 276]) (I1 := (zmN (upN (upN I 274 j (nI m)) 275 j (nI r)) j k)) 1 rfl ?_
    refine WP.iast rfl rfl rfl (by omega) (by decide) ?_
    refine WP.run (pc' := 78) (L' := [.ref 271, .int (nI j), .int (nI m), .int (nI r), .int ((nI k) + nI 1)]) (st' := []) (I1 := (upN (zmN (upN (upN I 274 j (nI m)) 275 j (nI r)) j k) 276 ((40 * j) + k) (nI 0))) 1 rfl ?_
    refine WP.cg (L' := [.ref 271, .int (nI j), .int (nI m), .int (nI r), .int (nI (k + 1))]) (congrArg (fun z : Int32 => ([.ref 271, .int (nI j), .int (nI m), .int (nI r), .int z] : List Value)) (nI_add k 1)) rfl rfl ?_
    refine WP.run (pc' := 55) (L' := [.ref 271, .int (nI j), .int (nI m), .int (nI r), .int (nI (k + 1))]) (st' := []) (I1 := (upN (zmN (upN (upN I 274 j (nI m)) 275 j (nI r)) j k) 276 ((40 * j) + k) (nI 0))) 1 rfl ?_
    refine WP.cg (L' := [.ref 271, .int (nI j), .int (nI m), .int (nI r), .int (nI (k + 1))]) rfl rfl rfl (ih (by omega))
set_option maxRecDepth 100000 in
theorem ms_row {d : Nat} {I : Pl} {R : RS} {x l n : Int32} (hR : RowsM I R) : EvX (d + 3) 130 [.ref 271, .int x, .int l, .int n] I (fun v K => v = some (.int (nRow R x l n).1) ∧ RowsM K (nRow R x l n).2 ∧ Only I K rmP) := by
  refine EvX.enter rfl rfl rfl ?_
  refine WP.run (pc' := 1) (L' := [.ref 271, .int x, .int l, .int n, UU]) (st' := [.int x]) (I1 := I) 1 rfl ?_
  refine WP.callB (rest := []) rfl rfl (ms_isRow (d := d) (x := x)) (fun h1 => ?_) (fun h1 => ?_)
  · refine WP.run (pc' := 7) (L' := [.ref 271, .int x, .int l, .int n, UU]) (st' := []) (I1 := I) 1 rfl ?_
    have hx_j : inA x 8 := (by assumption)
    obtain ⟨j, hj, rfl⟩ := inA_of hx_j (by omega)
    refine WP.run (pc' := 13) (L' := [.ref 271, .int (nI j), .int l, .int n, UU]) (st' := [.long (2 : Int64), .long (0 : Int64), .long l.toInt64]) (I1 := I) 4 rfl ?_
    refine WP.callB (rest := []) rfl rfl (sp_inA (d := d + 1) (x := l) (n := 3) (hi := (2 : Int64)) rfl) (fun h2 => ?_) (fun h2 => ?_)
    · refine WP.run (pc' := if n ≤ (nI 40) then 28 else 25) (L' := [.ref 271, .int (nI j), .int l, .int n, UU]) (st' := []) (I1 := I) 4 rfl ?_
      refine WP.br (fun h3 => ?_) (fun h3 => ?_)
      · have h3 : n.toInt ≤ 40 := (iLeL (n := 40) (by omega)).mp h3
        have hx_m : inA l 3 := (by assumption)
        obtain ⟨m, hm, rfl⟩ := inA_of hx_m (by omega)
        refine WP.run (pc' := if 0 ≤ n then 38 else 32) (L' := [.ref 271, .int (nI j), .int (nI m), .int n, UU]) (st' := []) (I1 := I) 2 rfl ?_
        refine WP.br (fun h4 => ?_) (fun h4 => ?_)
        · have h4 : 0 ≤ n.toInt := (iGeZ).mp h4
          have hx_r : inA n 41 := (by refine inA_iff.mpr ?_; omega)
          obtain ⟨r, hr, rfl⟩ := inA_of hx_r (by omega)
          rw [nI_int (by omega)] at *
          refine WP.run (pc' := 44) (L' := [.ref 271, .int (nI j), .int (nI m), .int (nI r), UU]) (st' := [.int (nI m), .int (nI j), .ref 274]) (I1 := I) 4 rfl ?_
          refine WP.iast rfl rfl rfl (by omega) (by decide) ?_
          refine WP.run (pc' := 51) (L' := [.ref 271, .int (nI j), .int (nI m), .int (nI r), UU]) (st' := [.int (nI r), .int (nI j), .ref 275]) (I1 := (upN I 274 j (nI m))) 4 rfl ?_
          refine WP.iast rfl rfl rfl (by omega) (by decide) ?_
          refine WP.run (pc' := 55) (L' := [.ref 271, .int (nI j), .int (nI m), .int (nI r), .int (nI 0)]) (st' := []) (I1 := (upN (upN I 274 j (nI m)) 275 j (nI r))) 2 rfl ?_
          exact lm_row hR hj hm hr 0 (Nat.zero_le _)
        · have h4 : ¬ (0 ≤ n.toInt) := fun q => h4 ((iGeZ).mpr q)
          refine WP.run (pc' := 34) (L' := [.ref 271, .int (nI j), .int (nI m), .int n, UU]) (st' := [.int (nI 4), .ref 271]) (I1 := I) 2 rfl ?_
          refine WP.callV (rest := []) rfl rfl (ms_found (d := d + 1) (I := I) (x := 4)) ?_
          exact WP.ret rfl rfl (by
                      have e : nRow R (nI j) (nI m) n = ((-1000010 - nI 4), stR R (nI 4)) := by (unfold nRow; (repeat rw [nOf_nI (by omega)]); (repeat first | rw [if_pos (by first | assumption | omega | (refine inA_iff.mpr ?_; omega) | (intro q; have q2 := inA_iff.mp q; omega) | (intro q; omega) | (refine ⟨?_, ?_⟩ <;> rw [nI_int (by omega)] <;> omega) | (rw [nI_int (by omega)]; omega) | (intro q; rw [nI_int (by omega)] at q; omega) | (refine ⟨?_, ?_, ?_⟩ <;> omega) | (intro q; obtain ⟨q1, q2, q3⟩ := q; omega) | fail)] | rw [if_neg (by first | assumption | omega | (refine inA_iff.mpr ?_; omega) | (intro q; have q2 := inA_iff.mp q; omega) | (intro q; omega) | (refine ⟨?_, ?_⟩ <;> rw [nI_int (by omega)] <;> omega) | (rw [nI_int (by omega)]; omega) | (intro q; rw [nI_int (by omega)] at q; omega) | (refine ⟨?_, ?_, ?_⟩ <;> omega) | (intro q; obtain ⟨q1, q2, q3⟩ := q; omega) | fail)])) <;> rfl
                      rw [e]
                      exact ⟨rfl, (RowsM.stat hR), (Only.up Only.rfl_ (Or.inl ⟨rfl, rfl⟩))⟩)
      · have h3 : ¬ (n.toInt ≤ 40) := fun q => h3 ((iLeL (n := 40) (by omega)).mpr q)
        refine WP.run (pc' := 27) (L' := [.ref 271, .int (nI j), .int l, .int n, UU]) (st' := [.int (-1000001)]) (I1 := I) 1 rfl ?_
        exact WP.ret rfl rfl (by
                  have e : nRow R (nI j) l n = ((-1000001), R) := by (unfold nRow; (repeat rw [nOf_nI (by omega)]); (repeat first | rw [if_pos (by first | assumption | omega | (refine inA_iff.mpr ?_; omega) | (intro q; have q2 := inA_iff.mp q; omega) | (intro q; omega) | (refine ⟨?_, ?_⟩ <;> rw [nI_int (by omega)] <;> omega) | (rw [nI_int (by omega)]; omega) | (intro q; rw [nI_int (by omega)] at q; omega) | (refine ⟨?_, ?_, ?_⟩ <;> omega) | (intro q; obtain ⟨q1, q2, q3⟩ := q; omega) | fail)] | rw [if_neg (by first | assumption | omega | (refine inA_iff.mpr ?_; omega) | (intro q; have q2 := inA_iff.mp q; omega) | (intro q; omega) | (refine ⟨?_, ?_⟩ <;> rw [nI_int (by omega)] <;> omega) | (rw [nI_int (by omega)]; omega) | (intro q; rw [nI_int (by omega)] at q; omega) | (refine ⟨?_, ?_, ?_⟩ <;> omega) | (intro q; obtain ⟨q1, q2, q3⟩ := q; omega) | fail)])) <;> rfl
                  rw [e]
                  exact ⟨rfl, hR, Only.rfl_⟩)
    · refine WP.run (pc' := 27) (L' := [.ref 271, .int (nI j), .int l, .int n, UU]) (st' := [.int (-1000001)]) (I1 := I) 2 rfl ?_
      exact WP.ret rfl rfl (by
              have e : nRow R (nI j) l n = ((-1000001), R) := by (unfold nRow; (repeat rw [nOf_nI (by omega)]); (repeat first | rw [if_pos (by first | assumption | omega | (refine inA_iff.mpr ?_; omega) | (intro q; have q2 := inA_iff.mp q; omega) | (intro q; omega) | (refine ⟨?_, ?_⟩ <;> rw [nI_int (by omega)] <;> omega) | (rw [nI_int (by omega)]; omega) | (intro q; rw [nI_int (by omega)] at q; omega) | (refine ⟨?_, ?_, ?_⟩ <;> omega) | (intro q; obtain ⟨q1, q2, q3⟩ := q; omega) | fail)] | rw [if_neg (by first | assumption | omega | (refine inA_iff.mpr ?_; omega) | (intro q; have q2 := inA_iff.mp q; omega) | (intro q; omega) | (refine ⟨?_, ?_⟩ <;> rw [nI_int (by omega)] <;> omega) | (rw [nI_int (by omega)]; omega) | (intro q; rw [nI_int (by omega)] at q; omega) | (refine ⟨?_, ?_, ?_⟩ <;> omega) | (intro q; obtain ⟨q1, q2, q3⟩ := q; omega) | fail)])) <;> rfl
              rw [e]
              exact ⟨rfl, hR, Only.rfl_⟩)
  · refine WP.run (pc' := 27) (L' := [.ref 271, .int x, .int l, .int n, UU]) (st' := [.int (-1000001)]) (I1 := I) 2 rfl ?_
    exact WP.ret rfl rfl (by
          have e : nRow R x l n = ((-1000001), R) := by (unfold nRow; (repeat rw [nOf_nI (by omega)]); (repeat first | rw [if_pos (by first | assumption | omega | (refine inA_iff.mpr ?_; omega) | (intro q; have q2 := inA_iff.mp q; omega) | (intro q; omega) | (refine ⟨?_, ?_⟩ <;> rw [nI_int (by omega)] <;> omega) | (rw [nI_int (by omega)]; omega) | (intro q; rw [nI_int (by omega)] at q; omega) | (refine ⟨?_, ?_, ?_⟩ <;> omega) | (intro q; obtain ⟨q1, q2, q3⟩ := q; omega) | fail)] | rw [if_neg (by first | assumption | omega | (refine inA_iff.mpr ?_; omega) | (intro q; have q2 := inA_iff.mp q; omega) | (intro q; omega) | (refine ⟨?_, ?_⟩ <;> rw [nI_int (by omega)] <;> omega) | (rw [nI_int (by omega)]; omega) | (intro q; rw [nI_int (by omega)] at q; omega) | (refine ⟨?_, ?_, ?_⟩ <;> omega) | (intro q; obtain ⟨q1, q2, q3⟩ := q; omega) | fail)])) <;> rfl
          rw [e]
          exact ⟨rfl, hR, Only.rfl_⟩)
set_option maxRecDepth 100000 in
theorem ms_set {d : Nat} {I : Pl} {R : RS} {x i y : Int32} (hR : RowsM I R) : EvX (d + 3) 133 [.ref 271, .int x, .int i, .int y] I (fun v K => v = some (.int (nSet R x i y).1) ∧ RowsM K (nSet R x i y).2 ∧ Only I K rmP) := by
  refine EvX.enter rfl rfl rfl ?_
  refine WP.run (pc' := 1) (L' := [.ref 271, .int x, .int i, .int y, UU]) (st' := [.int x]) (I1 := I) 1 rfl ?_
  refine WP.callB (rest := []) rfl rfl (ms_isRow (d := d) (x := x)) (fun h1 => ?_) (fun h1 => ?_)
  · refine WP.run (pc' := 10) (L' := [.ref 271, .int x, .int i, .int y, UU]) (st' := []) (I1 := I) 1 rfl ?_
    have hx_j : inA x 8 := (by assumption)
    obtain ⟨j, hj, rfl⟩ := inA_of hx_j (by omega)
    refine WP.run (pc' := 14) (L' := [.ref 271, .int (nI j), .int i, .int y, UU]) (st' := [.int (nI 1), .int i, .int (nI j), .ref 271]) (I1 := I) 4 rfl ?_
    refine WP.callV (rest := []) rfl rfl (ms_against (d := d + 1) (r := j) (i := i) (n := (nI 1)) hR (by omega)) ?_
    refine WP.run (pc' := 19) (L' := [.ref 271, .int (nI j), .int i, .int y, .int (nI (agN R j i (nI 1)))]) (st' := []) (I1 := I) 1 rfl ?_
    by_cases hl_j : R.1 j = 3
    · refine WP.cg (L' := [.ref 271, .int (nI j), .int i, .int y, .int (nI 1)]) (st' := []) (by rw [show agN R j i (nI 1) = 1 from if_pos hl_j]) (by rfl) rfl ?_
      refine WP.run (pc' := 27) (L' := [.ref 271, .int (nI j), .int i, .int y, .int (nI 1)]) (st' := [.int (nI 1), .ref 271]) (I1 := I) 4 rfl ?_
      refine WP.callV (rest := []) rfl rfl (ms_found (d := d + 1) (I := I) (x := 1)) ?_
      exact WP.ret rfl rfl (by
              have e : nSet R (nI j) i y = ((-1000010 - nI 1), stR R (nI 1)) := by (unfold nSet; (repeat rw [nOf_nI (by omega)]); (repeat first | rw [if_pos (by first | assumption | omega | (refine inA_iff.mpr ?_; omega) | (intro q; have q2 := inA_iff.mp q; omega) | (intro q; omega) | (refine ⟨?_, ?_⟩ <;> rw [nI_int (by omega)] <;> omega) | (rw [nI_int (by omega)]; omega) | (intro q; rw [nI_int (by omega)] at q; omega) | (refine ⟨?_, ?_, ?_⟩ <;> omega) | (intro q; obtain ⟨q1, q2, q3⟩ := q; omega) | fail)] | rw [if_neg (by first | assumption | omega | (refine inA_iff.mpr ?_; omega) | (intro q; have q2 := inA_iff.mp q; omega) | (intro q; omega) | (refine ⟨?_, ?_⟩ <;> rw [nI_int (by omega)] <;> omega) | (rw [nI_int (by omega)]; omega) | (intro q; rw [nI_int (by omega)] at q; omega) | (refine ⟨?_, ?_, ?_⟩ <;> omega) | (intro q; obtain ⟨q1, q2, q3⟩ := q; omega) | fail)])) <;> rfl
              rw [e]
              exact ⟨rfl, (RowsM.stat hR), (Only.up Only.rfl_ (Or.inl ⟨rfl, rfl⟩))⟩)
    · obtain ⟨z1_j, z2_j, z3_j, z4_j⟩ := hR.size (r := j) (by omega) hl_j
      by_cases hp2 : plP i (nI 1) (R.2.1 j)
      · refine WP.cg (L' := [.ref 271, .int (nI j), .int i, .int y, .int (nI 0)]) (st' := []) (by rw [show agN R j i (nI 1) = 0 from (if_neg (by assumption)).trans (if_pos hp2)]) (by rfl) rfl ?_
        refine WP.run (pc' := 31) (L' := [.ref 271, .int (nI j), .int i, .int y, .int (nI 0)]) (st' := []) (I1 := I) 2 rfl ?_
        have hx_m : inA i 40 := (by refine inA_iff.mpr ?_; have hp : plP i (nI 1) (R.2.1 j) := (by assumption); obtain ⟨p1, p2, p3⟩ := hp; rw [nI_int (by omega)] at p3; omega)
        obtain ⟨m, hm, rfl⟩ := inA_of hx_m (by omega)
        refine WP.run (pc' := 39) (L' := [.ref 271, .int (nI j), .int (nI m), .int y, .int (nI 0)]) (st' := [.int ((nI 40) * (nI j)), .ref 276]) (I1 := I) 5 rfl ?_
        refine WP.cg (st' := [.int (nI (40 * j)), .ref 276]) rfl (congrArg (fun z : Int32 => (.int z :: [.ref 276] : List Value)) (pk_mul 40 j)) rfl ?_
        refine WP.run (pc' := 41) (L' := [.ref 271, .int (nI j), .int (nI m), .int y, .int (nI 0)]) (st' := [.int ((nI (40 * j)) + (nI m)), .ref 276]) (I1 := I) 2 rfl ?_
        refine WP.cg (st' := [.int (nI ((40 * j) + m)), .ref 276]) rfl (congrArg (fun z : Int32 => (.int z :: [.ref 276] : List Value)) (nI_add (40 * j) m)) rfl ?_
        refine WP.run (pc' := 46) (L' := [.ref 271, .int (nI j), .int (nI m), .int y, .int (nI 0)]) (st' := [.int (nI j), .ref 274, .int (nI ((40 * j) + m)), .ref 276]) (I1 := I) 3 rfl ?_
        refine WP.iald rfl rfl rfl (by omega) (by decide) ?_
        refine WP.cg (st' := [.int (nI (R.1 j)), .int (nI ((40 * j) + m)), .ref 276]) rfl (congrArg (fun z : Int32 => (.int z :: [.int (nI ((40 * j) + m)), .ref 276] : List Value)) (z3_j)) rfl ?_
        refine WP.run (pc' := 48) (L' := [.ref 271, .int (nI j), .int (nI m), .int y, .int (nI 0)]) (st' := [.int y, .int (nI (R.1 j)), .int (nI ((40 * j) + m)), .ref 276]) (I1 := I) 1 rfl ?_
        refine WP.callV (rest := [.int (nI ((40 * j) + m)), .ref 276]) rfl rfl (ms_cutTo (d := d + 1) (l := R.1 j) (v := y) (by omega)) ?_
        refine WP.iast rfl rfl rfl (by omega) (by decide) ?_
        refine WP.run (pc' := 61) (L' := [.ref 271, .int (nI j), .int (nI m), .int y, .int (nI 0)]) (st' := [.int ((nI 40) * (nI j)), .ref 276, .ref 271]) (I1 := (upN I 276 ((40 * j) + m) (laneV (R.1 j) y))) 6 rfl ?_
        refine WP.cg (st' := [.int (nI (40 * j)), .ref 276, .ref 271]) rfl (congrArg (fun z : Int32 => (.int z :: [.ref 276, .ref 271] : List Value)) (pk_mul 40 j)) rfl ?_
        refine WP.run (pc' := 63) (L' := [.ref 271, .int (nI j), .int (nI m), .int y, .int (nI 0)]) (st' := [.int ((nI (40 * j)) + (nI m)), .ref 276, .ref 271]) (I1 := (upN I 276 ((40 * j) + m) (laneV (R.1 j) y))) 2 rfl ?_
        refine WP.cg (st' := [.int (nI ((40 * j) + m)), .ref 276, .ref 271]) rfl (congrArg (fun z : Int32 => (.int z :: [.ref 276, .ref 271] : List Value)) (nI_add (40 * j) m)) rfl ?_
        refine WP.iald rfl rfl rfl (by omega) (by decide) ?_
        refine WP.cg (st' := [.int (laneV (R.1 j) y), .ref 271]) rfl (congrArg (fun z : Int32 => ([.int z, .ref 271] : List Value)) upN_s) rfl ?_
        refine WP.callV (rest := []) rfl rfl (ms_well (d := d + 1) (I := (upN I 276 ((40 * j) + m) (laneV (R.1 j) y))) (x := (laneV (R.1 j) y))) ?_
        exact WP.ret rfl rfl (by
                  have e : nSet R (nI j) (nI m) y = ((laneV (R.1 j) y), stR (putR R j m (laneV (R.1 j) y)) (nI 0)) := by (unfold nSet; (repeat rw [nOf_nI (by omega)]); (repeat first | rw [if_pos (by first | assumption | omega | (refine inA_iff.mpr ?_; omega) | (intro q; have q2 := inA_iff.mp q; omega) | (intro q; omega) | (refine ⟨?_, ?_⟩ <;> rw [nI_int (by omega)] <;> omega) | (rw [nI_int (by omega)]; omega) | (intro q; rw [nI_int (by omega)] at q; omega) | (refine ⟨?_, ?_, ?_⟩ <;> omega) | (intro q; obtain ⟨q1, q2, q3⟩ := q; omega) | fail)] | rw [if_neg (by first | assumption | omega | (refine inA_iff.mpr ?_; omega) | (intro q; have q2 := inA_iff.mp q; omega) | (intro q; omega) | (refine ⟨?_, ?_⟩ <;> rw [nI_int (by omega)] <;> omega) | (rw [nI_int (by omega)]; omega) | (intro q; rw [nI_int (by omega)] at q; omega) | (refine ⟨?_, ?_, ?_⟩ <;> omega) | (intro q; obtain ⟨q1, q2, q3⟩ := q; omega) | fail)])) <;> rfl
                  rw [e]
                  exact ⟨rfl, (RowsM.stat (RowsM.put hR (by omega) (by omega))), (Only.up (Only.up Only.rfl_ (Or.inr ⟨by decide, by decide⟩)) (Or.inl ⟨rfl, rfl⟩))⟩)
      · refine WP.cg (L' := [.ref 271, .int (nI j), .int i, .int y, .int (nI 2)]) (st' := []) (by rw [show agN R j i (nI 1) = 2 from (if_neg (by assumption)).trans (if_neg hp2)]) (by rfl) rfl ?_
        refine WP.run (pc' := 27) (L' := [.ref 271, .int (nI j), .int i, .int y, .int (nI 2)]) (st' := [.int (nI 2), .ref 271]) (I1 := I) 4 rfl ?_
        refine WP.callV (rest := []) rfl rfl (ms_found (d := d + 1) (I := I) (x := 2)) ?_
        exact WP.ret rfl rfl (by
                  have e : nSet R (nI j) i y = ((-1000010 - nI 2), stR R (nI 2)) := by (unfold nSet; (repeat rw [nOf_nI (by omega)]); (repeat first | rw [if_pos (by first | assumption | omega | (refine inA_iff.mpr ?_; omega) | (intro q; have q2 := inA_iff.mp q; omega) | (intro q; omega) | (refine ⟨?_, ?_⟩ <;> rw [nI_int (by omega)] <;> omega) | (rw [nI_int (by omega)]; omega) | (intro q; rw [nI_int (by omega)] at q; omega) | (refine ⟨?_, ?_, ?_⟩ <;> omega) | (intro q; obtain ⟨q1, q2, q3⟩ := q; omega) | fail)] | rw [if_neg (by first | assumption | omega | (refine inA_iff.mpr ?_; omega) | (intro q; have q2 := inA_iff.mp q; omega) | (intro q; omega) | (refine ⟨?_, ?_⟩ <;> rw [nI_int (by omega)] <;> omega) | (rw [nI_int (by omega)]; omega) | (intro q; rw [nI_int (by omega)] at q; omega) | (refine ⟨?_, ?_, ?_⟩ <;> omega) | (intro q; obtain ⟨q1, q2, q3⟩ := q; omega) | fail)])) <;> rfl
                  rw [e]
                  exact ⟨rfl, (RowsM.stat hR), (Only.up Only.rfl_ (Or.inl ⟨rfl, rfl⟩))⟩)
  · refine WP.run (pc' := 9) (L' := [.ref 271, .int x, .int i, .int y, UU]) (st' := [.int (-1000001)]) (I1 := I) 2 rfl ?_
    exact WP.ret rfl rfl (by
          have e : nSet R x i y = ((-1000001), R) := by (unfold nSet; (repeat rw [nOf_nI (by omega)]); (repeat first | rw [if_pos (by first | assumption | omega | (refine inA_iff.mpr ?_; omega) | (intro q; have q2 := inA_iff.mp q; omega) | (intro q; omega) | (refine ⟨?_, ?_⟩ <;> rw [nI_int (by omega)] <;> omega) | (rw [nI_int (by omega)]; omega) | (intro q; rw [nI_int (by omega)] at q; omega) | (refine ⟨?_, ?_, ?_⟩ <;> omega) | (intro q; obtain ⟨q1, q2, q3⟩ := q; omega) | fail)] | rw [if_neg (by first | assumption | omega | (refine inA_iff.mpr ?_; omega) | (intro q; have q2 := inA_iff.mp q; omega) | (intro q; omega) | (refine ⟨?_, ?_⟩ <;> rw [nI_int (by omega)] <;> omega) | (rw [nI_int (by omega)]; omega) | (intro q; rw [nI_int (by omega)] at q; omega) | (refine ⟨?_, ?_, ?_⟩ <;> omega) | (intro q; obtain ⟨q1, q2, q3⟩ := q; omega) | fail)])) <;> rfl
          rw [e]
          exact ⟨rfl, hR, Only.rfl_⟩)
set_option maxRecDepth 100000 in
theorem ms_drop {d : Nat} {I : Pl} {R : RS} {x : Int32} (hR : RowsM I R) : EvX (d + 3) 135 [.ref 271, .int x] I (fun v K => v = some (.int (nDrop R x).1) ∧ RowsM K (nDrop R x).2 ∧ Only I K rmP) := by
  refine EvX.enter rfl rfl rfl ?_
  refine WP.run (pc' := 1) (L' := [.ref 271, .int x]) (st' := [.int x]) (I1 := I) 1 rfl ?_
  refine WP.callB (rest := []) rfl rfl (ms_isRow (d := d) (x := x)) (fun h1 => ?_) (fun h1 => ?_)
  · refine WP.run (pc' := 10) (L' := [.ref 271, .int x]) (st' := []) (I1 := I) 1 rfl ?_
    have hx_j : inA x 8 := (by assumption)
    obtain ⟨j, hj, rfl⟩ := inA_of hx_j (by omega)
    refine WP.run (pc' := 15) (L' := [.ref 271, .int (nI j)]) (st' := [.int (nI j), .ref 274]) (I1 := I) 3 rfl ?_
    refine WP.iald rfl rfl rfl (by omega) (by decide) ?_
    by_cases hl_j : R.1 j = 3
    · refine WP.cg (st' := [.int (-1)]) rfl (congrArg (fun z : Int32 => (.int z :: [] : List Value)) (((hR.2 j (by omega)).2.1 hl_j))) rfl ?_
      refine WP.run (pc' := 21) (L' := [.ref 271, .int (nI j)]) (st' := [.int (nI 1), .ref 271]) (I1 := I) 3 rfl ?_
      refine WP.callV (rest := []) rfl rfl (ms_found (d := d + 1) (I := I) (x := 1)) ?_
      exact WP.ret rfl rfl (by
              have e : nDrop R (nI j) = ((-1000010 - nI 1), stR R (nI 1)) := by (unfold nDrop; (repeat rw [nOf_nI (by omega)]); (repeat first | rw [if_pos (by first | assumption | omega | (refine inA_iff.mpr ?_; omega) | (intro q; have q2 := inA_iff.mp q; omega) | (intro q; omega) | (refine ⟨?_, ?_⟩ <;> rw [nI_int (by omega)] <;> omega) | (rw [nI_int (by omega)]; omega) | (intro q; rw [nI_int (by omega)] at q; omega) | (refine ⟨?_, ?_, ?_⟩ <;> omega) | (intro q; obtain ⟨q1, q2, q3⟩ := q; omega) | fail)] | rw [if_neg (by first | assumption | omega | (refine inA_iff.mpr ?_; omega) | (intro q; have q2 := inA_iff.mp q; omega) | (intro q; omega) | (refine ⟨?_, ?_⟩ <;> rw [nI_int (by omega)] <;> omega) | (rw [nI_int (by omega)]; omega) | (intro q; rw [nI_int (by omega)] at q; omega) | (refine ⟨?_, ?_, ?_⟩ <;> omega) | (intro q; obtain ⟨q1, q2, q3⟩ := q; omega) | fail)])) <;> rfl
              rw [e]
              exact ⟨rfl, (RowsM.stat hR), (Only.up Only.rfl_ (Or.inl ⟨rfl, rfl⟩))⟩)
    · obtain ⟨z1_j, z2_j, z3_j, z4_j⟩ := hR.size (r := j) (by omega) hl_j
      refine WP.cg (st' := [.int (nI (R.1 j))]) rfl (congrArg (fun z : Int32 => (.int z :: [] : List Value)) z3_j) rfl ?_
      refine WP.run (pc' := if (0 : Int32) ≤ (nI (R.1 j)) then 25 else 19) (L' := [.ref 271, .int (nI j)]) (st' := []) (I1 := I) 1 rfl ?_
      refine WP.brT (nI_pos' (by omega)) ?_
      refine WP.run (pc' := 31) (L' := [.ref 271, .int (nI j)]) (st' := [.int (-1), .int (nI j), .ref 274]) (I1 := I) 4 rfl ?_
      refine WP.iast rfl rfl rfl (by omega) (by decide) ?_
      refine WP.run (pc' := 38) (L' := [.ref 271, .int (nI j)]) (st' := [.int (nI j), .ref 275, .ref 271]) (I1 := (upN I 274 j (-1))) 4 rfl ?_
      refine WP.iald rfl rfl rfl (by omega) (by decide) ?_
      refine WP.cg (st' := [.int (nI (R.2.1 j)), .ref 271]) rfl (congrArg (fun z : Int32 => (.int z :: [.ref 271] : List Value)) ((upN_no (by decide)).trans (RowsM.size hR (by omega) (by assumption)).1)) rfl ?_
      refine WP.callV (rest := []) rfl rfl (ms_well (d := d + 1) (I := (upN I 274 j (-1))) (x := (nI (R.2.1 j)))) ?_
      exact WP.ret rfl rfl (by
              have e : nDrop R (nI j) = ((nI (R.2.1 j)), stR (loseR R j) (nI 0)) := by (unfold nDrop; (repeat rw [nOf_nI (by omega)]); (repeat first | rw [if_pos (by first | assumption | omega | (refine inA_iff.mpr ?_; omega) | (intro q; have q2 := inA_iff.mp q; omega) | (intro q; omega) | (refine ⟨?_, ?_⟩ <;> rw [nI_int (by omega)] <;> omega) | (rw [nI_int (by omega)]; omega) | (intro q; rw [nI_int (by omega)] at q; omega) | (refine ⟨?_, ?_, ?_⟩ <;> omega) | (intro q; obtain ⟨q1, q2, q3⟩ := q; omega) | fail)] | rw [if_neg (by first | assumption | omega | (refine inA_iff.mpr ?_; omega) | (intro q; have q2 := inA_iff.mp q; omega) | (intro q; omega) | (refine ⟨?_, ?_⟩ <;> rw [nI_int (by omega)] <;> omega) | (rw [nI_int (by omega)]; omega) | (intro q; rw [nI_int (by omega)] at q; omega) | (refine ⟨?_, ?_, ?_⟩ <;> omega) | (intro q; obtain ⟨q1, q2, q3⟩ := q; omega) | fail)])) <;> rfl
              rw [e]
              exact ⟨rfl, (RowsM.stat (RowsM.lose hR)), (Only.up (Only.up Only.rfl_ (Or.inr ⟨by decide, by decide⟩)) (Or.inl ⟨rfl, rfl⟩))⟩)
  · refine WP.run (pc' := 9) (L' := [.ref 271, .int x]) (st' := [.int (-1000001)]) (I1 := I) 2 rfl ?_
    exact WP.ret rfl rfl (by
          have e : nDrop R x = ((-1000001), R) := by (unfold nDrop; (repeat rw [nOf_nI (by omega)]); (repeat first | rw [if_pos (by first | assumption | omega | (refine inA_iff.mpr ?_; omega) | (intro q; have q2 := inA_iff.mp q; omega) | (intro q; omega) | (refine ⟨?_, ?_⟩ <;> rw [nI_int (by omega)] <;> omega) | (rw [nI_int (by omega)]; omega) | (intro q; rw [nI_int (by omega)] at q; omega) | (refine ⟨?_, ?_, ?_⟩ <;> omega) | (intro q; obtain ⟨q1, q2, q3⟩ := q; omega) | fail)] | rw [if_neg (by first | assumption | omega | (refine inA_iff.mpr ?_; omega) | (intro q; have q2 := inA_iff.mp q; omega) | (intro q; omega) | (refine ⟨?_, ?_⟩ <;> rw [nI_int (by omega)] <;> omega) | (rw [nI_int (by omega)]; omega) | (intro q; rw [nI_int (by omega)] at q; omega) | (refine ⟨?_, ?_, ?_⟩ <;> omega) | (intro q; obtain ⟨q1, q2, q3⟩ := q; omega) | fail)])) <;> rfl
          rw [e]
          exact ⟨rfl, hR, Only.rfl_⟩)
set_option maxRecDepth 100000 in
theorem ms_as {d : Nat} {I : Pl} {R : RS} {x k : Int32} {N : Nat → Nat} (hM : T0 I N) (hN : TI N) (hR : RowsM I R) : EvX (d + 3) 193 [.ref 271, .int x, .int k] I (fun v K => v = some (.int (nAs N R x k).1) ∧ RowsM K (nAs N R x k).2 ∧ Only I K rmP) := by
  obtain ⟨b0, b1, b2, b3, b4, b5, b6, b7, b8, bS, bC, bS1, bC1, bZ, bG⟩ := id hN
  obtain ⟨s6, s7, s64⟩ := hN.set64
  refine EvX.enter rfl rfl rfl ?_
  refine WP.run (pc' := 2) (L' := [.ref 271, .int x, .int k]) (st' := [.int x, .ref 271]) (I1 := I) 2 rfl ?_
  refine WP.callB (rest := []) rfl rfl (ms_isStrand (d := d) (x := x) hM hN) (fun h1 => ?_) (fun h1 => ?_)
  · refine WP.run (pc' := 8) (L' := [.ref 271, .int x, .int k]) (st' := []) (I1 := I) 1 rfl ?_
    have hx_j : inA x (N 2) := (by assumption)
    obtain ⟨j, hj, rfl⟩ := inA_of hx_j (by omega)
    refine WP.run (pc' := 14) (L' := [.ref 271, .int (nI j), .int k]) (st' := [.long (5 : Int64), .long (0 : Int64), .long k.toInt64]) (I1 := I) 4 rfl ?_
    refine WP.callB (rest := []) rfl rfl (sp_inA (d := d + 1) (x := k) (n := 6) (hi := (5 : Int64)) rfl) (fun h2 => ?_) (fun h2 => ?_)
    · refine WP.run (pc' := 23) (L' := [.ref 271, .int (nI j), .int k]) (st' := []) (I1 := I) 1 rfl ?_
      have hx_m : inA k 6 := (by assumption)
      obtain ⟨m, hm, rfl⟩ := inA_of hx_m (by omega)
      obtain ⟨bs1, bs2, bs3⟩ := bS j (by omega)
      obtain ⟨bt1, bt2⟩ := bS1 j (by omega)
      refine WP.run (pc' := 31) (L' := [.ref 271, .int (nI j), .int (nI m)]) (st' := [.int ((nI 9) + (nI j)), .ref 272]) (I1 := I) 5 rfl ?_
      refine WP.cg (st' := [.int (nI (9 + j)), .ref 272]) rfl (congrArg (fun z : Int32 => (.int z :: [.ref 272] : List Value)) (nI_add 9 j)) rfl ?_
      refine WP.iald rfl rfl rfl (by omega) (by decide) ?_
      refine WP.cg (st' := [.int (nI (N (9 + j)))]) rfl (congrArg (fun z : Int32 => (.int z :: [] : List Value)) (hM (9 + j) (by omega))) rfl ?_
      refine WP.run (pc' := 33) (L' := [.ref 271, .int (nI j), .int (nI m)]) (st' := [.int (nI m), .int (nI (N (9 + j)))]) (I1 := I) 1 rfl ?_
      refine WP.callB (rest := []) rfl rfl (ms_isOf (d := d + 1) (a := N (9 + j)) (b := m) (by omega) (by omega) (by omega)) (fun h3 => ?_) (fun h3 => ?_)
      · refine WP.run (pc' := 41) (L' := [.ref 271, .int (nI j), .int (nI m)]) (st' := [.int (nI j), .ref 271]) (I1 := I) 3 rfl ?_
        refine WP.callV (rest := []) rfl rfl (ms_well (d := d + 1) (I := I) (x := (nI j))) ?_
        refine WP.run (pc' := 52) (L' := [.ref 271, .int (nI j), .int (nI m)]) (st' := [.int (nI j)]) (I1 := (upN I 271 7 (nI 0))) 1 rfl ?_
        exact WP.ret rfl rfl (by
                  have e : nAs N R (nI j) (nI m) = ((nI j), stR R (nI 0)) := by (unfold nAs; (repeat rw [nOf_nI (by omega)]); (repeat first | rw [if_pos (by first | assumption | omega | (refine inA_iff.mpr ?_; omega) | (intro q; have q2 := inA_iff.mp q; omega) | (intro q; omega) | (refine ⟨?_, ?_⟩ <;> rw [nI_int (by omega)] <;> omega) | (rw [nI_int (by omega)]; omega) | (intro q; rw [nI_int (by omega)] at q; omega) | (refine ⟨?_, ?_, ?_⟩ <;> omega) | (intro q; obtain ⟨q1, q2, q3⟩ := q; omega) | fail)] | rw [if_neg (by first | assumption | omega | (refine inA_iff.mpr ?_; omega) | (intro q; have q2 := inA_iff.mp q; omega) | (intro q; omega) | (refine ⟨?_, ?_⟩ <;> rw [nI_int (by omega)] <;> omega) | (rw [nI_int (by omega)]; omega) | (intro q; rw [nI_int (by omega)] at q; omega) | (refine ⟨?_, ?_, ?_⟩ <;> omega) | (intro q; obtain ⟨q1, q2, q3⟩ := q; omega) | fail)])) <;> rfl
                  rw [e]
                  exact ⟨rfl, (RowsM.stat hR), (Only.up Only.rfl_ (Or.inl ⟨rfl, rfl⟩))⟩)
      · refine WP.run (pc' := 49) (L' := [.ref 271, .int (nI j), .int (nI m)]) (st' := [.int (nI 3), .ref 271]) (I1 := I) 3 rfl ?_
        refine WP.callV (rest := []) rfl rfl (ms_found (d := d + 1) (I := I) (x := 3)) ?_
        exact WP.ret rfl rfl (by
                  have e : nAs N R (nI j) (nI m) = ((-1000010 - nI 3), stR R (nI 3)) := by (unfold nAs; (repeat rw [nOf_nI (by omega)]); (repeat first | rw [if_pos (by first | assumption | omega | (refine inA_iff.mpr ?_; omega) | (intro q; have q2 := inA_iff.mp q; omega) | (intro q; omega) | (refine ⟨?_, ?_⟩ <;> rw [nI_int (by omega)] <;> omega) | (rw [nI_int (by omega)]; omega) | (intro q; rw [nI_int (by omega)] at q; omega) | (refine ⟨?_, ?_, ?_⟩ <;> omega) | (intro q; obtain ⟨q1, q2, q3⟩ := q; omega) | fail)] | rw [if_neg (by first | assumption | omega | (refine inA_iff.mpr ?_; omega) | (intro q; have q2 := inA_iff.mp q; omega) | (intro q; omega) | (refine ⟨?_, ?_⟩ <;> rw [nI_int (by omega)] <;> omega) | (rw [nI_int (by omega)]; omega) | (intro q; rw [nI_int (by omega)] at q; omega) | (refine ⟨?_, ?_, ?_⟩ <;> omega) | (intro q; obtain ⟨q1, q2, q3⟩ := q; omega) | fail)])) <;> rfl
                  rw [e]
                  exact ⟨rfl, (RowsM.stat hR), (Only.up Only.rfl_ (Or.inl ⟨rfl, rfl⟩))⟩)
    · refine WP.run (pc' := 22) (L' := [.ref 271, .int (nI j), .int k]) (st' := [.int (-1000001)]) (I1 := I) 2 rfl ?_
      exact WP.ret rfl rfl (by
              have e : nAs N R (nI j) k = ((-1000001), R) := by (unfold nAs; (repeat rw [nOf_nI (by omega)]); (repeat first | rw [if_pos (by first | assumption | omega | (refine inA_iff.mpr ?_; omega) | (intro q; have q2 := inA_iff.mp q; omega) | (intro q; omega) | (refine ⟨?_, ?_⟩ <;> rw [nI_int (by omega)] <;> omega) | (rw [nI_int (by omega)]; omega) | (intro q; rw [nI_int (by omega)] at q; omega) | (refine ⟨?_, ?_, ?_⟩ <;> omega) | (intro q; obtain ⟨q1, q2, q3⟩ := q; omega) | fail)] | rw [if_neg (by first | assumption | omega | (refine inA_iff.mpr ?_; omega) | (intro q; have q2 := inA_iff.mp q; omega) | (intro q; omega) | (refine ⟨?_, ?_⟩ <;> rw [nI_int (by omega)] <;> omega) | (rw [nI_int (by omega)]; omega) | (intro q; rw [nI_int (by omega)] at q; omega) | (refine ⟨?_, ?_, ?_⟩ <;> omega) | (intro q; obtain ⟨q1, q2, q3⟩ := q; omega) | fail)])) <;> rfl
              rw [e]
              exact ⟨rfl, hR, Only.rfl_⟩)
  · refine WP.run (pc' := 22) (L' := [.ref 271, .int x, .int k]) (st' := [.int (-1000001)]) (I1 := I) 2 rfl ?_
    exact WP.ret rfl rfl (by
          have e : nAs N R x k = ((-1000001), R) := by (unfold nAs; (repeat rw [nOf_nI (by omega)]); (repeat first | rw [if_pos (by first | assumption | omega | (refine inA_iff.mpr ?_; omega) | (intro q; have q2 := inA_iff.mp q; omega) | (intro q; omega) | (refine ⟨?_, ?_⟩ <;> rw [nI_int (by omega)] <;> omega) | (rw [nI_int (by omega)]; omega) | (intro q; rw [nI_int (by omega)] at q; omega) | (refine ⟨?_, ?_, ?_⟩ <;> omega) | (intro q; obtain ⟨q1, q2, q3⟩ := q; omega) | fail)] | rw [if_neg (by first | assumption | omega | (refine inA_iff.mpr ?_; omega) | (intro q; have q2 := inA_iff.mp q; omega) | (intro q; omega) | (refine ⟨?_, ?_⟩ <;> rw [nI_int (by omega)] <;> omega) | (rw [nI_int (by omega)]; omega) | (intro q; rw [nI_int (by omega)] at q; omega) | (refine ⟨?_, ?_, ?_⟩ <;> omega) | (intro q; obtain ⟨q1, q2, q3⟩ := q; omega) | fail)])) <;> rfl
          rw [e]
          exact ⟨rfl, hR, Only.rfl_⟩)
