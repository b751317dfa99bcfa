/-! powers; the wear of a climb -/
def Fr (I J : Pl) (a b : Nat) : Prop := ∀ o k, o < a ∨ b ≤ o → J o k = I o k
theorem Fr.rfl_ {I : Pl} {a b : Nat} : Fr I I a b := fun _ _ _ => rfl
theorem Fr.up {I J : Pl} {a b o k : Nat} {v : Int32} (h : Fr I J a b) (h1 : a ≤ o) (h2 : o < b) : Fr I (upN J o k v) a b := by
  intro p j hp
  rw [upN_no (by omega)]
  exact h p j hp
theorem Fr.tr {I J K : Pl} {a b : Nat} (h : Fr I J a b) (g : Fr J K a b) : Fr I K a b := fun o k q => (g o k q).trans (h o k q)
def wN (N : Nat → Nat) (m sh : Nat) : Nat → (Nat → Nat)
  | 0 => N
  | k + 1 => if bitN m k = 1 then setN (wN N m sh k) (21 + k) (wN N m sh k (21 + k) + wearN (wN N m sh k (9 + k)) sh) else wN N m sh k
theorem wN_o {N : Nat → Nat} {m sh : Nat} : ∀ k i, k ≤ 6 → i < 21 ∨ 21 + k ≤ i → wN N m sh k i = N i := by
  intro k
  induction k with
  | zero => intro i _ _; rfl
  | succ k ih =>
    intro i hk hi
    unfold wN
    split
    · rw [setN_o (by omega)]
      exact ih i (by omega) (by omega)
    · exact ih i (by omega) (by omega)
theorem wN_TI {N : Nat → Nat} {m sh : Nat} (hN : TI N) (H : ∀ s, s < N 2 → bitN m s = 1 → N (21 + s) + wearN (N (9 + s)) sh ≤ 198) : ∀ k, k ≤ N 2 → TI (wN N m sh k) := by
  intro k
  have h2 : N 2 ≤ 6 := hN.2.2.1
  induction k with
  | zero => intro _; exact hN
  | succ k ih =>
    intro hk
    have h := ih (by omega)
    unfold wN
    split
    · rename_i hb
      refine TI.worn h (by omega) ?_
      rw [wN_o k (21 + k) (by omega) (by omega), wN_o k (9 + k) (by omega) (by omega)]
      exact H k (by omega) hb
    · exact h
set_option maxRecDepth 100000 in
theorem lp_power {d : Nat} {I : Pl} {b t : Nat} (ht : t < 1000) : ∀ k, k ≤ t → WP d (77, 6, (some .int), sc0) 4 [.int (nI b), .int (nI t), .int (nI (b ^ k)), .int (nI k)] [] I (fun v J => v = some (.int (nI (b ^ t))) ∧ J = I) := by
  refine loopUp (fun k hk ih => ?_)
  refine WP.run (pc' := if (nI t) ≤ (nI k) then 19 else 9) (L' := [.int (nI b), .int (nI t), .int (nI (b ^ k)), .int (nI k)]) (st' := []) (I1 := I) 3 rfl ?_
  refine WP.br (fun h1 => ?_) (fun h1 => ?_)
  · have h1 : t ≤ k := nI_le_ (by omega) (by omega) h1
    refine WP.run (pc' := 20) (L' := [.int (nI b), .int (nI t), .int (nI (b ^ k)), .int (nI k)]) (st' := [.int (nI (b ^ k))]) (I1 := I) 1 rfl ?_
    exact WP.ret rfl rfl (⟨by rw [show k = t by omega], rfl⟩)
  · have h1 : ¬ t ≤ k := fun q => h1 (nI_le_r (by omega) q)
    refine WP.run (pc' := 12) (L' := [.int (nI b), .int (nI t), .int (nI (b ^ k)), .int (nI k)]) (st' := [.int ((nI (b ^ k)) * (nI b))]) (I1 := I) 3 rfl ?_
    refine WP.cg (st' := [.int (nI ((b ^ k) * b))]) rfl (congrArg (fun z : Int32 => (.int z :: [] : List Value)) (pk_mul (b ^ k) b)) rfl ?_
    refine WP.run (pc' := 16) (L' := [.int (nI b), .int (nI t), .int (nI ((b ^ k) * b)), .int ((nI k) + nI 1)]) (st' := []) (I1 := I) 2 rfl ?_
    refine WP.cg (L' := [.int (nI b), .int (nI t), .int (nI ((b ^ k) * b)), .int (nI (k + 1))]) (congrArg (fun z : Int32 => ([.int (nI b), .int (nI t), .int (nI ((b ^ k) * b)), .int z] : List Value)) (nI_add k 1)) rfl rfl ?_
    refine WP.run (pc' := 4) (L' := [.int (nI b), .int (nI t), .int (nI ((b ^ k) * b)), .int (nI (k + 1))]) (st' := []) (I1 := I) 1 rfl ?_
    refine WP.cg (L' := [.int (nI b), .int (nI t), .int (nI (b ^ (k + 1))), .int (nI (k + 1))]) (by rw [Nat.pow_succ]) rfl rfl (ih (by omega))
set_option maxRecDepth 100000 in
theorem sp_power {d : Nat} {I : Pl} {b t : Nat} (ht : t < 1000) : Ev (d + 1) 77 [.int (nI b), .int (nI t)] (mem I) (some (.int (nI (b ^ t)))) (mem I) := by
  refine Ev.only (EvX.enter rfl rfl rfl ?_)
  refine WP.run (pc' := 4) (L' := [.int (nI b), .int (nI t), .int (nI 1), .int (nI 0)]) (st' := []) (I1 := I) 4 rfl ?_
  exact lp_power ht 0 (Nat.zero_le _)
set_option maxRecDepth 100000 in
theorem lp_wearPlait {d : Nat} {I : Pl} {N : Nat → Nat} {sh : Nat} (hN : TI N) (hsh : sh < 1000) (H : ∀ s, s < N 2 → bitN (N 6) s = 1 → N (21 + s) + wearN (N (9 + s)) sh ≤ 198) : ∀ k, k ≤ N 2 → ∀ J, Tw J 247 (wN N (N 6) sh k) → Fr I J 247 255 → WP (d + 1) (70, 5, none, sc0) 2 [.ref 247, .int (nI sh), .int (nI k)] [] J (fun v K => v = none ∧ Tw K 247 (wN N (N 6) sh (N 2)) ∧ Fr I K 247 255) := by
  refine loopUp (fun k hk ih => ?_)
  intro J hJ hF
  obtain ⟨b0, b1, b2, b3, b4, b5, b6, b7, b8, bS, bC, bS1, bC1, bZ, bG⟩ := id hN
  have hM := wN_TI hN H k hk
  have e2 := wN_o (N := N) (m := N 6) (sh := sh) k 2 (by omega) (by omega)
  have e6 := wN_o (N := N) (m := N 6) (sh := sh) k 6 (by omega) (by omega)
  have hbl := bitN_lt (N 6) k
  obtain ⟨s6, s7, s64⟩ := hN.set64
  refine WP.run (pc' := 7) (L' := [.ref 247, .int (nI sh), .int (nI k)]) (st' := [.int (J 247 7), .int (nI k)]) (I1 := J) 3 rfl ?_
  refine WP.cg (st' := [.int (nI (N 2)), .int (nI k)]) rfl (congrArg (fun z : Int32 => (.int z :: [.int (nI k)] : List Value)) (hJ.f7.trans (congrArg nI e2))) rfl ?_
  refine WP.run (pc' := if (nI (N 2)) ≤ (nI k) then 43 else 10) (L' := [.ref 247, .int (nI sh), .int (nI k)]) (st' := []) (I1 := J) 1 rfl ?_
  refine WP.br (fun h1 => ?_) (fun h1 => ?_)
  · have h1 : N 2 ≤ k := nI_le_ (by omega) (by omega) h1
    exact WP.ret rfl rfl (⟨rfl, by rw [show N 2 = k by omega]; exact hJ, hF⟩)
  · have h1 : ¬ N 2 ≤ k := fun q => h1 (nI_le_r (by omega) q)
    refine WP.run (pc' := 14) (L' := [.ref 247, .int (nI sh), .int (nI k)]) (st' := [.int (J 247 5)]) (I1 := J) 2 rfl ?_
    refine WP.cg (st' := [.int (nI (N 6))]) rfl (congrArg (fun z : Int32 => (.int z :: [] : List Value)) (hJ.f5.trans (congrArg nI e6))) rfl ?_
    refine WP.run (pc' := 15) (L' := [.ref 247, .int (nI sh), .int (nI k)]) (st' := [.int (nI k), .int (nI (N 6))]) (I1 := J) 1 rfl ?_
    refine WP.callV (rest := []) rfl rfl (sp_bit (d := d) (m := N 6) (i := k) (by omega) (by omega)) ?_
    refine WP.run (pc' := if ¬ (nI (bitN (N 6) k)) = (nI 1) then 37 else 22) (L' := [.ref 247, .int (nI sh), .int (nI k)]) (st' := []) (I1 := J) 2 rfl ?_
    refine WP.br (fun h2 => ?_) (fun h2 => ?_)
    · have h2 : ¬ bitN (N 6) k = 1 := fun q => h2 (nI_eq_r q)
      refine WP.run (pc' := 40) (L' := [.ref 247, .int (nI sh), .int ((nI k) + nI 1)]) (st' := []) (I1 := J) 1 rfl ?_
      refine WP.cg (L' := [.ref 247, .int (nI sh), .int (nI (k + 1))]) (congrArg (fun z : Int32 => ([.ref 247, .int (nI sh), .int z] : List Value)) (nI_add k 1)) rfl rfl ?_
      refine WP.run (pc' := 2) (L' := [.ref 247, .int (nI sh), .int (nI (k + 1))]) (st' := []) (I1 := J) 1 rfl ?_
      refine ih (by omega) _ ?_ hF
      rw [show wN N (N 6) sh (k + 1) = wN N (N 6) sh k from if_neg (by assumption)]
      exact hJ
    · have h2 : bitN (N 6) k = 1 := nI_eq_ (by omega) (by omega) (Decidable.byContradiction h2)
      refine WP.run (pc' := 28) (L' := [.ref 247, .int (nI sh), .int (nI k)]) (st' := [.int (nI k), .ref 250, .int (nI k), .ref 250]) (I1 := J) 4 rfl ?_
      refine WP.iald rfl rfl rfl (by omega) (by decide) ?_
      refine WP.cg (st' := [.int (nI (wN N (N 6) sh k (21 + k))), .int (nI k), .ref 250]) rfl (congrArg (fun z : Int32 => (.int z :: [.int (nI k), .ref 250] : List Value)) (hJ.a3 (k := k) (by omega))) rfl ?_
      refine WP.run (pc' := 32) (L' := [.ref 247, .int (nI sh), .int (nI k)]) (st' := [.int (nI sh), .int (nI k), .ref 247, .int (nI (wN N (N 6) sh k (21 + k))), .int (nI k), .ref 250]) (I1 := J) 3 rfl ?_
      refine WP.callV (rest := [.int (nI (wN N (N 6) sh k (21 + k))), .int (nI k), .ref 250]) rfl rfl (sp_wear (d := d) (s := k) (sh := sh) hJ hM (by omega) (by omega)) ?_
      refine WP.run (pc' := 36) (L' := [.ref 247, .int (nI sh), .int (nI k)]) (st' := [.int ((nI (wN N (N 6) sh k (21 + k))) + (nI (wearN (wN N (N 6) sh k (9 + k)) sh))), .int (nI k), .ref 250]) (I1 := J) 1 rfl ?_
      refine WP.cg (st' := [.int (nI ((wN N (N 6) sh k (21 + k)) + (wearN (wN N (N 6) sh k (9 + k)) sh))), .int (nI k), .ref 250]) rfl (congrArg (fun z : Int32 => (.int z :: [.int (nI k), .ref 250] : List Value)) (nI_add (wN N (N 6) sh k (21 + k)) (wearN (wN N (N 6) sh k (9 + k)) sh))) rfl ?_
      refine WP.iast rfl rfl rfl (by omega) (by decide) ?_
      refine WP.run (pc' := 40) (L' := [.ref 247, .int (nI sh), .int ((nI k) + nI 1)]) (st' := []) (I1 := (upN J 250 k (nI ((wN N (N 6) sh k (21 + k)) + (wearN (wN N (N 6) sh k (9 + k)) sh))))) 1 rfl ?_
      refine WP.cg (L' := [.ref 247, .int (nI sh), .int (nI (k + 1))]) (congrArg (fun z : Int32 => ([.ref 247, .int (nI sh), .int z] : List Value)) (nI_add k 1)) rfl rfl ?_
      refine WP.run (pc' := 2) (L' := [.ref 247, .int (nI sh), .int (nI (k + 1))]) (st' := []) (I1 := (upN J 250 k (nI ((wN N (N 6) sh k (21 + k)) + (wearN (wN N (N 6) sh k (9 + k)) sh))))) 1 rfl ?_
      refine ih (by omega) _ ?_ (hF.up (by decide) (by decide))
      rw [show wN N (N 6) sh (k + 1) = setN (wN N (N 6) sh k) (21 + k) _ from if_pos (by assumption)]
      exact hJ.worn (t := 247) (by omega)
set_option maxRecDepth 100000 in
theorem sp_wearPlait {d : Nat} {I J : Pl} {N : Nat → Nat} {sh : Nat} (hJ : Tw J 247 N) (hF : Fr I J 247 255) (hN : TI N) (hsh : sh < 1000) (H : ∀ s, s < N 2 → bitN (N 6) s = 1 → N (21 + s) + wearN (N (9 + s)) sh ≤ 198) : EvX (d + 2) 70 [.ref 247, .int (nI sh)] J (fun v K => v = none ∧ Tw K 247 (wN N (N 6) sh (N 2)) ∧ Fr I K 247 255) := by
  refine EvX.enter rfl rfl rfl ?_
  refine WP.run (pc' := 2) (L' := [.ref 247, .int (nI sh), .int (nI 0)]) (st' := []) (I1 := J) 2 rfl ?_
  exact lp_wearPlait hN hsh H 0 (Nat.zero_le _) J hJ hF
