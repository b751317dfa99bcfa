/-! the class's planner: all that are due climb -/
theorem KdW : ∀ a, a < 4 → Kd (241 + a) = (10, 6) := by decide +kernel
theorem NNW : ∀ a, a < 4 → Nat.blt (241 + a) NN = true := by decide +kernel
theorem RRW : ∀ a, a < 4 → RR 240 a = some (241 + a) := by decide +kernel
theorem KdV : ∀ a, a < 3 → Kd (235 + a) = (10, 64) := by decide +kernel
theorem NNV : ∀ a, a < 3 → Nat.blt (235 + a) NN = true := by decide +kernel
theorem RRV : ∀ a, a < 3 → RR 234 a = some (235 + a) := by decide +kernel
theorem KdB : ∀ a, a < 4 → Kd (229 + a) = (10, 3) := by decide +kernel
theorem NNB : ∀ a, a < 4 → Nat.blt (229 + a) NN = true := by decide +kernel
theorem RRB : ∀ a, a < 4 → RR 228 a = some (229 + a) := by decide +kernel
theorem sumW_wN {Y : Nat → Nat} {m sh s : Nat} (hs : s < 6) : sumW (wN Y m sh (s + 1)) = sumW (wN Y m sh s) + (if bitN m s = 1 then wearN (Y (9 + s)) sh else 0) := by
  show sumW (if bitN m s = 1 then _ else _) = _
  split
  · have h := sumW_set (N := wN Y m sh s) (v := wN Y m sh s (21 + s) + wearN (wN Y m sh s (9 + s)) sh) s hs
    rw [wN_o s (9 + s) (by omega) (by omega)] at h
    rw [wN_o s (9 + s) (by omega) (by omega)]
    omega
  · rfl
theorem sumW_wN_ge {Y : Nat → Nat} {m sh : Nat} : ∀ s, s ≤ 6 → sumW Y ≤ sumW (wN Y m sh s) := by
  intro s
  induction s with
  | zero => intro _; exact Nat.le_refl _
  | succ s ih =>
    intro hs
    rw [sumW_wN (by omega)]
    have := ih (by omega)
    omega
def lav (X : Nat → Nat) (due m : Nat) : Nat := bif (clA X due m (X 3)).2 then sumW (clA X due m (X 3)).1 - sumW X else 1000000
def onB (b : Nat) (o _k : Nat) : Prop := o = 241 + b
set_option maxRecDepth 100000 in
theorem lc_in {d : Nat} {I : Pl} {N X Y : Nat → Nat} {due m a b c sh : Nat} {Q : Option Value → Pl → Prop} (hT : Tw I 247 N) (hN : TI N) (hY : TI Y) (hsY : same Y N) (hXY : sumW X ≤ sumW Y) (hm : m < 64) (hb : b < 4) (hc : c < N 3) (hsh : sh ≤ 99) (g : ∀ J y11, (∀ k, k < 6 → J (241 + b) k = nI (wN Y m sh (N 2) (21 + k))) → Only I J (onB b) → brkN Y m sh = 0 → WP (d + 2) (36, 2, (some .int), sc0) 127 ([.ref 225, .ref 247, .int (nI due), .int (nI m), .ref (241 + a), .ref (241 + b), .int (nI (popc m)), .int (nI (sumW (wN Y m sh (N 2)) - sumW X)), .int (nI c), .int (nI sh), .int (nI (N 2)), y11]) [] J Q) (gf : ∀ J, Only I J (onB b) → ¬ brkN Y m sh = 0 → Q (some (.int (nI 1000000))) J) : ∀ s, s ≤ N 2 → (∀ r, r < s → bitN m r = 1 → sh + Y (21 + r) ≤ capN N r (popc m)) → ∀ J y11, (∀ k, k < 6 → J (241 + b) k = nI (wN Y m sh s (21 + k))) → Only I J (onB b) → WP (d + 2) (36, 2, (some .int), sc0) 54 ([.ref 225, .ref 247, .int (nI due), .int (nI m), .ref (241 + a), .ref (241 + b), .int (nI (popc m)), .int (nI (sumW (wN Y m sh s) - sumW X)), .int (nI c), .int (nI sh), .int (nI s), y11]) [] J Q := by
  refine loopUp (fun s hs ih => ?_)
  intro hall J y11 hJ hO
  have hJT : Tw J 247 N := hT.cg (fun o k x y => hO o k (fun z => by have z2 : o = 241 + b := z; omega))
  obtain ⟨b0, b1, b2, b3, b4, b5, b6, b7, b8, bS, bC, bS1, bC1, bZ, bG⟩ := id hN
  obtain ⟨s6, s7, s64⟩ := hN.set64
  have hpc := popc_le m
  have hbl := bitN_lt m s
  have e2 : Y 2 = N 2 := hsY 2 (by omega)
  have hcap : s < 6 → capN N s (popc m) ≤ 198 ∧ Y (21 + s) ≤ 198 := fun q => ⟨capN_le hN q, (hY.2.2.2.2.2.2.2.2.2.1 s q).2.2⟩
  refine WP.run (pc' := 60) (L' := [.ref 225, .ref 247, .int (nI due), .int (nI m), .ref (241 + a), .ref (241 + b), .int (nI (popc m)), .int (nI (sumW (wN Y m sh s) - sumW X)), .int (nI c), .int (nI sh), .int (nI s), y11]) (st' := [.int (J 247 7), .int (nI s)]) (I1 := J) 3 rfl ?_
  refine WP.cg (st' := [.int (nI (N 2)), .int (nI s)]) rfl (congrArg (fun z : Int32 => (.int z :: [.int (nI s)] : List Value)) (hJT.f7)) rfl ?_
  refine WP.run (pc' := if (nI (N 2)) ≤ (nI s) then 127 else 63) (L' := [.ref 225, .ref 247, .int (nI due), .int (nI m), .ref (241 + a), .ref (241 + b), .int (nI (popc m)), .int (nI (sumW (wN Y m sh s) - sumW X)), .int (nI c), .int (nI sh), .int (nI s), y11]) (st' := []) (I1 := J) 1 rfl ?_
  refine WP.br (fun h1 => ?_) (fun h1 => ?_)
  · have h1 : N 2 ≤ s := nI_le_ (by omega) (by omega) h1
    have hsN : N 2 = s := by omega
    rw [hsN] at g
    have hbz : brkN Y m sh = 0 := by
      unfold brkN
      rw [e2, hsN]
      exact brkP_zero s (fun k hk hbit => by rw [same_cap hsY (by omega)]; exact hall k hk hbit)
    exact g J _ hJ hO hbz
  · have h1 : ¬ N 2 ≤ s := fun q => h1 (nI_le_r (by omega) q)
    refine WP.run (pc' := 66) (L' := [.ref 225, .ref 247, .int (nI due), .int (nI m), .ref (241 + a), .ref (241 + b), .int (nI (popc m)), .int (nI (sumW (wN Y m sh s) - sumW X)), .int (nI c), .int (nI sh), .int (nI s), y11]) (st' := [.int (nI s), .int (nI m)]) (I1 := J) 2 rfl ?_
    refine WP.callV (rest := []) rfl rfl (sp_bit (d := d + 1) (m := m) (i := s) (by omega) (by omega)) ?_
    refine WP.run (pc' := if ¬ (nI (bitN m s)) = (nI 1) then 121 else 73) (L' := [.ref 225, .ref 247, .int (nI due), .int (nI m), .ref (241 + a), .ref (241 + b), .int (nI (popc m)), .int (nI (sumW (wN Y m sh s) - sumW X)), .int (nI c), .int (nI sh), .int (nI s), y11]) (st' := []) (I1 := J) 2 rfl ?_
    refine WP.br (fun h2 => ?_) (fun h2 => ?_)
    · have h2 : ¬ bitN m s = 1 := fun q => h2 (nI_eq_r q)
      refine WP.run (pc' := 124) (L' := [.ref 225, .ref 247, .int (nI due), .int (nI m), .ref (241 + a), .ref (241 + b), .int (nI (popc m)), .int (nI (sumW (wN Y m sh s) - sumW X)), .int (nI c), .int (nI sh), .int ((nI s) + nI 1), y11]) (st' := []) (I1 := J) 1 rfl ?_
      refine WP.cg (L' := [.ref 225, .ref 247, .int (nI due), .int (nI m), .ref (241 + a), .ref (241 + b), .int (nI (popc m)), .int (nI (sumW (wN Y m sh s) - sumW X)), .int (nI c), .int (nI sh), .int (nI (s + 1)), y11]) (congrArg (fun z : Int32 => ([.ref 225, .ref 247, .int (nI due), .int (nI m), .ref (241 + a), .ref (241 + b), .int (nI (popc m)), .int (nI (sumW (wN Y m sh s) - sumW X)), .int (nI c), .int (nI sh), .int z, y11] : List Value)) (nI_add s 1)) rfl rfl ?_
      refine WP.run (pc' := 54) (L' := [.ref 225, .ref 247, .int (nI due), .int (nI m), .ref (241 + a), .ref (241 + b), .int (nI (popc m)), .int (nI (sumW (wN Y m sh s) - sumW X)), .int (nI c), .int (nI sh), .int (nI (s + 1)), y11]) (st' := []) (I1 := J) 1 rfl ?_
      have hw9 := sumW_wN (Y := Y) (m := m) (sh := sh) (s := s) (by omega)
      have hge := sumW_wN_ge (Y := Y) (m := m) (sh := sh) s (by omega)
      rw [if_neg (by assumption)] at hw9
      refine WP.cg (L' := [.ref 225, .ref 247, .int (nI due), .int (nI m), .ref (241 + a), .ref (241 + b), .int (nI (popc m)), .int (nI (sumW (wN Y m sh (s + 1)) - sumW X)), .int (nI c), .int (nI sh), .int (nI (s + 1)), y11]) (by rw [hw9]; rfl) rfl rfl (ih (by omega) (fun r hr hbr => ?_) _ _ (fun k hk => ?_) hO)
      · by_cases q : r = s
        · subst q
          exact absurd hbr (by assumption)
        · exact hall r (by omega) hbr
      · rw [show wN Y m sh (s + 1) = wN Y m sh s from if_neg (by assumption)]
        exact hJ k hk
    · have h2 : bitN m s = 1 := nI_eq_ (by omega) (by omega) (Decidable.byContradiction h2)
      refine WP.run (pc' := 82) (L' := [.ref 225, .ref 247, .int (nI due), .int (nI m), .ref (241 + a), .ref (241 + b), .int (nI (popc m)), .int (nI (sumW (wN Y m sh s) - sumW X)), .int (nI c), .int (nI sh), .int (nI s), y11]) (st' := [.int (nI s), .ref (241 + b), .int (nI s), .ref 247, .int (nI sh)]) (I1 := J) 5 rfl ?_
      refine WP.iald rfl (KdW b hb) (NNW b hb) (by omega) (by decide) ?_
      refine WP.cg (st' := [.int (nI (Y (21 + s))), .int (nI s), .ref 247, .int (nI sh)]) rfl (congrArg (fun z : Int32 => (.int z :: [.int (nI s), .ref 247, .int (nI sh)] : List Value)) ((hJ s (by omega)).trans (congrArg nI (wN_o s (21 + s) (by omega) (by omega))))) rfl ?_
      refine WP.run (pc' := 85) (L' := [.ref 225, .ref 247, .int (nI due), .int (nI m), .ref (241 + a), .ref (241 + b), .int (nI (popc m)), .int (nI (sumW (wN Y m sh s) - sumW X)), .int (nI c), .int (nI sh), .int (nI s), y11]) (st' := [.int (nI (popc m)), .int (nI (Y (21 + s))), .int (nI s), .ref 247, .int (nI sh)]) (I1 := J) 1 rfl ?_
      refine WP.callV (rest := [.int (nI sh)]) rfl rfl (sp_holds (d := d + 1) (s := s) (w := Y (21 + s)) (many := popc m) hJT hN (by omega) (by omega) (by omega)) ?_
      refine WP.run (pc' := if (nI sh) ≤ ((nI (capN N s (popc m))) - (nI (Y (21 + s)))) then 94 else 91) (L' := [.ref 225, .ref 247, .int (nI due), .int (nI m), .ref (241 + a), .ref (241 + b), .int (nI (popc m)), .int (nI (sumW (wN Y m sh s) - sumW X)), .int (nI c), .int (nI sh), .int (nI s), y11]) (st' := []) (I1 := J) 1 rfl ?_
      refine WP.br (fun h3 => ?_) (fun h3 => ?_)
      · have h3 : sh + (Y (21 + s)) ≤ (capN N s (popc m)) := (le_sub_ (by omega) (by omega) (by omega)).mp h3
        refine WP.run (pc' := 99) (L' := [.ref 225, .ref 247, .int (nI due), .int (nI m), .ref (241 + a), .ref (241 + b), .int (nI (popc m)), .int (nI (sumW (wN Y m sh s) - sumW X)), .int (nI c), .int (nI sh), .int (nI s), y11]) (st' := [.int (nI sh), .int (nI s), .ref 247]) (I1 := J) 3 rfl ?_
        refine WP.callV (rest := []) rfl rfl (sp_wear (d := d + 1) (s := s) (sh := sh) hJT hN (by omega) (by omega)) ?_
        refine WP.run (pc' := 109) (L' := [.ref 225, .ref 247, .int (nI due), .int (nI m), .ref (241 + a), .ref (241 + b), .int (nI (popc m)), .int (nI (sumW (wN Y m sh s) - sumW X)), .int (nI c), .int (nI sh), .int (nI s), .int (nI (wearN (N (9 + s)) sh))]) (st' := [.int (nI s), .ref (241 + b), .int (nI s), .ref (241 + b)]) (I1 := J) 4 rfl ?_
        refine WP.iald rfl (KdW b hb) (NNW b hb) (by omega) (by decide) ?_
        refine WP.cg (st' := [.int (nI (Y (21 + s))), .int (nI s), .ref (241 + b)]) rfl (congrArg (fun z : Int32 => (.int z :: [.int (nI s), .ref (241 + b)] : List Value)) ((hJ s (by omega)).trans (congrArg nI (wN_o s (21 + s) (by omega) (by omega))))) rfl ?_
        refine WP.run (pc' := 113) (L' := [.ref 225, .ref 247, .int (nI due), .int (nI m), .ref (241 + a), .ref (241 + b), .int (nI (popc m)), .int (nI (sumW (wN Y m sh s) - sumW X)), .int (nI c), .int (nI sh), .int (nI s), .int (nI (wearN (N (9 + s)) sh))]) (st' := [.int ((nI (Y (21 + s))) + (nI (wearN (N (9 + s)) sh))), .int (nI s), .ref (241 + b)]) (I1 := J) 2 rfl ?_
        refine WP.cg (st' := [.int (nI ((Y (21 + s)) + (wearN (N (9 + s)) sh))), .int (nI s), .ref (241 + b)]) rfl (congrArg (fun z : Int32 => (.int z :: [.int (nI s), .ref (241 + b)] : List Value)) (nI_add (Y (21 + s)) (wearN (N (9 + s)) sh))) rfl ?_
        refine WP.iast rfl (KdW b hb) (NNW b hb) (by omega) (by decide) ?_
        refine WP.run (pc' := 119) (L' := [.ref 225, .ref 247, .int (nI due), .int (nI m), .ref (241 + a), .ref (241 + b), .int (nI (popc m)), .int (nI (sumW (wN Y m sh s) - sumW X)), .int (nI c), .int (nI sh), .int (nI s), .int (nI (wearN (N (9 + s)) sh))]) (st' := [.int ((nI (sumW (wN Y m sh s) - sumW X)) + (nI (wearN (N (9 + s)) sh)))]) (I1 := (upN J (241 + b) s (nI ((Y (21 + s)) + (wearN (N (9 + s)) sh))))) 3 rfl ?_
        refine WP.cg (st' := [.int (nI ((sumW (wN Y m sh s) - sumW X) + (wearN (N (9 + s)) sh)))]) rfl (congrArg (fun z : Int32 => (.int z :: [] : List Value)) (nI_add (sumW (wN Y m sh s) - sumW X) (wearN (N (9 + s)) sh))) rfl ?_
        refine WP.run (pc' := 124) (L' := [.ref 225, .ref 247, .int (nI due), .int (nI m), .ref (241 + a), .ref (241 + b), .int (nI (popc m)), .int (nI ((sumW (wN Y m sh s) - sumW X) + (wearN (N (9 + s)) sh))), .int (nI c), .int (nI sh), .int ((nI s) + nI 1), .int (nI (wearN (N (9 + s)) sh))]) (st' := []) (I1 := (upN J (241 + b) s (nI ((Y (21 + s)) + (wearN (N (9 + s)) sh))))) 2 rfl ?_
        refine WP.cg (L' := [.ref 225, .ref 247, .int (nI due), .int (nI m), .ref (241 + a), .ref (241 + b), .int (nI (popc m)), .int (nI ((sumW (wN Y m sh s) - sumW X) + (wearN (N (9 + s)) sh))), .int (nI c), .int (nI sh), .int (nI (s + 1)), .int (nI (wearN (N (9 + s)) sh))]) (congrArg (fun z : Int32 => ([.ref 225, .ref 247, .int (nI due), .int (nI m), .ref (241 + a), .ref (241 + b), .int (nI (popc m)), .int (nI ((sumW (wN Y m sh s) - sumW X) + (wearN (N (9 + s)) sh))), .int (nI c), .int (nI sh), .int z, .int (nI (wearN (N (9 + s)) sh))] : List Value)) (nI_add s 1)) rfl rfl ?_
        refine WP.run (pc' := 54) (L' := [.ref 225, .ref 247, .int (nI due), .int (nI m), .ref (241 + a), .ref (241 + b), .int (nI (popc m)), .int (nI ((sumW (wN Y m sh s) - sumW X) + (wearN (N (9 + s)) sh))), .int (nI c), .int (nI sh), .int (nI (s + 1)), .int (nI (wearN (N (9 + s)) sh))]) (st' := []) (I1 := (upN J (241 + b) s (nI ((Y (21 + s)) + (wearN (N (9 + s)) sh))))) 1 rfl ?_
        have hw9 := sumW_wN (Y := Y) (m := m) (sh := sh) (s := s) (by omega)
        have hge := sumW_wN_ge (Y := Y) (m := m) (sh := sh) s (by omega)
        rw [if_pos (by assumption), hsY (9 + s) (by omega)] at hw9
        refine WP.cg (L' := [.ref 225, .ref 247, .int (nI due), .int (nI m), .ref (241 + a), .ref (241 + b), .int (nI (popc m)), .int (nI (sumW (wN Y m sh (s + 1)) - sumW X)), .int (nI c), .int (nI sh), .int (nI (s + 1)), .int (nI (wearN (N (9 + s)) sh))]) (by rw [hw9]; exact congrArg (fun z : Nat => ([.ref 225, .ref 247, .int (nI due), .int (nI m), .ref (241 + a), .ref (241 + b), .int (nI (popc m)), .int (nI z), .int (nI c), .int (nI sh), .int (nI (s + 1)), .int (nI (wearN (N (9 + s)) sh))] : List Value)) (by omega)) rfl rfl (ih (by omega) (fun r hr hbr => ?_) _ _ (fun k hk => ?_) (hO.up rfl))
        · by_cases q : r = s
          · subst q
            assumption
          · exact hall r (by omega) hbr
        · rw [show wN Y m sh (s + 1) = setN (wN Y m sh s) (21 + s) _ from if_pos (by assumption)]
          by_cases q : k = s
          · subst q
            rw [upN_s, setN_s, wN_o k (21 + k) (by omega) (by omega), wN_o k (9 + k) (by omega) (by omega), hsY (9 + k) (by omega)]
          · rw [upN_nk q, setN_o (by omega)]
            exact hJ k hk
      · have h3 : ¬ (sh + (Y (21 + s)) ≤ (capN N s (popc m))) := fun q => h3 ((le_sub_ (by omega) (by omega) (by omega)).mpr q)
        refine WP.run (pc' := 93) (L' := [.ref 225, .ref 247, .int (nI due), .int (nI m), .ref (241 + a), .ref (241 + b), .int (nI (popc m)), .int (nI (sumW (wN Y m sh s) - sumW X)), .int (nI c), .int (nI sh), .int (nI s), y11]) (st' := [.int (nI 1000000)]) (I1 := J) 1 rfl ?_
        exact WP.ret rfl rfl (by
                  refine gf J hO (fun q => ?_)
                  have hz := brkP_z _ q s (by rw [e2]; omega) (by assumption)
                  rw [same_cap hsY (by omega)] at hz
                  omega)
set_option maxRecDepth 100000 in
theorem lc_out {d : Nat} {I : Pl} {N X : Nat → Nat} {due m a b : Nat} (hT : Tw I 247 N) (hN : TI N) (hX : TI X) (hsX : same X N) (hm : m < 64) (hdu : due < 32) (hmd : ¬ m = 0 ∨ due = 0) (hb : b < 4) : ∀ c, c ≤ N 3 → (clA X due m c).2 = true → ∀ J y9 y10 y11, (∀ k, k < 6 → J (241 + b) k = nI ((clA X due m c).1 (21 + k))) → Only I J (onB b) → WP (d + 2) (36, 2, (some .int), sc0) 23 ([.ref 225, .ref 247, .int (nI due), .int (nI m), .ref (241 + a), .ref (241 + b), .int (nI (popc m)), .int (nI (sumW (clA X due m c).1 - sumW X)), .int (nI c), y9, y10, y11]) [] J (fun v K => v = some (.int (nI (lav X due m))) ∧ ((clA X due m (X 3)).2 = true → ∀ k, k < 6 → K (241 + b) k = nI ((clA X due m (X 3)).1 (21 + k))) ∧ Only I K (onB b)) := by
  refine loopUp (fun c hc ih => ?_)
  intro hok J y9 y10 y11 hJ hO
  have hJT : Tw J 247 N := hT.cg (fun o k x y => hO o k (fun z => by have z2 : o = 241 + b := z; omega))
  obtain ⟨b0, b1, b2, b3, b4, b5, b6, b7, b8, bS, bC, bS1, bC1, bZ, bG⟩ := id hN
  obtain ⟨s6, s7, s64⟩ := hN.set64
  have e3 : X 3 = N 3 := hsX 3 (by omega)
  obtain ⟨y1, y2, y3⟩ := clA_I (due := due) hX hm c (by omega)
  have hsY : same (clA X due m c).1 N := y2.tr hsX
  have hbl := bitN_lt due c
  have hpl : c < 5 → shareN (pullN N (N (27 + c))) m ≤ 99 := fun q => Nat.le_trans shareN_le (pullN_le (bC c q).1)
  refine WP.run (pc' := 29) (L' := [.ref 225, .ref 247, .int (nI due), .int (nI m), .ref (241 + a), .ref (241 + b), .int (nI (popc m)), .int (nI (sumW (clA X due m c).1 - sumW X)), .int (nI c), y9, y10, y11]) (st' := [.int (J 247 8), .int (nI c)]) (I1 := J) 3 rfl ?_
  refine WP.cg (st' := [.int (nI (N 3)), .int (nI c)]) rfl (congrArg (fun z : Int32 => (.int z :: [.int (nI c)] : List Value)) (hJT.f8)) rfl ?_
  refine WP.run (pc' := if (nI (N 3)) ≤ (nI c) then 133 else 32) (L' := [.ref 225, .ref 247, .int (nI due), .int (nI m), .ref (241 + a), .ref (241 + b), .int (nI (popc m)), .int (nI (sumW (clA X due m c).1 - sumW X)), .int (nI c), y9, y10, y11]) (st' := []) (I1 := J) 1 rfl ?_
  refine WP.br (fun h1 => ?_) (fun h1 => ?_)
  · have h1 : N 3 ≤ c := nI_le_ (by omega) (by omega) h1
    refine WP.run (pc' := 135) (L' := [.ref 225, .ref 247, .int (nI due), .int (nI m), .ref (241 + a), .ref (241 + b), .int (nI (popc m)), .int (nI (sumW (clA X due m c).1 - sumW X)), .int (nI c), y9, y10, y11]) (st' := [.int (nI (sumW (clA X due m c).1 - sumW X))]) (I1 := J) 1 rfl ?_
    exact WP.ret rfl rfl (by
          have hcN : X 3 = c := by omega
          refine ⟨?_, fun _ => by rw [hcN]; exact hJ, hO⟩
          unfold lav
          rw [hcN, hok]
          rfl)
  · have h1 : ¬ N 3 ≤ c := fun q => h1 (nI_le_r (by omega) q)
    refine WP.run (pc' := 35) (L' := [.ref 225, .ref 247, .int (nI due), .int (nI m), .ref (241 + a), .ref (241 + b), .int (nI (popc m)), .int (nI (sumW (clA X due m c).1 - sumW X)), .int (nI c), y9, y10, y11]) (st' := [.int (nI c), .int (nI due)]) (I1 := J) 2 rfl ?_
    refine WP.callV (rest := []) rfl rfl (sp_bit (d := d + 1) (m := due) (i := c) (by omega) (by omega)) ?_
    refine WP.run (pc' := if ¬ (nI (bitN due c)) = (nI 1) then 127 else 42) (L' := [.ref 225, .ref 247, .int (nI due), .int (nI m), .ref (241 + a), .ref (241 + b), .int (nI (popc m)), .int (nI (sumW (clA X due m c).1 - sumW X)), .int (nI c), y9, y10, y11]) (st' := []) (I1 := J) 2 rfl ?_
    refine WP.br (fun h2 => ?_) (fun h2 => ?_)
    · have h2 : ¬ bitN due c = 1 := fun q => h2 (nI_eq_r q)
      refine WP.run (pc' := 130) (L' := [.ref 225, .ref 247, .int (nI due), .int (nI m), .ref (241 + a), .ref (241 + b), .int (nI (popc m)), .int (nI (sumW (clA X due m c).1 - sumW X)), .int ((nI c) + nI 1), y9, y10, y11]) (st' := []) (I1 := J) 1 rfl ?_
      refine WP.cg (L' := [.ref 225, .ref 247, .int (nI due), .int (nI m), .ref (241 + a), .ref (241 + b), .int (nI (popc m)), .int (nI (sumW (clA X due m c).1 - sumW X)), .int (nI (c + 1)), y9, y10, y11]) (congrArg (fun z : Int32 => ([.ref 225, .ref 247, .int (nI due), .int (nI m), .ref (241 + a), .ref (241 + b), .int (nI (popc m)), .int (nI (sumW (clA X due m c).1 - sumW X)), .int z, y9, y10, y11] : List Value)) (nI_add c 1)) rfl rfl ?_
      refine WP.run (pc' := 23) (L' := [.ref 225, .ref 247, .int (nI due), .int (nI m), .ref (241 + a), .ref (241 + b), .int (nI (popc m)), .int (nI (sumW (clA X due m c).1 - sumW X)), .int (nI (c + 1)), y9, y10, y11]) (st' := []) (I1 := J) 1 rfl ?_
      have hn := clA_n hok (by assumption)
      refine WP.cg (L' := [.ref 225, .ref 247, .int (nI due), .int (nI m), .ref (241 + a), .ref (241 + b), .int (nI (popc m)), .int (nI (sumW (clA X due m (c + 1)).1 - sumW X)), .int (nI (c + 1)), y9, y10, y11]) (by rw [hn]) rfl rfl (ih (by omega) (by rw [hn]; exact hok) J _ _ _ (by rw [hn]; exact hJ) hO)
    · have h2 : bitN due c = 1 := nI_eq_ (by omega) (by omega) (Decidable.byContradiction h2)
      refine WP.run (pc' := 46) (L' := [.ref 225, .ref 247, .int (nI due), .int (nI m), .ref (241 + a), .ref (241 + b), .int (nI (popc m)), .int (nI (sumW (clA X due m c).1 - sumW X)), .int (nI c), y9, y10, y11]) (st' := [.int (nI m), .int (nI c), .ref 247]) (I1 := J) 3 rfl ?_
      refine WP.callV (rest := []) rfl rfl (sp_strain (d := d) (c := c) (m := m) hJT hN (by omega) (by omega)) ?_
      refine WP.run (pc' := 54) (L' := [.ref 225, .ref 247, .int (nI due), .int (nI m), .ref (241 + a), .ref (241 + b), .int (nI (popc m)), .int (nI (sumW (clA X due m c).1 - sumW X)), .int (nI c), .int (nI (shareN (pullN N (N (27 + c))) m)), .int (nI 0), y11]) (st' := []) (I1 := J) 3 rfl ?_
      have hm0 : ¬ m = 0 := by
        rcases hmd with q | q
        · exact q
        · have hz : bitN due c = 1 := by assumption
          rw [q] at hz
          unfold bitN at hz
          rw [Nat.zero_div] at hz
          exact absurd hz (by decide)
      have hshE : shA (clA X due m c).1 m c = (shareN (pullN N (N (27 + c))) m) := by
        unfold shA
        rw [same_pull hsY, hsY (27 + c) (by omega)]
      have hborn : brkN (clA X due m c).1 m (shareN (pullN N (N (27 + c))) m) = 0 → bornN (clA X due m c).1 ((clA X due m c).1 (27 + c)) m = true := fun q => by
        refine bornT hm0 ?_
        rw [← hshE] at q
        exact q
      have hborn2 : ¬ brkN (clA X due m c).1 m (shareN (pullN N (N (27 + c))) m) = 0 → ¬ bornN (clA X due m c).1 ((clA X due m c).1 (27 + c)) m = true := fun q => by
        refine bornF2 ?_
        rw [← hshE] at q
        exact q
      refine WP.cg (L' := [.ref 225, .ref 247, .int (nI due), .int (nI m), .ref (241 + a), .ref (241 + b), .int (nI (popc m)), .int (nI (sumW (wN (clA X due m c).1 m (shareN (pullN N (N (27 + c))) m) 0) - sumW X)), .int (nI c), .int (nI (shareN (pullN N (N (27 + c))) m)), .int (nI 0), y11]) rfl rfl rfl ?_
      refine lc_in (Y := (clA X due m c).1) (X := X) (sh := (shareN (pullN N (N (27 + c))) m)) hT hN y1 hsY (sumW_mono y3) hm hb (by omega) (hpl (by omega)) (fun K z11 hK hOK hbz => ?_) (fun K hOK hbz => ?_) 0 (Nat.zero_le _) (fun r hr => absurd hr (Nat.not_lt_zero _)) J _ hJ hO
      · have hy := clA_y hok (by assumption) (hborn hbz)
        rw [hshE, hsY 2 (by omega)] at hy
        refine WP.run (pc' := 23) (L' := [.ref 225, .ref 247, .int (nI due), .int (nI m), .ref (241 + a), .ref (241 + b), .int (nI (popc m)), .int (nI (sumW (wN (clA X due m c).1 m (shareN (pullN N (N (27 + c))) m) (N 2)) - sumW X)), .int (nI c + nI 1), .int (nI (shareN (pullN N (N (27 + c))) m)), .int (nI (N 2)), z11]) (st' := []) (I1 := K) 2 rfl ?_
        refine WP.cg (L' := [.ref 225, .ref 247, .int (nI due), .int (nI m), .ref (241 + a), .ref (241 + b), .int (nI (popc m)), .int (nI (sumW (clA X due m (c + 1)).1 - sumW X)), .int (nI (c + 1)), .int (nI (shareN (pullN N (N (27 + c))) m)), .int (nI (N 2)), z11]) (by rw [hy, nI_add]) rfl rfl (ih (by omega) (by rw [hy]) K _ _ _ (by rw [hy]; exact hK) hOK)
      · have hf := clA_f hok (by assumption) (hborn2 hbz)
        have hf2 : (clA X due m (X 3)).2 = false := by
          have := clA_stay hf (N 3 - (c + 1))
          rw [show c + 1 + (N 3 - (c + 1)) = X 3 by omega] at this
          exact this
        refine ⟨?_, fun q => ?_, hOK⟩
        · unfold lav
          rw [hf2]
          rfl
        · rw [hf2] at q
          cases q
set_option maxRecDepth 100000 in
theorem sp_lac {d : Nat} {I : Pl} {N X : Nat → Nat} {due m a b : Nat} (hT : Tw I 247 N) (hN : TI N) (hX : TI X) (hsX : same X N) (hm : m < 64) (hdu : due < 32) (hmd : ¬ m = 0 ∨ due = 0) (hb : b < 4) (ha : a < 4) (hab : ¬ a = b) (hW : ∀ k, k < 6 → I (241 + a) k = nI (X (21 + k))) : EvX (d + 3) 36 [.ref 225, .ref 247, .int (nI due), .int (nI m), .ref (241 + a), .ref (241 + b)] I (fun v K => v = some (.int (nI (lav X due m))) ∧ ((clA X due m (X 3)).2 = true → ∀ k, k < 6 → K (241 + b) k = nI ((clA X due m (X 3)).1 (21 + k))) ∧ Only I K (onB b)) := by
  refine EvX.enter rfl rfl rfl ?_
  refine WP.run (pc' := 8) (L' := [.ref 225, .ref 247, .int (nI due), .int (nI m), .ref (241 + a), .ref (241 + b), UU, UU, UU, UU, UU, UU]) (st' := [.int (nI 6), .int (nI 0), .ref (241 + b), .int (nI 0), .ref (241 + a)]) (I1 := I) 5 rfl ?_
  refine WP.copy rfl rfl (KdW a ha) (KdW b hb) (NNW a ha) (NNW b hb) (by omega) (by omega) (by decide) (by decide) ?_
  refine WP.run (pc' := 12) (L' := [.ref 225, .ref 247, .int (nI due), .int (nI m), .ref (241 + a), .ref (241 + b), UU, UU, UU, UU, UU, UU]) (st' := [.int (nI m)]) (I1 := (cpy I (241 + a) (241 + b) 0 0 6)) 1 rfl ?_
  refine WP.callV (rest := []) rfl rfl (sp_bitCount (d := d + 1) (m := m) (by omega)) ?_
  refine WP.run (pc' := 23) (L' := [.ref 225, .ref 247, .int (nI due), .int (nI m), .ref (241 + a), .ref (241 + b), .int (nI (popc m)), .int (nI 0), .int (nI 0), UU, UU, UU]) (st' := []) (I1 := (cpy I (241 + a) (241 + b) 0 0 6)) 5 rfl ?_
  refine WP.cg (L' := [.ref 225, .ref 247, .int (nI due), .int (nI m), .ref (241 + a), .ref (241 + b), .int (nI (popc m)), .int (nI (sumW (clA X due m 0).1 - sumW X)), .int (nI 0), UU, UU, UU]) (by rw [show sumW (clA X due m 0).1 - sumW X = 0 from Nat.sub_self _]) rfl rfl ?_
  exact lc_out hT hN hX hsX hm hdu hmd hb 0 (Nat.zero_le _) rfl _ _ _ _ (fun k hk => (cpy_b hk).trans (hW k hk)) (fun o k q => cpy_o q)
