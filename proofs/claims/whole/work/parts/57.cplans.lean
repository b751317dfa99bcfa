/-! the class's planner: what is asked of it -/
def LsC (I : Pl) (N : Nat → Nat) (d : Nat) : Prop := I 227 d = nI (planN N d).1 ∧ ((planN N d).1 < 1000000 → ∀ k, k < d → I (229 + d) k = nI ((planN N d).2 k))
def KnC (I : Pl) (N : Nat → Nat) : Prop := WgC I N ∧ ∀ d, 1 ≤ d → d ≤ 3 → I 226 d = nI 0 ∨ (I 226 d = nI 1 ∧ LsC I N d)
def CPlan (I : Pl) (N : Nat → Nat) : Prop := PlF I ∨ KnC I N
theorem upN_ne2 {f : Pl} {a j o k : Nat} {v : Int32} (h : ¬ (o = a ∧ k = j)) : upN f a j v o k = f o k := by
  by_cases q : o = a
  · exact upN_nk (fun z => h ⟨q, z⟩)
  · exact upN_no q
theorem planN_le {N : Nat → Nat} {d : Nat} (hN : TI N) : (planN N d).1 ≤ 1000000 := srch_lt d 0 N Z0 (1000000, Z0) hN ⟨Nat.le_refl _, by decide⟩
theorem SrC_start {J P : Pl} {N : Nat → Nat} {dd : Nat} (hW : WgC J N) (hP : ∀ o k, ¬ o = 239 → ¬ o = 227 → P o k = J o k) (h1 : ∀ t, t ≤ dd → P 239 t = nI (laN N (dd - t) t)) (h2 : P 227 dd = nI 1000000) : SrC P N dd 0 N Z0 (1000000, Z0) := by
  refine ⟨fun t ht m hm => ?_, h1, fun k hk => ?_, fun k hk => absurd hk (Nat.not_lt_zero _), h2, fun q => absurd q (by show ¬ 1000000 < 1000000; omega)⟩
  · rw [hP _ _ (by omega) (by omega)]
    exact (hW.2.1 t ht).1 m hm
  · rw [hP _ _ (by omega) (by omega)]
    exact hW.2.2 k hk
theorem KnC_next {J P K : Pl} {N : Nat → Nat} {dd : Nat} (hd1 : 1 ≤ dd) (hd3 : dd ≤ 3) (h : KnC J N) (hP : ∀ o k, ¬ o = 239 → ¬ (o = 227 ∧ k = dd) → P o k = J o k) (hO : Only P K (seP dd 0)) (h1 : K 227 dd = nI (planN N dd).1) (h2 : (planN N dd).1 < 1000000 → ∀ k, k < dd → K (229 + dd) k = nI ((planN N dd).2 k)) : KnC (upN K 226 dd (nI 1)) N ∧ LsC (upN K 226 dd (nI 1)) N dd := by
  obtain ⟨⟨w0, w1, w2⟩, hk⟩ := h
  have key : ∀ o k, ¬ o = 226 → ¬ o = 239 → ¬ (o = 227 ∧ k = dd) → ¬ o = 229 + dd → ¬ o = 233 → ¬ (241 < o ∧ o ≤ 244) → upN K 226 dd (nI 1) o k = J o k := by
    intro o k q1 q2 q3 q4 q5 q6
    rw [upN_no q1, hO o k (fun z => by rcases z with z | z | z | z <;> omega), hP o k q2 q3]
  have hL : LsC (upN K 226 dd (nI 1)) N dd := ⟨by rw [upN_no (by decide)]; exact h1, fun q k hk => by rw [upN_no (by omega)]; exact h2 q k hk⟩
  refine ⟨⟨⟨?_, fun t ht => ⟨fun m hm => ?_, ?_⟩, fun k hk => ?_⟩, fun d e1 e2 => ?_⟩, hL⟩
  · rw [key _ _ (by omega) (by omega) (by omega) (by omega) (by omega) (by omega)]; exact w0
  · rw [key _ _ (by omega) (by omega) (by omega) (by omega) (by omega) (by omega)]; exact (w1 t ht).1 m hm
  · rw [key _ _ (by omega) (by omega) (by omega) (by omega) (by omega) (by omega)]; exact (w1 t ht).2
  · rw [key _ _ (by omega) (by omega) (by omega) (by omega) (by omega) (by omega)]; exact w2 k hk
  · by_cases q : d = dd
    · subst q
      exact Or.inr ⟨upN_s, hL⟩
    · rw [upN_nk q, hO 226 d (fun z => by rcases z with z | z | z | z <;> omega), hP 226 d (by omega) (by omega)]
      rcases hk d e1 e2 with z | ⟨z, l1, l2⟩
      · exact Or.inl z
      · exact Or.inr ⟨z, by rw [key _ _ (by omega) (by omega) (by omega) (by omega) (by omega) (by omega)]; exact l1, fun p k hk => by rw [key _ _ (by omega) (by omega) (by omega) (by omega) (by omega) (by omega)]; exact l2 p k hk⟩
set_option maxRecDepth 100000 in
theorem ip_1 {d : Nat} {I J : Pl} {N : Nat → Nat} (hT : Tw J 247 N) (hN : TI N) (hK : KnC J N) (hO : Only I J pnP) (y : Value) : WP (d + 8) (41, 2, (some .boolean), sc0) 12 [.ref 225, .ref 247, .int (nI 1), y] [] J (fun v K => v = some (.int (b2i ((planN N 1).1 < 1000000))) ∧ KnC K N ∧ LsC K N 1 ∧ Only I K pnP) := by
  have hpl := planN_le (d := 1) hN
  have hlo0 := loP_le (N := N) (day := 0) 64
  have hlo1 := loP_le (N := N) (day := 1) 64
  have hlo2 := loP_le (N := N) (day := 2) 64
  refine WP.run (pc' := 17) (L' := [.ref 225, .ref 247, .int (nI 1), y]) (st' := [.int (nI 1), .ref 226]) (I1 := J) 3 rfl ?_
  refine WP.bald rfl rfl rfl (by decide) (by decide) ?_
  rcases hK.2 1 (by decide) (by decide) with h0 | ⟨h0, hL⟩
  · refine WP.cg (st' := [.int (nI 0)]) rfl (congrArg (fun z : Int32 => ([.int z] : List Value)) h0) rfl ?_
    refine WP.run (pc' := 27) (L' := [.ref 225, .ref 247, .int (nI 1), y]) (st' := [.int (nI 0), .int (nI 1), .ref 239]) (I1 := J) 5 rfl ?_
    refine WP.iast rfl rfl rfl (by decide) (by decide) ?_
    refine WP.run (pc' := 31) (L' := [.ref 225, .ref 247, .int (nI 1), y]) (st' := [.int ((nI 1) - (nI 1))]) (I1 := (upN J 239 1 (nI 0))) 3 rfl ?_
    refine WP.cg (st' := [.int (nI 0)]) rfl (congrArg (fun z : Int32 => (.int z :: [] : List Value)) (by rfl)) rfl ?_
    refine WP.run (pc' := 48) (L' := [.ref 225, .ref 247, .int (nI 1), .int (nI 0)]) (st' := [.int ((nI 0) + (nI 1)), .ref 239, .int (nI 0), .ref 239]) (I1 := (upN J 239 1 (nI 0))) 11 rfl ?_
    refine WP.cg (st' := [.int (nI 1), .ref 239, .int (nI 0), .ref 239]) rfl (congrArg (fun z : Int32 => (.int z :: [.ref 239, .int (nI 0), .ref 239] : List Value)) (by rfl)) rfl ?_
    refine WP.iald rfl rfl rfl (by decide) (by decide) ?_
    refine WP.cg (st' := [.int (nI 0), .int (nI 0), .ref 239]) rfl (congrArg (fun z : Int32 => (.int z :: [.int (nI 0), .ref 239] : List Value)) (rfl)) rfl ?_
    refine WP.run (pc' := 54) (L' := [.ref 225, .ref 247, .int (nI 1), .int (nI 0)]) (st' := [.int (nI 0), .ref 238, .int (nI 0), .int (nI 0), .ref 239]) (I1 := (upN J 239 1 (nI 0))) 3 rfl ?_
    refine WP.iald rfl rfl rfl (by decide) (by decide) ?_
    refine WP.cg (st' := [.int (nI (loP N 0 64)), .int (nI 0), .int (nI 0), .ref 239]) rfl (congrArg (fun z : Int32 => (.int z :: [.int (nI 0), .int (nI 0), .ref 239] : List Value)) ((hK.1.2.1 0 (by decide)).2)) rfl ?_
    refine WP.run (pc' := 56) (L' := [.ref 225, .ref 247, .int (nI 1), .int (nI 0)]) (st' := [.int ((nI 0) + (nI (loP N 0 64))), .int (nI 0), .ref 239]) (I1 := (upN J 239 1 (nI 0))) 1 rfl ?_
    refine WP.cg (st' := [.int (nI (0 + (loP N 0 64))), .int (nI 0), .ref 239]) rfl (congrArg (fun z : Int32 => (.int z :: [.int (nI 0), .ref 239] : List Value)) (nI_add 0 (loP N 0 64))) rfl ?_
    refine WP.iast rfl rfl rfl (by decide) (by decide) ?_
    refine WP.run (pc' := 60) (L' := [.ref 225, .ref 247, .int (nI 1), .int ((nI 0) + -1)]) (st' := []) (I1 := (upN (upN J 239 1 (nI 0)) 239 0 (nI (0 + (loP N 0 64))))) 1 rfl ?_
    refine WP.cg (L' := [.ref 225, .ref 247, .int (nI 1), .int (-1)]) (by rfl) rfl rfl ?_
    refine WP.run (pc' := 70) (L' := [.ref 225, .ref 247, .int (nI 1), .int (-1)]) (st' := [.int (nI 1000000), .int (nI 1), .ref 227]) (I1 := (upN (upN J 239 1 (nI 0)) 239 0 (nI (0 + (loP N 0 64))))) 7 rfl ?_
    refine WP.iast rfl rfl rfl (by decide) (by decide) ?_
    have hOP : Only J (upN (upN (upN J 239 1 (nI 0)) 239 0 (nI (0 + (loP N 0 64)))) 227 1 (nI 1000000)) pnP := (Only.up (Only.up (Only.up Only.rfl_ (Or.inr ⟨by decide, by decide⟩)) (Or.inr ⟨by decide, by decide⟩)) (Or.inr ⟨by decide, by decide⟩))
    refine WP.run (pc' := 76) (L' := [.ref 225, .ref 247, .int (nI 1), .int (-1)]) (st' := [.int (nI 0), .int (nI 0), .int (nI 1), .ref 247, .ref 225]) (I1 := (upN (upN (upN J 239 1 (nI 0)) 239 0 (nI (0 + (loP N 0 64)))) 227 1 (nI 1000000))) 5 rfl ?_
    refine WP.cg (st' := [.int (nI (sumW N - sumW N)), .int (nI 0), .int (nI 1), .ref 247, .ref 225]) rfl (by rw [Nat.sub_self]) rfl ?_
    refine WP.callX (rest := []) rfl rfl (sp_search (d := d + 2) (dd := 1) hN (by decide) 1 (upN (upN (upN J 239 1 (nI 0)) 239 0 (nI (0 + (loP N 0 64)))) 227 1 (nI 1000000)) N Z0 (1000000, Z0) 0 rfl (hT.cg (fun o k x y => by (repeat rw [upN_no (by omega)]))) hN same.rfl_ (fun k hk => Nat.le_refl _) (Nat.le_refl _) (SrC_start (P := (upN (upN (upN J 239 1 (nI 0)) 239 0 (nI (0 + (loP N 0 64)))) 227 1 (nI 1000000))) (dd := 1) hK.1 (fun o k q1 q2 => by (repeat rw [upN_no (by omega)])) (fun t ht => by
          have ht2 : t = 0 ∨ t = 1 := by omega
          rcases ht2 with rfl | rfl <;> rfl) rfl)) (fun v J2 hv => ?_)
    obtain ⟨rfl, k1, k2, hO2⟩ := hv
    refine WP.run (pc' := 85) (L' := [.ref 225, .ref 247, .int (nI 1), .int (-1)]) (st' := [.int (nI 1), .int (nI 1), .ref 226]) (I1 := J2) 4 rfl ?_
    refine WP.bast rfl rfl rfl (by decide) (by decide) (by decide) ?_
    have hN2 := KnC_next (J := J) (dd := 1) (by decide) (by decide) hK (fun o k q1 q2 => by rw [upN_ne2 q2]; (repeat rw [upN_no (by omega)])) hO2 k1 k2
    refine WP.run (pc' := 91) (L' := [.ref 225, .ref 247, .int (nI 1), .int (-1)]) (st' := [.int (nI 1), .ref 227]) (I1 := (upN J2 226 1 (nI 1))) 3 rfl ?_
    refine WP.iald rfl rfl rfl (by decide) (by decide) ?_
    refine WP.cg (st' := [.int (nI ((planN N 1).1))]) rfl (congrArg (fun z : Int32 => (.int z :: [] : List Value)) (hN2.2.1)) rfl ?_
    refine WP.run (pc' := if (nI 1000000) ≤ (nI ((planN N 1).1)) then 101 else 97) (L' := [.ref 225, .ref 247, .int (nI 1), .int (-1)]) (st' := []) (I1 := (upN J2 226 1 (nI 1))) 2 rfl ?_
    refine WP.br (fun h1 => ?_) (fun h1 => ?_)
    · have h1 : 1000000 ≤ (planN N 1).1 := nI_le_ (by omega) (by omega) h1
      refine WP.run (pc' := 102) (L' := [.ref 225, .ref 247, .int (nI 1), .int (-1)]) (st' := [.int (nI 0)]) (I1 := (upN J2 226 1 (nI 1))) 1 rfl ?_
      exact WP.ret rfl rfl (⟨(congrArg (fun z : Int32 => some (Value.int z)) (b2iF (by omega)).symm), hN2.1, hN2.2, ((hO.tr hOP).tr (hO2.wk (fun o k z => Or.inr (by rcases z with z | z | z | z <;> omega)))).up (Or.inr ⟨by decide, by decide⟩)⟩)
    · have h1 : ¬ 1000000 ≤ (planN N 1).1 := fun q => h1 (nI_le_r (by omega) q)
      refine WP.run (pc' := 102) (L' := [.ref 225, .ref 247, .int (nI 1), .int (-1)]) (st' := [.int (nI 1)]) (I1 := (upN J2 226 1 (nI 1))) 2 rfl ?_
      exact WP.ret rfl rfl (⟨(congrArg (fun z : Int32 => some (Value.int z)) (b2iT (by omega)).symm), hN2.1, hN2.2, ((hO.tr hOP).tr (hO2.wk (fun o k z => Or.inr (by rcases z with z | z | z | z <;> omega)))).up (Or.inr ⟨by decide, by decide⟩)⟩)
  · refine WP.cg (st' := [.int (nI 1)]) rfl (congrArg (fun z : Int32 => ([.int z] : List Value)) h0) rfl ?_
    refine WP.run (pc' := 86) (L' := [.ref 225, .ref 247, .int (nI 1), y]) (st' := []) (I1 := J) 1 rfl ?_
    refine WP.run (pc' := 91) (L' := [.ref 225, .ref 247, .int (nI 1), y]) (st' := [.int (nI 1), .ref 227]) (I1 := J) 3 rfl ?_
    refine WP.iald rfl rfl rfl (by decide) (by decide) ?_
    refine WP.cg (st' := [.int (nI ((planN N 1).1))]) rfl (congrArg (fun z : Int32 => (.int z :: [] : List Value)) (hL.1)) rfl ?_
    refine WP.run (pc' := if (nI 1000000) ≤ (nI ((planN N 1).1)) then 101 else 97) (L' := [.ref 225, .ref 247, .int (nI 1), y]) (st' := []) (I1 := J) 2 rfl ?_
    refine WP.br (fun h2 => ?_) (fun h2 => ?_)
    · have h2 : 1000000 ≤ (planN N 1).1 := nI_le_ (by omega) (by omega) h2
      refine WP.run (pc' := 102) (L' := [.ref 225, .ref 247, .int (nI 1), y]) (st' := [.int (nI 0)]) (I1 := J) 1 rfl ?_
      exact WP.ret rfl rfl (⟨(congrArg (fun z : Int32 => some (Value.int z)) (b2iF (by omega)).symm), hK, hL, hO⟩)
    · have h2 : ¬ 1000000 ≤ (planN N 1).1 := fun q => h2 (nI_le_r (by omega) q)
      refine WP.run (pc' := 102) (L' := [.ref 225, .ref 247, .int (nI 1), y]) (st' := [.int (nI 1)]) (I1 := J) 2 rfl ?_
      exact WP.ret rfl rfl (⟨(congrArg (fun z : Int32 => some (Value.int z)) (b2iT (by omega)).symm), hK, hL, hO⟩)
set_option maxRecDepth 100000 in
theorem ip_2 {d : Nat} {I J : Pl} {N : Nat → Nat} (hT : Tw J 247 N) (hN : TI N) (hK : KnC J N) (hO : Only I J pnP) (y : Value) : WP (d + 8) (41, 2, (some .boolean), sc0) 12 [.ref 225, .ref 247, .int (nI 2), y] [] J (fun v K => v = some (.int (b2i ((planN N 2).1 < 1000000))) ∧ KnC K N ∧ LsC K N 2 ∧ Only I K pnP) := by
  have hpl := planN_le (d := 2) hN
  have hlo0 := loP_le (N := N) (day := 0) 64
  have hlo1 := loP_le (N := N) (day := 1) 64
  have hlo2 := loP_le (N := N) (day := 2) 64
  refine WP.run (pc' := 17) (L' := [.ref 225, .ref 247, .int (nI 2), y]) (st' := [.int (nI 2), .ref 226]) (I1 := J) 3 rfl ?_
  refine WP.bald rfl rfl rfl (by decide) (by decide) ?_
  rcases hK.2 2 (by decide) (by decide) with h0 | ⟨h0, hL⟩
  · refine WP.cg (st' := [.int (nI 0)]) rfl (congrArg (fun z : Int32 => ([.int z] : List Value)) h0) rfl ?_
    refine WP.run (pc' := 27) (L' := [.ref 225, .ref 247, .int (nI 2), y]) (st' := [.int (nI 0), .int (nI 2), .ref 239]) (I1 := J) 5 rfl ?_
    refine WP.iast rfl rfl rfl (by decide) (by decide) ?_
    refine WP.run (pc' := 31) (L' := [.ref 225, .ref 247, .int (nI 2), y]) (st' := [.int ((nI 2) - (nI 1))]) (I1 := (upN J 239 2 (nI 0))) 3 rfl ?_
    refine WP.cg (st' := [.int (nI 1)]) rfl (congrArg (fun z : Int32 => (.int z :: [] : List Value)) (by rfl)) rfl ?_
    refine WP.run (pc' := 48) (L' := [.ref 225, .ref 247, .int (nI 2), .int (nI 1)]) (st' := [.int ((nI 1) + (nI 1)), .ref 239, .int (nI 1), .ref 239]) (I1 := (upN J 239 2 (nI 0))) 11 rfl ?_
    refine WP.cg (st' := [.int (nI 2), .ref 239, .int (nI 1), .ref 239]) rfl (congrArg (fun z : Int32 => (.int z :: [.ref 239, .int (nI 1), .ref 239] : List Value)) (by rfl)) rfl ?_
    refine WP.iald rfl rfl rfl (by decide) (by decide) ?_
    refine WP.cg (st' := [.int (nI 0), .int (nI 1), .ref 239]) rfl (congrArg (fun z : Int32 => (.int z :: [.int (nI 1), .ref 239] : List Value)) (rfl)) rfl ?_
    refine WP.run (pc' := 54) (L' := [.ref 225, .ref 247, .int (nI 2), .int (nI 1)]) (st' := [.int (nI 1), .ref 238, .int (nI 0), .int (nI 1), .ref 239]) (I1 := (upN J 239 2 (nI 0))) 3 rfl ?_
    refine WP.iald rfl rfl rfl (by decide) (by decide) ?_
    refine WP.cg (st' := [.int (nI (loP N 1 64)), .int (nI 0), .int (nI 1), .ref 239]) rfl (congrArg (fun z : Int32 => (.int z :: [.int (nI 0), .int (nI 1), .ref 239] : List Value)) ((hK.1.2.1 1 (by decide)).2)) rfl ?_
    refine WP.run (pc' := 56) (L' := [.ref 225, .ref 247, .int (nI 2), .int (nI 1)]) (st' := [.int ((nI 0) + (nI (loP N 1 64))), .int (nI 1), .ref 239]) (I1 := (upN J 239 2 (nI 0))) 1 rfl ?_
    refine WP.cg (st' := [.int (nI (0 + (loP N 1 64))), .int (nI 1), .ref 239]) rfl (congrArg (fun z : Int32 => (.int z :: [.int (nI 1), .ref 239] : List Value)) (nI_add 0 (loP N 1 64))) rfl ?_
    refine WP.iast rfl rfl rfl (by decide) (by decide) ?_
    refine WP.run (pc' := 60) (L' := [.ref 225, .ref 247, .int (nI 2), .int ((nI 1) + -1)]) (st' := []) (I1 := (upN (upN J 239 2 (nI 0)) 239 1 (nI (0 + (loP N 1 64))))) 1 rfl ?_
    refine WP.cg (L' := [.ref 225, .ref 247, .int (nI 2), .int (nI 0)]) (by rfl) rfl rfl ?_
    refine WP.run (pc' := 48) (L' := [.ref 225, .ref 247, .int (nI 2), .int (nI 0)]) (st' := [.int ((nI 0) + (nI 1)), .ref 239, .int (nI 0), .ref 239]) (I1 := (upN (upN J 239 2 (nI 0)) 239 1 (nI (0 + (loP N 1 64))))) 11 rfl ?_
    refine WP.cg (st' := [.int (nI 1), .ref 239, .int (nI 0), .ref 239]) rfl (congrArg (fun z : Int32 => (.int z :: [.ref 239, .int (nI 0), .ref 239] : List Value)) (by rfl)) rfl ?_
    refine WP.iald rfl rfl rfl (by decide) (by decide) ?_
    refine WP.cg (st' := [.int (nI (0 + (loP N 1 64))), .int (nI 0), .ref 239]) rfl (congrArg (fun z : Int32 => (.int z :: [.int (nI 0), .ref 239] : List Value)) (rfl)) rfl ?_
    refine WP.run (pc' := 54) (L' := [.ref 225, .ref 247, .int (nI 2), .int (nI 0)]) (st' := [.int (nI 0), .ref 238, .int (nI (0 + (loP N 1 64))), .int (nI 0), .ref 239]) (I1 := (upN (upN J 239 2 (nI 0)) 239 1 (nI (0 + (loP N 1 64))))) 3 rfl ?_
    refine WP.iald rfl rfl rfl (by decide) (by decide) ?_
    refine WP.cg (st' := [.int (nI (loP N 0 64)), .int (nI (0 + (loP N 1 64))), .int (nI 0), .ref 239]) rfl (congrArg (fun z : Int32 => (.int z :: [.int (nI (0 + (loP N 1 64))), .int (nI 0), .ref 239] : List Value)) ((hK.1.2.1 0 (by decide)).2)) rfl ?_
    refine WP.run (pc' := 56) (L' := [.ref 225, .ref 247, .int (nI 2), .int (nI 0)]) (st' := [.int ((nI (0 + (loP N 1 64))) + (nI (loP N 0 64))), .int (nI 0), .ref 239]) (I1 := (upN (upN J 239 2 (nI 0)) 239 1 (nI (0 + (loP N 1 64))))) 1 rfl ?_
    refine WP.cg (st' := [.int (nI ((0 + (loP N 1 64)) + (loP N 0 64))), .int (nI 0), .ref 239]) rfl (congrArg (fun z : Int32 => (.int z :: [.int (nI 0), .ref 239] : List Value)) (nI_add (0 + (loP N 1 64)) (loP N 0 64))) rfl ?_
    refine WP.iast rfl rfl rfl (by decide) (by decide) ?_
    refine WP.run (pc' := 60) (L' := [.ref 225, .ref 247, .int (nI 2), .int ((nI 0) + -1)]) (st' := []) (I1 := (upN (upN (upN J 239 2 (nI 0)) 239 1 (nI (0 + (loP N 1 64)))) 239 0 (nI ((0 + (loP N 1 64)) + (loP N 0 64))))) 1 rfl ?_
    refine WP.cg (L' := [.ref 225, .ref 247, .int (nI 2), .int (-1)]) (by rfl) rfl rfl ?_
    refine WP.run (pc' := 70) (L' := [.ref 225, .ref 247, .int (nI 2), .int (-1)]) (st' := [.int (nI 1000000), .int (nI 2), .ref 227]) (I1 := (upN (upN (upN J 239 2 (nI 0)) 239 1 (nI (0 + (loP N 1 64)))) 239 0 (nI ((0 + (loP N 1 64)) + (loP N 0 64))))) 7 rfl ?_
    refine WP.iast rfl rfl rfl (by decide) (by decide) ?_
    have hOP : Only J (upN (upN (upN (upN J 239 2 (nI 0)) 239 1 (nI (0 + (loP N 1 64)))) 239 0 (nI ((0 + (loP N 1 64)) + (loP N 0 64)))) 227 2 (nI 1000000)) pnP := (Only.up (Only.up (Only.up (Only.up Only.rfl_ (Or.inr ⟨by decide, by decide⟩)) (Or.inr ⟨by decide, by decide⟩)) (Or.inr ⟨by decide, by decide⟩)) (Or.inr ⟨by decide, by decide⟩))
    refine WP.run (pc' := 76) (L' := [.ref 225, .ref 247, .int (nI 2), .int (-1)]) (st' := [.int (nI 0), .int (nI 0), .int (nI 2), .ref 247, .ref 225]) (I1 := (upN (upN (upN (upN J 239 2 (nI 0)) 239 1 (nI (0 + (loP N 1 64)))) 239 0 (nI ((0 + (loP N 1 64)) + (loP N 0 64)))) 227 2 (nI 1000000))) 5 rfl ?_
    refine WP.cg (st' := [.int (nI (sumW N - sumW N)), .int (nI 0), .int (nI 2), .ref 247, .ref 225]) rfl (by rw [Nat.sub_self]) rfl ?_
    refine WP.callX (rest := []) rfl rfl (sp_search (d := d + 1) (dd := 2) hN (by decide) 2 (upN (upN (upN (upN J 239 2 (nI 0)) 239 1 (nI (0 + (loP N 1 64)))) 239 0 (nI ((0 + (loP N 1 64)) + (loP N 0 64)))) 227 2 (nI 1000000)) N Z0 (1000000, Z0) 0 rfl (hT.cg (fun o k x y => by (repeat rw [upN_no (by omega)]))) hN same.rfl_ (fun k hk => Nat.le_refl _) (Nat.le_refl _) (SrC_start (P := (upN (upN (upN (upN J 239 2 (nI 0)) 239 1 (nI (0 + (loP N 1 64)))) 239 0 (nI ((0 + (loP N 1 64)) + (loP N 0 64)))) 227 2 (nI 1000000))) (dd := 2) hK.1 (fun o k q1 q2 => by (repeat rw [upN_no (by omega)])) (fun t ht => by
          have ht2 : t = 0 ∨ t = 1 ∨ t = 2 := by omega
          rcases ht2 with rfl | rfl | rfl <;> rfl) rfl)) (fun v J2 hv => ?_)
    obtain ⟨rfl, k1, k2, hO2⟩ := hv
    refine WP.run (pc' := 85) (L' := [.ref 225, .ref 247, .int (nI 2), .int (-1)]) (st' := [.int (nI 1), .int (nI 2), .ref 226]) (I1 := J2) 4 rfl ?_
    refine WP.bast rfl rfl rfl (by decide) (by decide) (by decide) ?_
    have hN2 := KnC_next (J := J) (dd := 2) (by decide) (by decide) hK (fun o k q1 q2 => by rw [upN_ne2 q2]; (repeat rw [upN_no (by omega)])) hO2 k1 k2
    refine WP.run (pc' := 91) (L' := [.ref 225, .ref 247, .int (nI 2), .int (-1)]) (st' := [.int (nI 2), .ref 227]) (I1 := (upN J2 226 2 (nI 1))) 3 rfl ?_
    refine WP.iald rfl rfl rfl (by decide) (by decide) ?_
    refine WP.cg (st' := [.int (nI ((planN N 2).1))]) rfl (congrArg (fun z : Int32 => (.int z :: [] : List Value)) (hN2.2.1)) rfl ?_
    refine WP.run (pc' := if (nI 1000000) ≤ (nI ((planN N 2).1)) then 101 else 97) (L' := [.ref 225, .ref 247, .int (nI 2), .int (-1)]) (st' := []) (I1 := (upN J2 226 2 (nI 1))) 2 rfl ?_
    refine WP.br (fun h1 => ?_) (fun h1 => ?_)
    · have h1 : 1000000 ≤ (planN N 2).1 := nI_le_ (by omega) (by omega) h1
      refine WP.run (pc' := 102) (L' := [.ref 225, .ref 247, .int (nI 2), .int (-1)]) (st' := [.int (nI 0)]) (I1 := (upN J2 226 2 (nI 1))) 1 rfl ?_
      exact WP.ret rfl rfl (⟨(congrArg (fun z : Int32 => some (Value.int z)) (b2iF (by omega)).symm), hN2.1, hN2.2, ((hO.tr hOP).tr (hO2.wk (fun o k z => Or.inr (by rcases z with z | z | z | z <;> omega)))).up (Or.inr ⟨by decide, by decide⟩)⟩)
    · have h1 : ¬ 1000000 ≤ (planN N 2).1 := fun q => h1 (nI_le_r (by omega) q)
      refine WP.run (pc' := 102) (L' := [.ref 225, .ref 247, .int (nI 2), .int (-1)]) (st' := [.int (nI 1)]) (I1 := (upN J2 226 2 (nI 1))) 2 rfl ?_
      exact WP.ret rfl rfl (⟨(congrArg (fun z : Int32 => some (Value.int z)) (b2iT (by omega)).symm), hN2.1, hN2.2, ((hO.tr hOP).tr (hO2.wk (fun o k z => Or.inr (by rcases z with z | z | z | z <;> omega)))).up (Or.inr ⟨by decide, by decide⟩)⟩)
  · refine WP.cg (st' := [.int (nI 1)]) rfl (congrArg (fun z : Int32 => ([.int z] : List Value)) h0) rfl ?_
    refine WP.run (pc' := 86) (L' := [.ref 225, .ref 247, .int (nI 2), y]) (st' := []) (I1 := J) 1 rfl ?_
    refine WP.run (pc' := 91) (L' := [.ref 225, .ref 247, .int (nI 2), y]) (st' := [.int (nI 2), .ref 227]) (I1 := J) 3 rfl ?_
    refine WP.iald rfl rfl rfl (by decide) (by decide) ?_
    refine WP.cg (st' := [.int (nI ((planN N 2).1))]) rfl (congrArg (fun z : Int32 => (.int z :: [] : List Value)) (hL.1)) rfl ?_
    refine WP.run (pc' := if (nI 1000000) ≤ (nI ((planN N 2).1)) then 101 else 97) (L' := [.ref 225, .ref 247, .int (nI 2), y]) (st' := []) (I1 := J) 2 rfl ?_
    refine WP.br (fun h2 => ?_) (fun h2 => ?_)
    · have h2 : 1000000 ≤ (planN N 2).1 := nI_le_ (by omega) (by omega) h2
      refine WP.run (pc' := 102) (L' := [.ref 225, .ref 247, .int (nI 2), y]) (st' := [.int (nI 0)]) (I1 := J) 1 rfl ?_
      exact WP.ret rfl rfl (⟨(congrArg (fun z : Int32 => some (Value.int z)) (b2iF (by omega)).symm), hK, hL, hO⟩)
    · have h2 : ¬ 1000000 ≤ (planN N 2).1 := fun q => h2 (nI_le_r (by omega) q)
      refine WP.run (pc' := 102) (L' := [.ref 225, .ref 247, .int (nI 2), y]) (st' := [.int (nI 1)]) (I1 := J) 2 rfl ?_
      exact WP.ret rfl rfl (⟨(congrArg (fun z : Int32 => some (Value.int z)) (b2iT (by omega)).symm), hK, hL, hO⟩)
set_option maxRecDepth 100000 in
theorem ip_3 {d : Nat} {I J : Pl} {N : Nat → Nat} (hT : Tw J 247 N) (hN : TI N) (hK : KnC J N) (hO : Only I J pnP) (y : Value) : WP (d + 8) (41, 2, (some .boolean), sc0) 12 [.ref 225, .ref 247, .int (nI 3), y] [] J (fun v K => v = some (.int (b2i ((planN N 3).1 < 1000000))) ∧ KnC K N ∧ LsC K N 3 ∧ Only I K pnP) := by
  have hpl := planN_le (d := 3) hN
  have hlo0 := loP_le (N := N) (day := 0) 64
  have hlo1 := loP_le (N := N) (day := 1) 64
  have hlo2 := loP_le (N := N) (day := 2) 64
  refine WP.run (pc' := 17) (L' := [.ref 225, .ref 247, .int (nI 3), y]) (st' := [.int (nI 3), .ref 226]) (I1 := J) 3 rfl ?_
  refine WP.bald rfl rfl rfl (by decide) (by decide) ?_
  rcases hK.2 3 (by decide) (by decide) with h0 | ⟨h0, hL⟩
  · refine WP.cg (st' := [.int (nI 0)]) rfl (congrArg (fun z : Int32 => ([.int z] : List Value)) h0) rfl ?_
    refine WP.run (pc' := 27) (L' := [.ref 225, .ref 247, .int (nI 3), y]) (st' := [.int (nI 0), .int (nI 3), .ref 239]) (I1 := J) 5 rfl ?_
    refine WP.iast rfl rfl rfl (by decide) (by decide) ?_
    refine WP.run (pc' := 31) (L' := [.ref 225, .ref 247, .int (nI 3), y]) (st' := [.int ((nI 3) - (nI 1))]) (I1 := (upN J 239 3 (nI 0))) 3 rfl ?_
    refine WP.cg (st' := [.int (nI 2)]) rfl (congrArg (fun z : Int32 => (.int z :: [] : List Value)) (by rfl)) rfl ?_
    refine WP.run (pc' := 48) (L' := [.ref 225, .ref 247, .int (nI 3), .int (nI 2)]) (st' := [.int ((nI 2) + (nI 1)), .ref 239, .int (nI 2), .ref 239]) (I1 := (upN J 239 3 (nI 0))) 11 rfl ?_
    refine WP.cg (st' := [.int (nI 3), .ref 239, .int (nI 2), .ref 239]) rfl (congrArg (fun z : Int32 => (.int z :: [.ref 239, .int (nI 2), .ref 239] : List Value)) (by rfl)) rfl ?_
    refine WP.iald rfl rfl rfl (by decide) (by decide) ?_
    refine WP.cg (st' := [.int (nI 0), .int (nI 2), .ref 239]) rfl (congrArg (fun z : Int32 => (.int z :: [.int (nI 2), .ref 239] : List Value)) (rfl)) rfl ?_
    refine WP.run (pc' := 54) (L' := [.ref 225, .ref 247, .int (nI 3), .int (nI 2)]) (st' := [.int (nI 2), .ref 238, .int (nI 0), .int (nI 2), .ref 239]) (I1 := (upN J 239 3 (nI 0))) 3 rfl ?_
    refine WP.iald rfl rfl rfl (by decide) (by decide) ?_
    refine WP.cg (st' := [.int (nI (loP N 2 64)), .int (nI 0), .int (nI 2), .ref 239]) rfl (congrArg (fun z : Int32 => (.int z :: [.int (nI 0), .int (nI 2), .ref 239] : List Value)) ((hK.1.2.1 2 (by decide)).2)) rfl ?_
    refine WP.run (pc' := 56) (L' := [.ref 225, .ref 247, .int (nI 3), .int (nI 2)]) (st' := [.int ((nI 0) + (nI (loP N 2 64))), .int (nI 2), .ref 239]) (I1 := (upN J 239 3 (nI 0))) 1 rfl ?_
    refine WP.cg (st' := [.int (nI (0 + (loP N 2 64))), .int (nI 2), .ref 239]) rfl (congrArg (fun z : Int32 => (.int z :: [.int (nI 2), .ref 239] : List Value)) (nI_add 0 (loP N 2 64))) rfl ?_
    refine WP.iast rfl rfl rfl (by decide) (by decide) ?_
    refine WP.run (pc' := 60) (L' := [.ref 225, .ref 247, .int (nI 3), .int ((nI 2) + -1)]) (st' := []) (I1 := (upN (upN J 239 3 (nI 0)) 239 2 (nI (0 + (loP N 2 64))))) 1 rfl ?_
    refine WP.cg (L' := [.ref 225, .ref 247, .int (nI 3), .int (nI 1)]) (by rfl) rfl rfl ?_
    refine WP.run (pc' := 48) (L' := [.ref 225, .ref 247, .int (nI 3), .int (nI 1)]) (st' := [.int ((nI 1) + (nI 1)), .ref 239, .int (nI 1), .ref 239]) (I1 := (upN (upN J 239 3 (nI 0)) 239 2 (nI (0 + (loP N 2 64))))) 11 rfl ?_
    refine WP.cg (st' := [.int (nI 2), .ref 239, .int (nI 1), .ref 239]) rfl (congrArg (fun z : Int32 => (.int z :: [.ref 239, .int (nI 1), .ref 239] : List Value)) (by rfl)) rfl ?_
    refine WP.iald rfl rfl rfl (by decide) (by decide) ?_
    refine WP.cg (st' := [.int (nI (0 + (loP N 2 64))), .int (nI 1), .ref 239]) rfl (congrArg (fun z : Int32 => (.int z :: [.int (nI 1), .ref 239] : List Value)) (rfl)) rfl ?_
    refine WP.run (pc' := 54) (L' := [.ref 225, .ref 247, .int (nI 3), .int (nI 1)]) (st' := [.int (nI 1), .ref 238, .int (nI (0 + (loP N 2 64))), .int (nI 1), .ref 239]) (I1 := (upN (upN J 239 3 (nI 0)) 239 2 (nI (0 + (loP N 2 64))))) 3 rfl ?_
    refine WP.iald rfl rfl rfl (by decide) (by decide) ?_
    refine WP.cg (st' := [.int (nI (loP N 1 64)), .int (nI (0 + (loP N 2 64))), .int (nI 1), .ref 239]) rfl (congrArg (fun z : Int32 => (.int z :: [.int (nI (0 + (loP N 2 64))), .int (nI 1), .ref 239] : List Value)) ((hK.1.2.1 1 (by decide)).2)) rfl ?_
    refine WP.run (pc' := 56) (L' := [.ref 225, .ref 247, .int (nI 3), .int (nI 1)]) (st' := [.int ((nI (0 + (loP N 2 64))) + (nI (loP N 1 64))), .int (nI 1), .ref 239]) (I1 := (upN (upN J 239 3 (nI 0)) 239 2 (nI (0 + (loP N 2 64))))) 1 rfl ?_
    refine WP.cg (st' := [.int (nI ((0 + (loP N 2 64)) + (loP N 1 64))), .int (nI 1), .ref 239]) rfl (congrArg (fun z : Int32 => (.int z :: [.int (nI 1), .ref 239] : List Value)) (nI_add (0 + (loP N 2 64)) (loP N 1 64))) rfl ?_
    refine WP.iast rfl rfl rfl (by decide) (by decide) ?_
    refine WP.run (pc' := 60) (L' := [.ref 225, .ref 247, .int (nI 3), .int ((nI 1) + -1)]) (st' := []) (I1 := (upN (upN (upN J 239 3 (nI 0)) 239 2 (nI (0 + (loP N 2 64)))) 239 1 (nI ((0 + (loP N 2 64)) + (loP N 1 64))))) 1 rfl ?_
    refine WP.cg (L' := [.ref 225, .ref 247, .int (nI 3), .int (nI 0)]) (by rfl) rfl rfl ?_
    refine WP.run (pc' := 48) (L' := [.ref 225, .ref 247, .int (nI 3), .int (nI 0)]) (st' := [.int ((nI 0) + (nI 1)), .ref 239, .int (nI 0), .ref 239]) (I1 := (upN (upN (upN J 239 3 (nI 0)) 239 2 (nI (0 + (loP N 2 64)))) 239 1 (nI ((0 + (loP N 2 64)) + (loP N 1 64))))) 11 rfl ?_
    refine WP.cg (st' := [.int (nI 1), .ref 239, .int (nI 0), .ref 239]) rfl (congrArg (fun z : Int32 => (.int z :: [.ref 239, .int (nI 0), .ref 239] : List Value)) (by rfl)) rfl ?_
    refine WP.iald rfl rfl rfl (by decide) (by decide) ?_
    refine WP.cg (st' := [.int (nI ((0 + (loP N 2 64)) + (loP N 1 64))), .int (nI 0), .ref 239]) rfl (congrArg (fun z : Int32 => (.int z :: [.int (nI 0), .ref 239] : List Value)) (rfl)) rfl ?_
    refine WP.run (pc' := 54) (L' := [.ref 225, .ref 247, .int (nI 3), .int (nI 0)]) (st' := [.int (nI 0), .ref 238, .int (nI ((0 + (loP N 2 64)) + (loP N 1 64))), .int (nI 0), .ref 239]) (I1 := (upN (upN (upN J 239 3 (nI 0)) 239 2 (nI (0 + (loP N 2 64)))) 239 1 (nI ((0 + (loP N 2 64)) + (loP N 1 64))))) 3 rfl ?_
    refine WP.iald rfl rfl rfl (by decide) (by decide) ?_
    refine WP.cg (st' := [.int (nI (loP N 0 64)), .int (nI ((0 + (loP N 2 64)) + (loP N 1 64))), .int (nI 0), .ref 239]) rfl (congrArg (fun z : Int32 => (.int z :: [.int (nI ((0 + (loP N 2 64)) + (loP N 1 64))), .int (nI 0), .ref 239] : List Value)) ((hK.1.2.1 0 (by decide)).2)) rfl ?_
    refine WP.run (pc' := 56) (L' := [.ref 225, .ref 247, .int (nI 3), .int (nI 0)]) (st' := [.int ((nI ((0 + (loP N 2 64)) + (loP N 1 64))) + (nI (loP N 0 64))), .int (nI 0), .ref 239]) (I1 := (upN (upN (upN J 239 3 (nI 0)) 239 2 (nI (0 + (loP N 2 64)))) 239 1 (nI ((0 + (loP N 2 64)) + (loP N 1 64))))) 1 rfl ?_
    refine WP.cg (st' := [.int (nI (((0 + (loP N 2 64)) + (loP N 1 64)) + (loP N 0 64))), .int (nI 0), .ref 239]) rfl (congrArg (fun z : Int32 => (.int z :: [.int (nI 0), .ref 239] : List Value)) (nI_add ((0 + (loP N 2 64)) + (loP N 1 64)) (loP N 0 64))) rfl ?_
    refine WP.iast rfl rfl rfl (by decide) (by decide) ?_
    refine WP.run (pc' := 60) (L' := [.ref 225, .ref 247, .int (nI 3), .int ((nI 0) + -1)]) (st' := []) (I1 := (upN (upN (upN (upN J 239 3 (nI 0)) 239 2 (nI (0 + (loP N 2 64)))) 239 1 (nI ((0 + (loP N 2 64)) + (loP N 1 64)))) 239 0 (nI (((0 + (loP N 2 64)) + (loP N 1 64)) + (loP N 0 64))))) 1 rfl ?_
    refine WP.cg (L' := [.ref 225, .ref 247, .int (nI 3), .int (-1)]) (by rfl) rfl rfl ?_
    refine WP.run (pc' := 70) (L' := [.ref 225, .ref 247, .int (nI 3), .int (-1)]) (st' := [.int (nI 1000000), .int (nI 3), .ref 227]) (I1 := (upN (upN (upN (upN J 239 3 (nI 0)) 239 2 (nI (0 + (loP N 2 64)))) 239 1 (nI ((0 + (loP N 2 64)) + (loP N 1 64)))) 239 0 (nI (((0 + (loP N 2 64)) + (loP N 1 64)) + (loP N 0 64))))) 7 rfl ?_
    refine WP.iast rfl rfl rfl (by decide) (by decide) ?_
    have hOP : Only J (upN (upN (upN (upN (upN J 239 3 (nI 0)) 239 2 (nI (0 + (loP N 2 64)))) 239 1 (nI ((0 + (loP N 2 64)) + (loP N 1 64)))) 239 0 (nI (((0 + (loP N 2 64)) + (loP N 1 64)) + (loP N 0 64)))) 227 3 (nI 1000000)) pnP := (Only.up (Only.up (Only.up (Only.up (Only.up Only.rfl_ (Or.inr ⟨by decide, by decide⟩)) (Or.inr ⟨by decide, by decide⟩)) (Or.inr ⟨by decide, by decide⟩)) (Or.inr ⟨by decide, by decide⟩)) (Or.inr ⟨by decide, by decide⟩))
    refine WP.run (pc' := 76) (L' := [.ref 225, .ref 247, .int (nI 3), .int (-1)]) (st' := [.int (nI 0), .int (nI 0), .int (nI 3), .ref 247, .ref 225]) (I1 := (upN (upN (upN (upN (upN J 239 3 (nI 0)) 239 2 (nI (0 + (loP N 2 64)))) 239 1 (nI ((0 + (loP N 2 64)) + (loP N 1 64)))) 239 0 (nI (((0 + (loP N 2 64)) + (loP N 1 64)) + (loP N 0 64)))) 227 3 (nI 1000000))) 5 rfl ?_
    refine WP.cg (st' := [.int (nI (sumW N - sumW N)), .int (nI 0), .int (nI 3), .ref 247, .ref 225]) rfl (by rw [Nat.sub_self]) rfl ?_
    refine WP.callX (rest := []) rfl rfl (sp_search (d := d + 0) (dd := 3) hN (by decide) 3 (upN (upN (upN (upN (upN J 239 3 (nI 0)) 239 2 (nI (0 + (loP N 2 64)))) 239 1 (nI ((0 + (loP N 2 64)) + (loP N 1 64)))) 239 0 (nI (((0 + (loP N 2 64)) + (loP N 1 64)) + (loP N 0 64)))) 227 3 (nI 1000000)) N Z0 (1000000, Z0) 0 rfl (hT.cg (fun o k x y => by (repeat rw [upN_no (by omega)]))) hN same.rfl_ (fun k hk => Nat.le_refl _) (Nat.le_refl _) (SrC_start (P := (upN (upN (upN (upN (upN J 239 3 (nI 0)) 239 2 (nI (0 + (loP N 2 64)))) 239 1 (nI ((0 + (loP N 2 64)) + (loP N 1 64)))) 239 0 (nI (((0 + (loP N 2 64)) + (loP N 1 64)) + (loP N 0 64)))) 227 3 (nI 1000000))) (dd := 3) hK.1 (fun o k q1 q2 => by (repeat rw [upN_no (by omega)])) (fun t ht => by
          have ht2 : t = 0 ∨ t = 1 ∨ t = 2 ∨ t = 3 := by omega
          rcases ht2 with rfl | rfl | rfl | rfl <;> rfl) rfl)) (fun v J2 hv => ?_)
    obtain ⟨rfl, k1, k2, hO2⟩ := hv
    refine WP.run (pc' := 85) (L' := [.ref 225, .ref 247, .int (nI 3), .int (-1)]) (st' := [.int (nI 1), .int (nI 3), .ref 226]) (I1 := J2) 4 rfl ?_
    refine WP.bast rfl rfl rfl (by decide) (by decide) (by decide) ?_
    have hN2 := KnC_next (J := J) (dd := 3) (by decide) (by decide) hK (fun o k q1 q2 => by rw [upN_ne2 q2]; (repeat rw [upN_no (by omega)])) hO2 k1 k2
    refine WP.run (pc' := 91) (L' := [.ref 225, .ref 247, .int (nI 3), .int (-1)]) (st' := [.int (nI 3), .ref 227]) (I1 := (upN J2 226 3 (nI 1))) 3 rfl ?_
    refine WP.iald rfl rfl rfl (by decide) (by decide) ?_
    refine WP.cg (st' := [.int (nI ((planN N 3).1))]) rfl (congrArg (fun z : Int32 => (.int z :: [] : List Value)) (hN2.2.1)) rfl ?_
    refine WP.run (pc' := if (nI 1000000) ≤ (nI ((planN N 3).1)) then 101 else 97) (L' := [.ref 225, .ref 247, .int (nI 3), .int (-1)]) (st' := []) (I1 := (upN J2 226 3 (nI 1))) 2 rfl ?_
    refine WP.br (fun h1 => ?_) (fun h1 => ?_)
    · have h1 : 1000000 ≤ (planN N 3).1 := nI_le_ (by omega) (by omega) h1
      refine WP.run (pc' := 102) (L' := [.ref 225, .ref 247, .int (nI 3), .int (-1)]) (st' := [.int (nI 0)]) (I1 := (upN J2 226 3 (nI 1))) 1 rfl ?_
      exact WP.ret rfl rfl (⟨(congrArg (fun z : Int32 => some (Value.int z)) (b2iF (by omega)).symm), hN2.1, hN2.2, ((hO.tr hOP).tr (hO2.wk (fun o k z => Or.inr (by rcases z with z | z | z | z <;> omega)))).up (Or.inr ⟨by decide, by decide⟩)⟩)
    · have h1 : ¬ 1000000 ≤ (planN N 3).1 := fun q => h1 (nI_le_r (by omega) q)
      refine WP.run (pc' := 102) (L' := [.ref 225, .ref 247, .int (nI 3), .int (-1)]) (st' := [.int (nI 1)]) (I1 := (upN J2 226 3 (nI 1))) 2 rfl ?_
      exact WP.ret rfl rfl (⟨(congrArg (fun z : Int32 => some (Value.int z)) (b2iT (by omega)).symm), hN2.1, hN2.2, ((hO.tr hOP).tr (hO2.wk (fun o k z => Or.inr (by rcases z with z | z | z | z <;> omega)))).up (Or.inr ⟨by decide, by decide⟩)⟩)
  · refine WP.cg (st' := [.int (nI 1)]) rfl (congrArg (fun z : Int32 => ([.int z] : List Value)) h0) rfl ?_
    refine WP.run (pc' := 86) (L' := [.ref 225, .ref 247, .int (nI 3), y]) (st' := []) (I1 := J) 1 rfl ?_
    refine WP.run (pc' := 91) (L' := [.ref 225, .ref 247, .int (nI 3), y]) (st' := [.int (nI 3), .ref 227]) (I1 := J) 3 rfl ?_
    refine WP.iald rfl rfl rfl (by decide) (by decide) ?_
    refine WP.cg (st' := [.int (nI ((planN N 3).1))]) rfl (congrArg (fun z : Int32 => (.int z :: [] : List Value)) (hL.1)) rfl ?_
    refine WP.run (pc' := if (nI 1000000) ≤ (nI ((planN N 3).1)) then 101 else 97) (L' := [.ref 225, .ref 247, .int (nI 3), y]) (st' := []) (I1 := J) 2 rfl ?_
    refine WP.br (fun h2 => ?_) (fun h2 => ?_)
    · have h2 : 1000000 ≤ (planN N 3).1 := nI_le_ (by omega) (by omega) h2
      refine WP.run (pc' := 102) (L' := [.ref 225, .ref 247, .int (nI 3), y]) (st' := [.int (nI 0)]) (I1 := J) 1 rfl ?_
      exact WP.ret rfl rfl (⟨(congrArg (fun z : Int32 => some (Value.int z)) (b2iF (by omega)).symm), hK, hL, hO⟩)
    · have h2 : ¬ 1000000 ≤ (planN N 3).1 := fun q => h2 (nI_le_r (by omega) q)
      refine WP.run (pc' := 102) (L' := [.ref 225, .ref 247, .int (nI 3), y]) (st' := [.int (nI 1)]) (I1 := J) 2 rfl ?_
      exact WP.ret rfl rfl (⟨(congrArg (fun z : Int32 => some (Value.int z)) (b2iT (by omega)).symm), hK, hL, hO⟩)
theorem PlF_Kn {I J : Pl} {N : Nat → Nat} (h : PlF I) (hW : WgC J N) (hO : Only I J wqP) : KnC J N := ⟨hW, fun d h1 h2 => Or.inl (by rw [hO 226 d (fun z => by rcases z with z | z <;> omega)]; exact h.2 d (by omega))⟩
set_option maxRecDepth 100000 in
theorem sp_isPlanned {d : Nat} {I : Pl} {N : Nat → Nat} {dd : Nat} (hT : Tw I 247 N) (hN : TI N) (hP : CPlan I N) (hd1 : 1 ≤ dd) (hd3 : dd ≤ 3) : EvX (d + 9) 41 [.ref 225, .ref 247, .int (nI dd)] I (fun v K => v = some (.int (b2i ((planN N dd).1 < 1000000))) ∧ KnC K N ∧ LsC K N dd ∧ Only I K pnP) := by
  refine EvX.enter rfl rfl rfl ?_
  rcases hP with h | h
  · refine WP.run (pc' := 4) (L' := [.ref 225, .ref 247, .int (nI dd), UU]) (st' := [.int (I 225 8)]) (I1 := I) 2 rfl ?_
    refine WP.cg (st' := [.int (nI 0)]) rfl (congrArg (fun z : Int32 => (.int z :: [] : List Value)) (h.1)) rfl ?_
    refine WP.run (pc' := 9) (L' := [.ref 225, .ref 247, .int (nI dd), UU]) (st' := [.ref 247, .ref 225]) (I1 := I) 3 rfl ?_
    refine WP.callX (rest := []) rfl rfl (sp_weigh (d := d + 3) hT hN) (fun v J1 hv => ?_)
    obtain ⟨rfl, hW, hO1⟩ := hv
    have hk := PlF_Kn h hW hO1
    have hO2 : Only I J1 pnP := hO1.wk (fun o k z => by rcases z with z | z <;> first | exact Or.inl z | exact Or.inr (by omega))
    have hT2 : Tw J1 247 N := hT.cg (fun o k x y => hO1 o k (fun z => by rcases z with z | z <;> omega))
    have hd : dd = 1 ∨ dd = 2 ∨ dd = 3 := by omega
    rcases hd with rfl | rfl | rfl
    · exact ip_1 hT2 hN hk hO2 _
    · exact ip_2 hT2 hN hk hO2 _
    · exact ip_3 hT2 hN hk hO2 _
  · refine WP.run (pc' := 4) (L' := [.ref 225, .ref 247, .int (nI dd), UU]) (st' := [.int (I 225 8)]) (I1 := I) 2 rfl ?_
    refine WP.cg (st' := [.int (nI 1)]) rfl (congrArg (fun z : Int32 => (.int z :: [] : List Value)) (h.1.1)) rfl ?_
    refine WP.run (pc' := 12) (L' := [.ref 225, .ref 247, .int (nI dd), UU]) (st' := []) (I1 := I) 1 rfl ?_
    have hd : dd = 1 ∨ dd = 2 ∨ dd = 3 := by omega
    rcases hd with rfl | rfl | rfl
    · exact ip_1 hT hN h Only.rfl_ _
    · exact ip_2 hT hN h Only.rfl_ _
    · exact ip_3 hT hN h Only.rfl_ _
def aPlan (N : Nat → Nat) (d k : Int32) : Int32 := if N 8 = 0 then -1000002 else if inR d 1 3 then (if inR k (-1) (d.toInt - 1) then (if (planN N (nOf d)).1 < 1000000 then (if k.toInt < 0 then nI (planN N (nOf d)).1 else nI ((planN N (nOf d)).2 (nOf k))) else -1000000) else -1000001) else -1000001
def aNever (N : Nat → Nat) : Int32 := if N 8 = 0 then -1000002 else if (planN N 1).1 < 1000000 then (if (planN N 2).1 < 1000000 then (if (planN N 3).1 < 1000000 then -1000000 else nI 3) else nI 2) else nI 1
set_option maxRecDepth 100000 in
theorem sp_leastWear {d : Nat} {I : Pl} {N : Nat → Nat} {j : Nat} (hL : LsC I N j) (hj : j ≤ 3) : Ev (d + 1) 24 [.ref 225, .int (nI j)] (mem I) (some (.int (nI (planN N j).1))) (mem I) := by
  refine Ev.only (EvX.enter rfl rfl rfl ?_)
  refine WP.run (pc' := 5) (L' := [.ref 225, .int (nI j)]) (st' := [.int (nI j), .ref 227]) (I1 := I) 3 rfl ?_
  refine WP.iald rfl rfl rfl (by omega) (by decide) ?_
  refine WP.cg (st' := [.int (nI ((planN N j).1))]) rfl (congrArg (fun z : Int32 => (.int z :: [] : List Value)) (hL.1)) rfl ?_
  exact WP.ret rfl rfl (⟨rfl, rfl⟩)
set_option maxRecDepth 100000 in
theorem sp_plannedSet {d : Nat} {I : Pl} {N : Nat → Nat} {j k : Nat} (hL : LsC I N j) (hj : j ≤ 3) (hk : k < j) (hlt : (planN N j).1 < 1000000) : Ev (d + 1) 25 [.ref 225, .int (nI j), .int (nI k)] (mem I) (some (.int (nI ((planN N j).2 k)))) (mem I) := by
  refine Ev.only (EvX.enter rfl rfl rfl ?_)
  refine WP.run (pc' := 5) (L' := [.ref 225, .int (nI j), .int (nI k)]) (st' := [.int (nI j), .ref 228]) (I1 := I) 3 rfl ?_
  refine WP.aald rfl rfl (by decide) rfl (by omega) (by decide) (RRB j (by omega)) ?_
  refine WP.run (pc' := 7) (L' := [.ref 225, .int (nI j), .int (nI k)]) (st' := [.int (nI k), .ref (229 + j)]) (I1 := I) 1 rfl ?_
  refine WP.iald rfl (KdB j (by omega)) (NNB j (by omega)) (by omega) (by decide) ?_
  refine WP.cg (st' := [.int (nI ((planN N j).2 k))]) rfl (congrArg (fun z : Int32 => (.int z :: [] : List Value)) (hL.2 (by assumption) k (by omega))) rfl ?_
  exact WP.ret rfl rfl (⟨rfl, rfl⟩)
set_option maxRecDepth 100000 in
theorem cs_plan {d : Nat} {I : Pl} {N : Nat → Nat} {x k : Int32} (hT : Tw I 247 N) (hN : TI N) (hP : CPlan I N) : EvX (d + 10) 101 [.ref 0, .int x, .int k] I (fun v K => v = some (.int (aPlan N x k)) ∧ CPlan K N ∧ Only I K pnP) := by
  obtain ⟨b0, b1, b2, b3, b4, b5, b6, b7, b8, bS, bC, bS1, bC1, bZ, bG⟩ := id hN
  obtain ⟨s6, s7, s64⟩ := hN.set64
  refine EvX.enter rfl rfl rfl ?_
  refine WP.run (pc' := 7) (L' := [.ref 0, .int x, .int k]) (st' := [.int (I 247 0)]) (I1 := I) 3 rfl ?_
  refine WP.cg (st' := [.int (nI (N 8))]) rfl (congrArg (fun z : Int32 => (.int z :: [] : List Value)) (hT.f0)) rfl ?_
  refine WP.run (pc' := if ¬ (nI (N 8)) = 0 then 13 else 10) (L' := [.ref 0, .int x, .int k]) (st' := []) (I1 := I) 1 rfl ?_
  refine WP.br (fun h1 => ?_) (fun h1 => ?_)
  · have h1 : ¬ N 8 = 0 := fun q => h1 (nI_eq_r q)
    refine WP.run (pc' := if x < (nI 1) then 33 else 18) (L' := [.ref 0, .int x, .int k]) (st' := []) (I1 := I) 3 rfl ?_
    refine WP.br (fun h2 => ?_) (fun h2 => ?_)
    · have h2 : x.toInt < 1 := (iLtL (n := 1) (by omega)).mp h2
      refine WP.run (pc' := 35) (L' := [.ref 0, .int x, .int k]) (st' := [.int (-1000001)]) (I1 := I) 1 rfl ?_
      exact WP.ret rfl rfl (by
              have e : aPlan N x k = (-1000001) := by (unfold aPlan; (repeat rw [nOf_nI (by omega)]); (repeat first | rw [if_pos (by first | assumption | omega | (refine inA_iff.mpr ?_; omega) | (intro q; have q2 := inA_iff.mp q; omega) | (intro q; omega) | (refine ⟨?_, ?_⟩ <;> rw [nI_int (by omega)] <;> omega) | (rw [nI_int (by omega)]; omega) | (intro q; rw [nI_int (by omega)] at q; omega) | (refine ⟨?_, ?_, ?_⟩ <;> omega) | (intro q; obtain ⟨q1, q2, q3⟩ := q; omega) | fail)] | rw [if_neg (by first | assumption | omega | (refine inA_iff.mpr ?_; omega) | (intro q; have q2 := inA_iff.mp q; omega) | (intro q; omega) | (refine ⟨?_, ?_⟩ <;> rw [nI_int (by omega)] <;> omega) | (rw [nI_int (by omega)]; omega) | (intro q; rw [nI_int (by omega)] at q; omega) | (refine ⟨?_, ?_, ?_⟩ <;> omega) | (intro q; obtain ⟨q1, q2, q3⟩ := q; omega) | fail)])) <;> rfl
              rw [e]
              exact ⟨rfl, hP, Only.rfl_⟩)
    · have h2 : ¬ (x.toInt < 1) := fun q => h2 ((iLtL (n := 1) (by omega)).mpr q)
      refine WP.run (pc' := if (nI 3) < x then 33 else 23) (L' := [.ref 0, .int x, .int k]) (st' := []) (I1 := I) 3 rfl ?_
      refine WP.br (fun h3 => ?_) (fun h3 => ?_)
      · have h3 : 3 < x.toInt := (iGtL (n := 3) (by omega)).mp h3
        refine WP.run (pc' := 35) (L' := [.ref 0, .int x, .int k]) (st' := [.int (-1000001)]) (I1 := I) 1 rfl ?_
        exact WP.ret rfl rfl (by
                  have e : aPlan N x k = (-1000001) := by (unfold aPlan; (repeat rw [nOf_nI (by omega)]); (repeat first | rw [if_pos (by first | assumption | omega | (refine inA_iff.mpr ?_; omega) | (intro q; have q2 := inA_iff.mp q; omega) | (intro q; omega) | (refine ⟨?_, ?_⟩ <;> rw [nI_int (by omega)] <;> omega) | (rw [nI_int (by omega)]; omega) | (intro q; rw [nI_int (by omega)] at q; omega) | (refine ⟨?_, ?_, ?_⟩ <;> omega) | (intro q; obtain ⟨q1, q2, q3⟩ := q; omega) | fail)] | rw [if_neg (by first | assumption | omega | (refine inA_iff.mpr ?_; omega) | (intro q; have q2 := inA_iff.mp q; omega) | (intro q; omega) | (refine ⟨?_, ?_⟩ <;> rw [nI_int (by omega)] <;> omega) | (rw [nI_int (by omega)]; omega) | (intro q; rw [nI_int (by omega)] at q; omega) | (refine ⟨?_, ?_, ?_⟩ <;> omega) | (intro q; obtain ⟨q1, q2, q3⟩ := q; omega) | fail)])) <;> rfl
                  rw [e]
                  exact ⟨rfl, hP, Only.rfl_⟩)
      · have h3 : ¬ (3 < x.toInt) := fun q => h3 ((iGtL (n := 3) (by omega)).mpr q)
        refine WP.run (pc' := if k < -1 then 33 else 28) (L' := [.ref 0, .int x, .int k]) (st' := []) (I1 := I) 3 rfl ?_
        refine WP.br (fun h9 => ?_) (fun h9 => ?_)
        · have h9 : k.toInt < -1 := lt_iff_.mp h9
          refine WP.run (pc' := 35) (L' := [.ref 0, .int x, .int k]) (st' := [.int (-1000001)]) (I1 := I) 1 rfl ?_
          exact WP.ret rfl rfl (by
                      have e : aPlan N x k = (-1000001) := by (unfold aPlan; (repeat rw [nOf_nI (by omega)]); (repeat first | rw [if_pos (by first | assumption | omega | (refine inA_iff.mpr ?_; omega) | (intro q; have q2 := inA_iff.mp q; omega) | (intro q; omega) | (refine ⟨?_, ?_⟩ <;> rw [nI_int (by omega)] <;> omega) | (rw [nI_int (by omega)]; omega) | (intro q; rw [nI_int (by omega)] at q; omega) | (refine ⟨?_, ?_, ?_⟩ <;> omega) | (intro q; obtain ⟨q1, q2, q3⟩ := q; omega) | fail)] | rw [if_neg (by first | assumption | omega | (refine inA_iff.mpr ?_; omega) | (intro q; have q2 := inA_iff.mp q; omega) | (intro q; omega) | (refine ⟨?_, ?_⟩ <;> rw [nI_int (by omega)] <;> omega) | (rw [nI_int (by omega)]; omega) | (intro q; rw [nI_int (by omega)] at q; omega) | (refine ⟨?_, ?_, ?_⟩ <;> omega) | (intro q; obtain ⟨q1, q2, q3⟩ := q; omega) | fail)])) <;> rfl
                      rw [e]
                      exact ⟨rfl, hP, Only.rfl_⟩)
        · have h9 : ¬ k.toInt < -1 := fun q => h9 (lt_iff_.mpr q)
          refine WP.run (pc' := if k < x then 36 else 33) (L' := [.ref 0, .int x, .int k]) (st' := []) (I1 := I) 3 rfl ?_
          refine WP.br (fun h8 => ?_) (fun h8 => ?_)
          · have h8 : k.toInt < x.toInt := lt_iff_.mp h8
            have hx_j : inA x 4 := (by refine inA_iff.mpr ?_; omega)
            obtain ⟨j, hj, rfl⟩ := inA_of hx_j (by omega)
            rw [nI_int (by omega)] at *
            have hR1 : inR (nI j) 1 3 := ⟨by rw [nI_int (by omega)]; omega, by rw [nI_int (by omega)]; omega⟩
            have hR2 : inR k (-1) ((nI j).toInt - 1) := ⟨by omega, by rw [nI_int (by omega)]; omega⟩
            refine WP.run (pc' := 45) (L' := [.ref 0, .int (nI j), .int k]) (st' := [.int (nI j), .ref 247, .ref 225]) (I1 := I) 5 rfl ?_
            refine WP.callX (rest := []) rfl rfl (sp_isPlanned (d := d) (dd := j) hT hN hP (by omega) (by omega)) (fun v J1 hv => ?_)
            obtain ⟨rfl, hK, hL, hO⟩ := hv
            by_cases hp : (planN N j).1 < 1000000
            · refine WP.cg (st' := [.int (nI 1)]) rfl (by rw [b2iT hp]; rfl) rfl ?_
              refine WP.run (pc' := if 0 ≤ k then 69 else 58) (L' := [.ref 0, .int (nI j), .int k]) (st' := []) (I1 := J1) 3 rfl ?_
              refine WP.br (fun h4 => ?_) (fun h4 => ?_)
              · have h4 : 0 ≤ k.toInt := (iGeZ).mp h4
                have hx_i : inA k j := (by refine inA_iff.mpr ?_; omega)
                obtain ⟨i, hi, rfl⟩ := inA_of hx_i (by omega)
                refine WP.run (pc' := 75) (L' := [.ref 0, .int (nI j), .int (nI i)]) (st' := [.int (nI i), .int (nI j), .ref 225]) (I1 := J1) 4 rfl ?_
                refine WP.callV (rest := []) rfl rfl (sp_plannedSet (d := d + 8) hL (by omega) (by omega) hp) ?_
                exact WP.ret rfl rfl (by
                                  have e : aPlan N (nI j) (nI i) = (nI ((planN N j).2 i)) := by (unfold aPlan; (repeat rw [nOf_nI (by omega)]); (repeat first | rw [if_pos (by first | assumption | omega | (refine inA_iff.mpr ?_; omega) | (intro q; have q2 := inA_iff.mp q; omega) | (intro q; omega) | (refine ⟨?_, ?_⟩ <;> rw [nI_int (by omega)] <;> omega) | (rw [nI_int (by omega)]; omega) | (intro q; rw [nI_int (by omega)] at q; omega) | (refine ⟨?_, ?_, ?_⟩ <;> omega) | (intro q; obtain ⟨q1, q2, q3⟩ := q; omega) | fail)] | rw [if_neg (by first | assumption | omega | (refine inA_iff.mpr ?_; omega) | (intro q; have q2 := inA_iff.mp q; omega) | (intro q; omega) | (refine ⟨?_, ?_⟩ <;> rw [nI_int (by omega)] <;> omega) | (rw [nI_int (by omega)]; omega) | (intro q; rw [nI_int (by omega)] at q; omega) | (refine ⟨?_, ?_, ?_⟩ <;> omega) | (intro q; obtain ⟨q1, q2, q3⟩ := q; omega) | fail)])) <;> rfl
                                  rw [e]
                                  exact ⟨rfl, Or.inr hK, hO⟩)
              · have h4 : ¬ (0 ≤ k.toInt) := fun q => h4 ((iGeZ).mpr q)
                refine WP.run (pc' := 63) (L' := [.ref 0, .int (nI j), .int k]) (st' := [.int (nI j), .ref 225]) (I1 := J1) 3 rfl ?_
                refine WP.callV (rest := []) rfl rfl (sp_leastWear (d := d + 8) hL (by omega)) ?_
                refine WP.run (pc' := 78) (L' := [.ref 0, .int (nI j), .int k]) (st' := [.int (nI ((planN N j).1))]) (I1 := J1) 1 rfl ?_
                exact WP.ret rfl rfl (by
                                  have e : aPlan N (nI j) k = (nI ((planN N j).1)) := by (unfold aPlan; (repeat rw [nOf_nI (by omega)]); (repeat first | rw [if_pos (by first | assumption | omega | (refine inA_iff.mpr ?_; omega) | (intro q; have q2 := inA_iff.mp q; omega) | (intro q; omega) | (refine ⟨?_, ?_⟩ <;> rw [nI_int (by omega)] <;> omega) | (rw [nI_int (by omega)]; omega) | (intro q; rw [nI_int (by omega)] at q; omega) | (refine ⟨?_, ?_, ?_⟩ <;> omega) | (intro q; obtain ⟨q1, q2, q3⟩ := q; omega) | fail)] | rw [if_neg (by first | assumption | omega | (refine inA_iff.mpr ?_; omega) | (intro q; have q2 := inA_iff.mp q; omega) | (intro q; omega) | (refine ⟨?_, ?_⟩ <;> rw [nI_int (by omega)] <;> omega) | (rw [nI_int (by omega)]; omega) | (intro q; rw [nI_int (by omega)] at q; omega) | (refine ⟨?_, ?_, ?_⟩ <;> omega) | (intro q; obtain ⟨q1, q2, q3⟩ := q; omega) | fail)])) <;> rfl
                                  rw [e]
                                  exact ⟨rfl, Or.inr hK, hO⟩)
            · refine WP.cg (st' := [.int (nI 0)]) rfl (by rw [b2iF hp]; rfl) rfl ?_
              refine WP.run (pc' := 53) (L' := [.ref 0, .int (nI j), .int k]) (st' := [.int (-1000000)]) (I1 := J1) 2 rfl ?_
              exact WP.ret rfl rfl (by
                              have e : aPlan N (nI j) k = (-1000000) := by (unfold aPlan; (repeat rw [nOf_nI (by omega)]); (repeat first | rw [if_pos (by first | assumption | omega | (refine inA_iff.mpr ?_; omega) | (intro q; have q2 := inA_iff.mp q; omega) | (intro q; omega) | (refine ⟨?_, ?_⟩ <;> rw [nI_int (by omega)] <;> omega) | (rw [nI_int (by omega)]; omega) | (intro q; rw [nI_int (by omega)] at q; omega) | (refine ⟨?_, ?_, ?_⟩ <;> omega) | (intro q; obtain ⟨q1, q2, q3⟩ := q; omega) | fail)] | rw [if_neg (by first | assumption | omega | (refine inA_iff.mpr ?_; omega) | (intro q; have q2 := inA_iff.mp q; omega) | (intro q; omega) | (refine ⟨?_, ?_⟩ <;> rw [nI_int (by omega)] <;> omega) | (rw [nI_int (by omega)]; omega) | (intro q; rw [nI_int (by omega)] at q; omega) | (refine ⟨?_, ?_, ?_⟩ <;> omega) | (intro q; obtain ⟨q1, q2, q3⟩ := q; omega) | fail)])) <;> rfl
                              rw [e]
                              exact ⟨rfl, Or.inr hK, hO⟩)
          · have h8 : ¬ k.toInt < x.toInt := fun q => h8 (lt_iff_.mpr q)
            refine WP.run (pc' := 35) (L' := [.ref 0, .int x, .int k]) (st' := [.int (-1000001)]) (I1 := I) 1 rfl ?_
            exact WP.ret rfl rfl (by
                          have e : aPlan N x k = (-1000001) := by (unfold aPlan; (repeat rw [nOf_nI (by omega)]); (repeat first | rw [if_pos (by first | assumption | omega | (refine inA_iff.mpr ?_; omega) | (intro q; have q2 := inA_iff.mp q; omega) | (intro q; omega) | (refine ⟨?_, ?_⟩ <;> rw [nI_int (by omega)] <;> omega) | (rw [nI_int (by omega)]; omega) | (intro q; rw [nI_int (by omega)] at q; omega) | (refine ⟨?_, ?_, ?_⟩ <;> omega) | (intro q; obtain ⟨q1, q2, q3⟩ := q; omega) | fail)] | rw [if_neg (by first | assumption | omega | (refine inA_iff.mpr ?_; omega) | (intro q; have q2 := inA_iff.mp q; omega) | (intro q; omega) | (refine ⟨?_, ?_⟩ <;> rw [nI_int (by omega)] <;> omega) | (rw [nI_int (by omega)]; omega) | (intro q; rw [nI_int (by omega)] at q; omega) | (refine ⟨?_, ?_, ?_⟩ <;> omega) | (intro q; obtain ⟨q1, q2, q3⟩ := q; omega) | fail)])) <;> rfl
                          rw [e]
                          exact ⟨rfl, hP, Only.rfl_⟩)
  · have h1 : N 8 = 0 := nI_eq_ (by omega) (by omega) (Decidable.byContradiction h1)
    refine WP.run (pc' := 12) (L' := [.ref 0, .int x, .int k]) (st' := [.int (-1000002)]) (I1 := I) 1 rfl ?_
    exact WP.ret rfl rfl (by
          have e : aPlan N x k = (-1000002) := by (unfold aPlan; (repeat rw [nOf_nI (by omega)]); (repeat first | rw [if_pos (by first | assumption | omega | (refine inA_iff.mpr ?_; omega) | (intro q; have q2 := inA_iff.mp q; omega) | (intro q; omega) | (refine ⟨?_, ?_⟩ <;> rw [nI_int (by omega)] <;> omega) | (rw [nI_int (by omega)]; omega) | (intro q; rw [nI_int (by omega)] at q; omega) | (refine ⟨?_, ?_, ?_⟩ <;> omega) | (intro q; obtain ⟨q1, q2, q3⟩ := q; omega) | fail)] | rw [if_neg (by first | assumption | omega | (refine inA_iff.mpr ?_; omega) | (intro q; have q2 := inA_iff.mp q; omega) | (intro q; omega) | (refine ⟨?_, ?_⟩ <;> rw [nI_int (by omega)] <;> omega) | (rw [nI_int (by omega)]; omega) | (intro q; rw [nI_int (by omega)] at q; omega) | (refine ⟨?_, ?_, ?_⟩ <;> omega) | (intro q; obtain ⟨q1, q2, q3⟩ := q; omega) | fail)])) <;> rfl
          rw [e]
          exact ⟨rfl, hP, Only.rfl_⟩)
set_option maxRecDepth 100000 in
theorem cs_never {d : Nat} {I : Pl} {N : Nat → Nat} (hT : Tw I 247 N) (hN : TI N) (hP : CPlan I N) : EvX (d + 10) 102 [.ref 0] I (fun v K => v = some (.int (aNever N)) ∧ CPlan K N ∧ Only I K pnP) := by
  obtain ⟨b0, b1, b2, b3, b4, b5, b6, b7, b8, bS, bC, bS1, bC1, bZ, bG⟩ := id hN
  obtain ⟨s6, s7, s64⟩ := hN.set64
  refine EvX.enter rfl rfl rfl ?_
  refine WP.run (pc' := 7) (L' := [.ref 0, UU]) (st' := [.int (I 247 0)]) (I1 := I) 3 rfl ?_
  refine WP.cg (st' := [.int (nI (N 8))]) rfl (congrArg (fun z : Int32 => (.int z :: [] : List Value)) (hT.f0)) rfl ?_
  refine WP.run (pc' := if ¬ (nI (N 8)) = 0 then 13 else 10) (L' := [.ref 0, UU]) (st' := []) (I1 := I) 1 rfl ?_
  refine WP.br (fun h1 => ?_) (fun h1 => ?_)
  · have h1 : ¬ N 8 = 0 := fun q => h1 (nI_eq_r q)
    refine WP.run (pc' := 29) (L' := [.ref 0, .int (nI 1)]) (st' := [.int (nI 1), .ref 247, .ref 225]) (I1 := I) 10 rfl ?_
    refine WP.callX (rest := []) rfl rfl (sp_isPlanned (d := d) (dd := 1) hT hN hP (by decide) (by decide)) (fun v J1 hv => ?_)
    obtain ⟨rfl, hK1, hL1, hq1⟩ := hv
    have hO1 : Only I J1 pnP := hq1
    by_cases hp1 : (planN N 1).1 < 1000000
    · refine WP.cg (st' := [.int (nI 1)]) rfl (by rw [b2iT hp1]; rfl) rfl ?_
      refine WP.run (pc' := 40) (L' := [.ref 0, .int ((nI 1) + (nI 1))]) (st' := []) (I1 := J1) 2 rfl ?_
      refine WP.cg (L' := [.ref 0, .int (nI 2)]) (by rfl) rfl rfl ?_
      refine WP.run (pc' := 29) (L' := [.ref 0, .int (nI 2)]) (st' := [.int (nI 2), .ref 247, .ref 225]) (I1 := J1) 9 rfl ?_
      refine WP.callX (rest := []) rfl rfl (sp_isPlanned (d := d) (dd := 2) (hT.cg (fun o k x y => hO1 o k (fun z => by rcases z with z | z <;> omega))) hN (Or.inr hK1) (by decide) (by decide)) (fun v J2 hv => ?_)
      obtain ⟨rfl, hK2, hL2, hq2⟩ := hv
      have hO2 : Only I J2 pnP := hO1.tr hq2
      by_cases hp2 : (planN N 2).1 < 1000000
      · refine WP.cg (st' := [.int (nI 1)]) rfl (by rw [b2iT hp2]; rfl) rfl ?_
        refine WP.run (pc' := 40) (L' := [.ref 0, .int ((nI 2) + (nI 1))]) (st' := []) (I1 := J2) 2 rfl ?_
        refine WP.cg (L' := [.ref 0, .int (nI 3)]) (by rfl) rfl rfl ?_
        refine WP.run (pc' := 29) (L' := [.ref 0, .int (nI 3)]) (st' := [.int (nI 3), .ref 247, .ref 225]) (I1 := J2) 9 rfl ?_
        refine WP.callX (rest := []) rfl rfl (sp_isPlanned (d := d) (dd := 3) (hT.cg (fun o k x y => hO2 o k (fun z => by rcases z with z | z <;> omega))) hN (Or.inr hK2) (by decide) (by decide)) (fun v J3 hv => ?_)
        obtain ⟨rfl, hK3, hL3, hq3⟩ := hv
        have hO3 : Only I J3 pnP := hO2.tr hq3
        by_cases hp3 : (planN N 3).1 < 1000000
        · refine WP.cg (st' := [.int (nI 1)]) rfl (by rw [b2iT hp3]; rfl) rfl ?_
          refine WP.run (pc' := 40) (L' := [.ref 0, .int ((nI 3) + (nI 1))]) (st' := []) (I1 := J3) 2 rfl ?_
          refine WP.cg (L' := [.ref 0, .int (nI 4)]) (by rfl) rfl rfl ?_
          refine WP.run (pc' := 45) (L' := [.ref 0, .int (nI 4)]) (st' := [.int (-1000000)]) (I1 := J3) 5 rfl ?_
          exact WP.ret rfl rfl (by
                      have e : aNever N = (-1000000) := by (unfold aNever; (repeat first | rw [if_pos (by first | assumption | omega | (refine inA_iff.mpr ?_; omega) | (intro q; have q2 := inA_iff.mp q; omega) | (intro q; omega) | (refine ⟨?_, ?_⟩ <;> rw [nI_int (by omega)] <;> omega) | (rw [nI_int (by omega)]; omega) | (intro q; rw [nI_int (by omega)] at q; omega) | (refine ⟨?_, ?_, ?_⟩ <;> omega) | (intro q; obtain ⟨q1, q2, q3⟩ := q; omega) | fail)] | rw [if_neg (by first | assumption | omega | (refine inA_iff.mpr ?_; omega) | (intro q; have q2 := inA_iff.mp q; omega) | (intro q; omega) | (refine ⟨?_, ?_⟩ <;> rw [nI_int (by omega)] <;> omega) | (rw [nI_int (by omega)]; omega) | (intro q; rw [nI_int (by omega)] at q; omega) | (refine ⟨?_, ?_, ?_⟩ <;> omega) | (intro q; obtain ⟨q1, q2, q3⟩ := q; omega) | fail)])) <;> rfl
                      rw [e]
                      exact ⟨rfl, Or.inr hK3, hO3⟩)
        · refine WP.cg (st' := [.int (nI 0)]) rfl (by rw [b2iF hp3]; rfl) rfl ?_
          refine WP.run (pc' := 36) (L' := [.ref 0, .int (nI 3)]) (st' := [.int (nI 3)]) (I1 := J3) 2 rfl ?_
          exact WP.ret rfl rfl (by
                      have e : aNever N = (nI 3) := by (unfold aNever; (repeat first | rw [if_pos (by first | assumption | omega | (refine inA_iff.mpr ?_; omega) | (intro q; have q2 := inA_iff.mp q; omega) | (intro q; omega) | (refine ⟨?_, ?_⟩ <;> rw [nI_int (by omega)] <;> omega) | (rw [nI_int (by omega)]; omega) | (intro q; rw [nI_int (by omega)] at q; omega) | (refine ⟨?_, ?_, ?_⟩ <;> omega) | (intro q; obtain ⟨q1, q2, q3⟩ := q; omega) | fail)] | rw [if_neg (by first | assumption | omega | (refine inA_iff.mpr ?_; omega) | (intro q; have q2 := inA_iff.mp q; omega) | (intro q; omega) | (refine ⟨?_, ?_⟩ <;> rw [nI_int (by omega)] <;> omega) | (rw [nI_int (by omega)]; omega) | (intro q; rw [nI_int (by omega)] at q; omega) | (refine ⟨?_, ?_, ?_⟩ <;> omega) | (intro q; obtain ⟨q1, q2, q3⟩ := q; omega) | fail)])) <;> rfl
                      rw [e]
                      exact ⟨rfl, Or.inr hK3, hO3⟩)
      · refine WP.cg (st' := [.int (nI 0)]) rfl (by rw [b2iF hp2]; rfl) rfl ?_
        refine WP.run (pc' := 36) (L' := [.ref 0, .int (nI 2)]) (st' := [.int (nI 2)]) (I1 := J2) 2 rfl ?_
        exact WP.ret rfl rfl (by
                  have e : aNever N = (nI 2) := by (unfold aNever; (repeat first | rw [if_pos (by first | assumption | omega | (refine inA_iff.mpr ?_; omega) | (intro q; have q2 := inA_iff.mp q; omega) | (intro q; omega) | (refine ⟨?_, ?_⟩ <;> rw [nI_int (by omega)] <;> omega) | (rw [nI_int (by omega)]; omega) | (intro q; rw [nI_int (by omega)] at q; omega) | (refine ⟨?_, ?_, ?_⟩ <;> omega) | (intro q; obtain ⟨q1, q2, q3⟩ := q; omega) | fail)] | rw [if_neg (by first | assumption | omega | (refine inA_iff.mpr ?_; omega) | (intro q; have q2 := inA_iff.mp q; omega) | (intro q; omega) | (refine ⟨?_, ?_⟩ <;> rw [nI_int (by omega)] <;> omega) | (rw [nI_int (by omega)]; omega) | (intro q; rw [nI_int (by omega)] at q; omega) | (refine ⟨?_, ?_, ?_⟩ <;> omega) | (intro q; obtain ⟨q1, q2, q3⟩ := q; omega) | fail)])) <;> rfl
                  rw [e]
                  exact ⟨rfl, Or.inr hK2, hO2⟩)
    · refine WP.cg (st' := [.int (nI 0)]) rfl (by rw [b2iF hp1]; rfl) rfl ?_
      refine WP.run (pc' := 36) (L' := [.ref 0, .int (nI 1)]) (st' := [.int (nI 1)]) (I1 := J1) 2 rfl ?_
      exact WP.ret rfl rfl (by
              have e : aNever N = (nI 1) := by (unfold aNever; (repeat first | rw [if_pos (by first | assumption | omega | (refine inA_iff.mpr ?_; omega) | (intro q; have q2 := inA_iff.mp q; omega) | (intro q; omega) | (refine ⟨?_, ?_⟩ <;> rw [nI_int (by omega)] <;> omega) | (rw [nI_int (by omega)]; omega) | (intro q; rw [nI_int (by omega)] at q; omega) | (refine ⟨?_, ?_, ?_⟩ <;> omega) | (intro q; obtain ⟨q1, q2, q3⟩ := q; omega) | fail)] | rw [if_neg (by first | assumption | omega | (refine inA_iff.mpr ?_; omega) | (intro q; have q2 := inA_iff.mp q; omega) | (intro q; omega) | (refine ⟨?_, ?_⟩ <;> rw [nI_int (by omega)] <;> omega) | (rw [nI_int (by omega)]; omega) | (intro q; rw [nI_int (by omega)] at q; omega) | (refine ⟨?_, ?_, ?_⟩ <;> omega) | (intro q; obtain ⟨q1, q2, q3⟩ := q; omega) | fail)])) <;> rfl
              rw [e]
              exact ⟨rfl, Or.inr hK1, hO1⟩)
  · have h1 : N 8 = 0 := nI_eq_ (by omega) (by omega) (Decidable.byContradiction h1)
    refine WP.run (pc' := 12) (L' := [.ref 0, UU]) (st' := [.int (-1000002)]) (I1 := I) 1 rfl ?_
    exact WP.ret rfl rfl (by
          have e : aNever N = (-1000002) := by (unfold aNever; (repeat first | rw [if_pos (by first | assumption | omega | (refine inA_iff.mpr ?_; omega) | (intro q; have q2 := inA_iff.mp q; omega) | (intro q; omega) | (refine ⟨?_, ?_⟩ <;> rw [nI_int (by omega)] <;> omega) | (rw [nI_int (by omega)]; omega) | (intro q; rw [nI_int (by omega)] at q; omega) | (refine ⟨?_, ?_, ?_⟩ <;> omega) | (intro q; obtain ⟨q1, q2, q3⟩ := q; omega) | fail)] | rw [if_neg (by first | assumption | omega | (refine inA_iff.mpr ?_; omega) | (intro q; have q2 := inA_iff.mp q; omega) | (intro q; omega) | (refine ⟨?_, ?_⟩ <;> rw [nI_int (by omega)] <;> omega) | (rw [nI_int (by omega)]; omega) | (intro q; rw [nI_int (by omega)] at q; omega) | (refine ⟨?_, ?_, ?_⟩ <;> omega) | (intro q; obtain ⟨q1, q2, q3⟩ := q; omega) | fail)])) <;> rfl
          rw [e]
          exact ⟨rfl, hP, Only.rfl_⟩)
