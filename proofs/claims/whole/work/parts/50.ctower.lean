/-! the class reads its tape; tower -/
def finP (T : TpS) (y : PS) : PS := if y.1.2 = 0 ∧ y.1.1 < T.1 then ((y.1.1, 1), y.2) else y
theorem pTow_fin (T : TpS) : pTow T = finP T (itC T (itS T (pLaw T Z0 (0, 0)) 120) 120) := by
  (unfold pTow finP pAll) <;> rfl
theorem pLaw_3 {T : TpS} {s : Nat × Nat} : (pLaw T Z0 s).2 3 = 0 := by
  unfold pLaw
  dsimp only
  rw [setN_o (by decide), setN_o (by decide)]
  rfl
def rtP (o _k : Nat) : Prop := o = 13 ∨ (23 ≤ o ∧ o ≤ 30)
def RtQ (I : Pl) (T : TpS) (y : PS) (K : Pl) : Prop := K 13 3 = nI 0 ∧ K 13 4 = nI (finP T y).1.1 ∧ K 13 5 = nI (finP T y).1.2 ∧ Tw K 23 (setN (finP T y).2 8 (if (finP T y).1.2 = 0 then 1 else 0)) ∧ Only I K rtP
theorem rt_a {I J : Pl} {T : TpS} {y : PS} {b : Nat} (h : RdC J T y.1 y.2) (hO : Only I J rdP) (hy : finP T y = y) (hb : b = if y.1.2 = 0 then 1 else 0) : RtQ I T y (upN (upN J 23 0 (nI b)) 13 3 (nI 0)) := by
  have hT : Tw (upN (upN J 23 0 (nI b)) 13 3 (nI 0)) 23 (setN y.2 8 b) := (Tw.fd0 h.t).cg (fun o k p q => upN_no (by omega))
  refine ⟨upN_s, ?_, ?_, ?_, ?_⟩
  · rw [upN_nk (by decide), upN_no (by decide), hy]
    exact h.p
  · rw [upN_nk (by decide), upN_no (by decide), hy]
    exact h.f
  · rw [hy, ← hb]
    exact hT
  · exact ((hO.wk (fun o k z => by rcases z with z | z <;> first | exact Or.inl z.1 | exact Or.inr z)).up (Or.inr ⟨by decide, by decide⟩)).up (Or.inl rfl)
theorem rt_b {I J : Pl} {T : TpS} {y : PS} (h : RdC J T y.1 y.2) (hO : Only I J rdP) (h1 : y.1.2 = 0) (h2 : y.1.1 < T.1) : RtQ I T y (upN (upN (upN J 13 5 (nI 1)) 23 0 (nI 0)) 13 3 (nI 0)) := by
  have hy : finP T y = ((y.1.1, 1), y.2) := if_pos ⟨h1, h2⟩
  have hT : Tw (upN (upN (upN J 13 5 (nI 1)) 23 0 (nI 0)) 13 3 (nI 0)) 23 (setN y.2 8 0) := (Tw.fd0 (h.t.cg (J := upN J 13 5 (nI 1)) (fun o k p q => upN_no (by omega)))).cg (fun o k p q => upN_no (by omega))
  refine ⟨upN_s, ?_, ?_, ?_, ?_⟩
  · rw [upN_nk (by decide), upN_no (by decide), upN_nk (by decide), hy]
    exact h.p
  · rw [upN_nk (by decide), upN_no (by decide), upN_s, hy]
  · rw [hy]
    exact hT
  · exact (((hO.wk (fun o k z => by rcases z with z | z <;> first | exact Or.inl z.1 | exact Or.inr z)).up (Or.inl rfl)).up (Or.inr ⟨by decide, by decide⟩)).up (Or.inl rfl)
theorem rd_start {I : Pl} {T : TpS} (hT : TpC I T) (hI : TpI T) (hB : Tw I 15 Z0) : RdC (becN (upN (upN I 13 4 (nI 0)) 13 5 (nI 0)) 23 15) T (0, 0) Z0 ∧ Only I (becN (upN (upN I 13 4 (nI 0)) 13 5 (nI 0)) 23 15) rdP := by
  refine ⟨⟨?_, ?_, becN_tw (by decide) (hB.cg (fun o k p q => by rw [upN_no (by omega), upN_no (by omega)])), ⟨?_, fun i hi => ?_⟩, Nat.zero_le _, Nat.zero_le _, hI.1, hI.2⟩, fun o k h => ?_⟩
  · rw [becN_fr (by decide), upN_nk (by decide), upN_s]
  · rw [becN_fr (by decide), upN_s]
  · rw [becN_fr (by decide), upN_nk (by decide), upN_nk (by decide)]
    exact hT.1
  · rw [becN_fr (by decide), upN_no (by decide), upN_no (by decide)]
    exact hT.2 i hi
  · have h1 : ¬ (o = 13 ∧ (k = 4 ∨ k = 5)) := fun z => h (Or.inl z)
    have h2 : ¬ (23 ≤ o ∧ o ≤ 30) := fun z => h (Or.inr z)
    rw [becN_fr (by omega)]
    by_cases q : o = 13
    · rw [upN_nk (by omega), upN_nk (by omega)]
    · rw [upN_no q, upN_no q]
set_option maxRecDepth 100000 in
theorem lc_fin {d : Nat} {I J : Pl} {T : TpS} {y : PS} {z : Nat} (hR : RdC J T y.1 y.2) (hO : Only I J rdP) : WP (d + 3) (53, 3, none, sc0) 94 [.ref 13, .int (nI z)] [] J (fun v K => v = none ∧ RtQ I T (y) K) := by
  have h120 := hR.ln
  have hlp := hR.lp
  have hlf := hR.lf
  refine WP.run (pc' := 98) (L' := [.ref 13, .int (nI z)]) (st' := [.int (J 13 5)]) (I1 := J) 2 rfl ?_
  refine WP.cg (st' := [.int (nI y.1.2)]) rfl (congrArg (fun z : Int32 => (.int z :: [] : List Value)) ((RdC.f hR))) rfl ?_
  refine WP.run (pc' := if ¬ (nI y.1.2) = 0 then 117 else 101) (L' := [.ref 13, .int (nI z)]) (st' := []) (I1 := J) 1 rfl ?_
  refine WP.br (fun h1 => ?_) (fun h1 => ?_)
  · have h1 : ¬ y.1.2 = 0 := fun q => h1 (nI_eq_r q)
    refine WP.run (pc' := 125) (L' := [.ref 13, .int (nI z)]) (st' := [.int (J 13 5), .ref 23]) (I1 := J) 4 rfl ?_
    refine WP.cg (st' := [.int (nI y.1.2), .ref 23]) rfl (congrArg (fun z : Int32 => (.int z :: [.ref 23] : List Value)) ((RdC.f hR))) rfl ?_
    refine WP.run (pc' := if ¬ (nI y.1.2) = 0 then 132 else 128) (L' := [.ref 13, .int (nI z)]) (st' := [.ref 23]) (I1 := J) 1 rfl ?_
    refine WP.br (fun h2 => ?_) (fun h2 => ?_)
    · have h2 : ¬ y.1.2 = 0 := fun q => h2 (nI_eq_r q)
      refine WP.run (pc' := 141) (L' := [.ref 13, .int (nI z)]) (st' := []) (I1 := (upN (upN J 23 0 (nI 0)) 13 3 (nI 0))) 5 rfl ?_
      exact WP.ret rfl rfl (⟨rfl, rt_a hR hO (if_neg (by omega)) (by first | (exfalso; omega) | rw [if_pos (by omega)] | rw [if_neg (by omega)])⟩)
    · have h2 : y.1.2 = 0 := nI_eq_ (by omega) (by omega) (Decidable.byContradiction h2)
      refine WP.run (pc' := 141) (L' := [.ref 13, .int (nI z)]) (st' := []) (I1 := (upN (upN J 23 0 (nI 1)) 13 3 (nI 0))) 6 rfl ?_
      exact WP.ret rfl rfl (⟨rfl, rt_a hR hO (if_neg (by omega)) (by first | (exfalso; omega) | rw [if_pos (by omega)] | rw [if_neg (by omega)])⟩)
  · have h1 : y.1.2 = 0 := nI_eq_ (by omega) (by omega) (Decidable.byContradiction h1)
    refine WP.run (pc' := 105) (L' := [.ref 13, .int (nI z)]) (st' := [.int (J 13 4)]) (I1 := J) 2 rfl ?_
    refine WP.cg (st' := [.int (nI y.1.1)]) rfl (congrArg (fun z : Int32 => (.int z :: [] : List Value)) ((RdC.p hR))) rfl ?_
    refine WP.run (pc' := 109) (L' := [.ref 13, .int (nI z)]) (st' := [.int (J 13 3), .int (nI y.1.1)]) (I1 := J) 2 rfl ?_
    refine WP.cg (st' := [.int (nI T.1), .int (nI y.1.1)]) rfl (congrArg (fun z : Int32 => (.int z :: [.int (nI y.1.1)] : List Value)) ((RdC.n hR))) rfl ?_
    refine WP.run (pc' := if (nI T.1) ≤ (nI y.1.1) then 117 else 112) (L' := [.ref 13, .int (nI z)]) (st' := []) (I1 := J) 1 rfl ?_
    refine WP.br (fun h3 => ?_) (fun h3 => ?_)
    · have h3 : T.1 ≤ y.1.1 := nI_le_ (by omega) (by omega) h3
      refine WP.run (pc' := 125) (L' := [.ref 13, .int (nI z)]) (st' := [.int (J 13 5), .ref 23]) (I1 := J) 4 rfl ?_
      refine WP.cg (st' := [.int (nI y.1.2), .ref 23]) rfl (congrArg (fun z : Int32 => (.int z :: [.ref 23] : List Value)) ((RdC.f hR))) rfl ?_
      refine WP.run (pc' := if ¬ (nI y.1.2) = 0 then 132 else 128) (L' := [.ref 13, .int (nI z)]) (st' := [.ref 23]) (I1 := J) 1 rfl ?_
      refine WP.br (fun h4 => ?_) (fun h4 => ?_)
      · have h4 : ¬ y.1.2 = 0 := fun q => h4 (nI_eq_r q)
        refine WP.run (pc' := 141) (L' := [.ref 13, .int (nI z)]) (st' := []) (I1 := (upN (upN J 23 0 (nI 0)) 13 3 (nI 0))) 5 rfl ?_
        exact WP.ret rfl rfl (⟨rfl, rt_a hR hO (if_neg (by omega)) (by first | (exfalso; omega) | rw [if_pos (by omega)] | rw [if_neg (by omega)])⟩)
      · have h4 : y.1.2 = 0 := nI_eq_ (by omega) (by omega) (Decidable.byContradiction h4)
        refine WP.run (pc' := 141) (L' := [.ref 13, .int (nI z)]) (st' := []) (I1 := (upN (upN J 23 0 (nI 1)) 13 3 (nI 0))) 6 rfl ?_
        exact WP.ret rfl rfl (⟨rfl, rt_a hR hO (if_neg (by omega)) (by first | (exfalso; omega) | rw [if_pos (by omega)] | rw [if_neg (by omega)])⟩)
    · have h3 : ¬ T.1 ≤ y.1.1 := fun q => h3 (nI_le_r (by omega) q)
      refine WP.run (pc' := 141) (L' := [.ref 13, .int (nI z)]) (st' := []) (I1 := (upN (upN (upN J 13 5 (nI 1)) 23 0 (nI 0)) 13 3 (nI 0))) 13 rfl ?_
      exact WP.ret rfl rfl (⟨rfl, rt_b hR hO (by omega) (by omega)⟩)
set_option maxRecDepth 100000 in
theorem lc_cl {d : Nat} {I : Pl} {T : TpS} {x : PS} (hx : PI T x) (h0 : x.2 3 = 0) : ∀ t, t ≤ 120 → ∀ J, RdC J T (itC T x t).1 (itC T x t).2 → Only I J rdP → WP (d + 3) (53, 3, none, sc0) 62 [.ref 13, .int (nI t)] [] J (fun v K => v = none ∧ RtQ I T (itC T x 120) K) := by
  refine loopUp (fun t ht ih => ?_)
  intro J hR hO
  obtain ⟨q1, q2, q3, q4, q5, q6⟩ := PI_itC hx t
  have h120 := hR.ln
  have hlp := hR.lp
  have hlf := hR.lf
  have hsp := srP_le (T := T) (p := (itC T x t).1.1)
  refine WP.run (pc' := if (nI 120) ≤ (nI t) then 94 else 68) (L' := [.ref 13, .int (nI t)]) (st' := []) (I1 := J) 3 rfl ?_
  refine WP.br (fun h1 => ?_) (fun h1 => ?_)
  · have h1 : 120 ≤ t := nI_le_ (by omega) (by omega) h1
    have hE : itC T x 120 = itC T x t := by
      first
      | exact itC_end ht (fun q => by have e1 := q.1; have e2 := q.2.1; have e3 := q.2.2; omega)
      | rw [show t = 120 by omega]
    rw [hE]
    exact lc_fin hR hO
  · have h1 : ¬ 120 ≤ t := fun q => h1 (nI_le_r (by omega) q)
    refine WP.run (pc' := 72) (L' := [.ref 13, .int (nI t)]) (st' := [.int (J 13 5)]) (I1 := J) 2 rfl ?_
    refine WP.cg (st' := [.int (nI ((itC T x t).1.2))]) rfl (congrArg (fun z : Int32 => (.int z :: [] : List Value)) ((RdC.f hR))) rfl ?_
    refine WP.run (pc' := if ¬ (nI ((itC T x t).1.2)) = 0 then 94 else 75) (L' := [.ref 13, .int (nI t)]) (st' := []) (I1 := J) 1 rfl ?_
    refine WP.br (fun h2 => ?_) (fun h2 => ?_)
    · have h2 : ¬ (itC T x t).1.2 = 0 := fun q => h2 (nI_eq_r q)
      have hE : itC T x 120 = itC T x t := by
        first
        | exact itC_end ht (fun q => by have e1 := q.1; have e2 := q.2.1; have e3 := q.2.2; omega)
        | rw [show t = 120 by omega]
      rw [hE]
      exact lc_fin hR hO
    · have h2 : (itC T x t).1.2 = 0 := nI_eq_ (by omega) (by omega) (Decidable.byContradiction h2)
      refine WP.run (pc' := 76) (L' := [.ref 13, .int (nI t)]) (st' := [.ref 13]) (I1 := J) 1 rfl ?_
      refine WP.callV (rest := []) rfl rfl (sp_here (d := d + 2) hR) ?_
      by_cases hp : (itC T x t).1.1 < T.1
      · have hb := hR.lb hp
        refine WP.cg (st' := [.int (nI (T.2 (itC T x t).1.1))]) rfl (by rw [show hV T (itC T x t).1.1 = nI (T.2 (itC T x t).1.1) from if_pos hp]; rfl) rfl ?_
        refine WP.run (pc' := if ¬ (nI (T.2 (itC T x t).1.1)) = (nI 99) then 94 else 84) (L' := [.ref 13, .int (nI t)]) (st' := []) (I1 := J) 2 rfl ?_
        refine WP.br (fun h3 => ?_) (fun h3 => ?_)
        · have h3 : ¬ T.2 (itC T x t).1.1 = 99 := fun q => h3 (nI_eq_r q)
          have hE : itC T x 120 = itC T x t := by
            first
            | exact itC_end ht (fun q => by have e1 := q.1; have e2 := q.2.1; have e3 := q.2.2; omega)
            | rw [show t = 120 by omega]
          rw [hE]
          exact lc_fin hR hO
        · have h3 : T.2 (itC T x t).1.1 = 99 := nI_eq_ (by omega) (by omega) (Decidable.byContradiction h3)
          refine WP.run (pc' := 85) (L' := [.ref 13, .int (nI t)]) (st' := [.ref 13]) (I1 := J) 1 rfl ?_
          refine WP.callX (rest := []) rfl rfl (sp_rcl (d := d) hR (by omega) (by omega) hp) (fun v J1 hv => ?_)
          obtain ⟨rfl, hR1, hO1⟩ := hv
          refine WP.run (pc' := 91) (L' := [.ref 13, .int ((nI t) + nI 1)]) (st' := []) (I1 := J1) 1 rfl ?_
          refine WP.cg (L' := [.ref 13, .int (nI (t + 1))]) (congrArg (fun z : Int32 => ([.ref 13, .int z] : List Value)) (nI_add t 1)) rfl rfl ?_
          refine WP.run (pc' := 62) (L' := [.ref 13, .int (nI (t + 1))]) (st' := []) (I1 := J1) 1 rfl ?_
          refine ih (by omega) J1 ?_ (hO.tr hO1)
          rw [itC_e, if_pos ⟨by omega, hp, by omega⟩]
          exact hR1
      · refine WP.cg (st' := [.int (-1)]) rfl (by rw [show hV T (itC T x t).1.1 = -1 from if_neg hp]; rfl) rfl ?_
        refine WP.run (pc' := 94) (L' := [.ref 13, .int (nI t)]) (st' := []) (I1 := J) 2 rfl ?_
        have hE : itC T x 120 = itC T x t := by
          first
          | exact itC_end ht (fun q => by have e1 := q.1; have e2 := q.2.1; have e3 := q.2.2; omega)
          | rw [show t = 120 by omega]
        rw [hE]
        exact lc_fin hR hO
theorem pStr_3 {T : TpS} {M : Nat → Nat} {p : Nat} (h : M 3 = 0) : (pStr T M p).2 3 = 0 := by
  unfold pStr
  split
  · dsimp only
    rw [setN_o (by decide), setN_o (by omega), setN_o (by omega), h]
  · exact h
theorem itS_3 {T : TpS} {x : PS} (h : x.2 3 = 0) : ∀ t, (itS T x t).2 3 = 0 := by
  intro t
  induction t with
  | zero => exact h
  | succ t ih =>
    rw [itS_e]
    split
    · exact pStr_3 ih
    · exact ih
set_option maxRecDepth 100000 in
theorem lc_str {d : Nat} {I : Pl} {T : TpS} {x : PS} (hx : PI T x) (h0 : x.2 3 = 0) : ∀ t, t ≤ 120 → ∀ J, RdC J T (itS T x t).1 (itS T x t).2 → Only I J rdP → WP (d + 3) (53, 3, none, sc0) 27 [.ref 13, .int (nI t)] [] J (fun v K => v = none ∧ RtQ I T (itC T (itS T x 120) 120) K) := by
  refine loopUp (fun t ht ih => ?_)
  intro J hR hO
  obtain ⟨q1, q2, q3, q4, q5, q6⟩ := PI_itS hx t
  have h120 := hR.ln
  have hlp := hR.lp
  have hlf := hR.lf
  have hsp := srP_le (T := T) (p := (itS T x t).1.1)
  refine WP.run (pc' := if (nI 120) ≤ (nI t) then 60 else 33) (L' := [.ref 13, .int (nI t)]) (st' := []) (I1 := J) 3 rfl ?_
  refine WP.br (fun h1 => ?_) (fun h1 => ?_)
  · have h1 : 120 ≤ t := nI_le_ (by omega) (by omega) h1
    refine WP.run (pc' := 62) (L' := [.ref 13, .int (nI 0)]) (st' := []) (I1 := J) 2 rfl ?_
    have hE : itS T x 120 = itS T x t := by
      first
      | exact itS_end ht (fun q => by have e1 := q.1; have e2 := q.2; omega)
      | rw [show t = 120 by omega]
    refine lc_cl (x := itS T x 120) (PI_itS hx 120) ?_ 0 (Nat.zero_le _) J (by rw [hE]; exact hR) hO
    exact itS_3 h0 120
  · have h1 : ¬ 120 ≤ t := fun q => h1 (nI_le_r (by omega) q)
    refine WP.run (pc' := 37) (L' := [.ref 13, .int (nI t)]) (st' := [.int (J 13 5)]) (I1 := J) 2 rfl ?_
    refine WP.cg (st' := [.int (nI ((itS T x t).1.2))]) rfl (congrArg (fun z : Int32 => (.int z :: [] : List Value)) ((RdC.f hR))) rfl ?_
    refine WP.run (pc' := if ¬ (nI ((itS T x t).1.2)) = 0 then 60 else 40) (L' := [.ref 13, .int (nI t)]) (st' := []) (I1 := J) 1 rfl ?_
    refine WP.br (fun h2 => ?_) (fun h2 => ?_)
    · have h2 : ¬ (itS T x t).1.2 = 0 := fun q => h2 (nI_eq_r q)
      refine WP.run (pc' := 62) (L' := [.ref 13, .int (nI 0)]) (st' := []) (I1 := J) 2 rfl ?_
      have hE : itS T x 120 = itS T x t := by
        first
        | exact itS_end ht (fun q => by have e1 := q.1; have e2 := q.2; omega)
        | rw [show t = 120 by omega]
      refine lc_cl (x := itS T x 120) (PI_itS hx 120) ?_ 0 (Nat.zero_le _) J (by rw [hE]; exact hR) hO
      exact itS_3 h0 120
    · have h2 : (itS T x t).1.2 = 0 := nI_eq_ (by omega) (by omega) (Decidable.byContradiction h2)
      refine WP.run (pc' := 41) (L' := [.ref 13, .int (nI t)]) (st' := [.ref 13]) (I1 := J) 1 rfl ?_
      refine WP.callV (rest := []) rfl rfl (sp_here (d := d + 2) hR) ?_
      refine WP.callV (rest := []) rfl rfl (sp_sortOf (d := d + 2) (T := T) (p := (itS T x t).1.1) (fun i hi => RdC.lb hR hi)) ?_
      refine WP.run (pc' := if (nI (srP T (itS T x t).1.1)) = 0 then 60 else 50) (L' := [.ref 13, .int (nI t)]) (st' := []) (I1 := J) 1 rfl ?_
      refine WP.br (fun h3 => ?_) (fun h3 => ?_)
      · have h3 : srP T (itS T x t).1.1 = 0 := nI_eq_ (by omega) (by omega) h3
        refine WP.run (pc' := 62) (L' := [.ref 13, .int (nI 0)]) (st' := []) (I1 := J) 2 rfl ?_
        have hE : itS T x 120 = itS T x t := by
          first
          | exact itS_end ht (fun q => by have e1 := q.1; have e2 := q.2; omega)
          | rw [show t = 120 by omega]
        refine lc_cl (x := itS T x 120) (PI_itS hx 120) ?_ 0 (Nat.zero_le _) J (by rw [hE]; exact hR) hO
        exact itS_3 h0 120
      · have h3 : ¬ srP T (itS T x t).1.1 = 0 := fun q => h3 (nI_eq_r q)
        refine WP.run (pc' := 51) (L' := [.ref 13, .int (nI t)]) (st' := [.ref 13]) (I1 := J) 1 rfl ?_
        refine WP.callX (rest := []) rfl rfl (sp_rstr (d := d) hR (by omega) (by omega) (by
          rcases Nat.lt_or_ge (itS T x t).1.1 T.1 with w | w
          · exact w
          · exact absurd (show srP T (itS T x t).1.1 = 0 from if_neg (by omega)) (by omega))) (fun v J1 hv => ?_)
        obtain ⟨rfl, hR1, hO1⟩ := hv
        refine WP.run (pc' := 57) (L' := [.ref 13, .int ((nI t) + nI 1)]) (st' := []) (I1 := J1) 1 rfl ?_
        refine WP.cg (L' := [.ref 13, .int (nI (t + 1))]) (congrArg (fun z : Int32 => ([.ref 13, .int z] : List Value)) (nI_add t 1)) rfl rfl ?_
        refine WP.run (pc' := 27) (L' := [.ref 13, .int (nI (t + 1))]) (st' := []) (I1 := J1) 1 rfl ?_
        refine ih (by omega) J1 ?_ (hO.tr hO1)
        rw [itS_e, if_pos ⟨by omega, by omega⟩]
        exact hR1
set_option maxRecDepth 100000 in
theorem sp_readTape {d : Nat} {I : Pl} {T : TpS} (hT : TpC I T) (hI : TpI T) (hB : Tw I 15 Z0) : EvX (d + 4) 53 [.ref 13] I (fun v K => v = none ∧ RtQ I T (itC T (itS T (pLaw T Z0 (0, 0)) 120) 120) K) := by
  obtain ⟨hR0, hO0⟩ := rd_start hT hI hB
  refine EvX.enter rfl rfl rfl ?_
  refine WP.run (pc' := 18) (L' := [.ref 13, UU]) (st' := [.ref 15, .ref 23]) (I1 := (upN (upN I 13 4 (nI 0)) 13 5 (nI 0))) 10 rfl ?_
  refine WP.callV (rest := []) rfl rfl (sp_become_23_15 (d := d + 2) (I := (upN (upN I 13 4 (nI 0)) 13 5 (nI 0))) (by rw [upN_no (by decide), upN_no (by decide), hB.f0]; exact Or.inl rfl)) ?_
  refine WP.run (pc' := 22) (L' := [.ref 13, UU]) (st' := [.ref 13]) (I1 := (becN (upN (upN I 13 4 (nI 0)) 13 5 (nI 0)) 23 15)) 1 rfl ?_
  refine WP.callX (rest := []) rfl rfl (sp_rlaw (d := d) hR0) (fun v J1 hv => ?_)
  obtain ⟨rfl, hR1, hO1⟩ := hv
  refine WP.run (pc' := 27) (L' := [.ref 13, .int (nI 0)]) (st' := []) (I1 := J1) 2 rfl ?_
  exact lc_str (x := pLaw T Z0 (0, 0)) PI_law pLaw_3 0 (Nat.zero_le _) J1 hR1 (hO0.tr hO1)
def nTower (S : TwS) (y : PS) (lf : Int32) : Int32 × TwS × Int32 := if y.1.2 = 0 then (nI (y.2 3), (setN y.2 8 1, 0, S.2.2), lf) else (-1000100 - nI y.1.1, S, nI y.1.2)
theorem nTower_I {S : TwS} {T : TpS} {y : PS} {lf : Int32} (h : TSI S) (hy : PI T y) : TSI (nTower S y lf).2.1 := by
  have hp := hy.2.2.2.2.2
  unfold nTower
  split
  · exact ⟨hp (by assumption), Nat.zero_le _, fun j hj => absurd hj (Nat.not_lt_zero _)⟩
  · exact h
def ttP (o k : Nat) : Prop := tsP o k ∨ o = 13 ∨ (23 ≤ o ∧ o ≤ 30) ∨ (o = 0 ∧ k = 8)
theorem ttP1 {I J : Pl} (h : Only I J rtP) : Only I J ttP := h.wk (fun o k z => by rcases z with z | z <;> first | exact Or.inr (Or.inl z) | exact Or.inr (Or.inr (Or.inl z)))
theorem sp_readTape2 {d : Nat} {I : Pl} {T : TpS} {y : PS} (hT : TpC I T) (hI : TpI T) (hB : Tw I 15 Z0) (hy : pTow T = y) : EvX (d + 4) 53 [.ref 13] I (fun v K => v = none ∧ K 13 3 = nI 0 ∧ K 13 4 = nI y.1.1 ∧ K 13 5 = nI y.1.2 ∧ Tw K 23 (setN y.2 8 (if y.1.2 = 0 then 1 else 0)) ∧ Only I K rtP) := by
  obtain ⟨v, K, g, h1, k3, k4, k5, k6, k7⟩ := sp_readTape (d := d) hT hI hB
  rw [← pTow_fin, hy] at k4 k5 k6
  exact ⟨v, K, g, h1, k3, k4, k5, k6, k7⟩
set_option maxRecDepth 100000 in
theorem cs_tower {d : Nat} {I : Pl} {N : Nat → Nat} {m : Nat} {F : Nat → Nat → Nat} {T : TpS} {y : PS} {lf : Int32} (hS : TSC I (N, m, F)) (hI : TSI (N, m, F)) (hT : TpC I T) (hTI : TpI T) (hB : Tw I 15 Z0) (hlf : I 0 8 = lf) (hy : pTow T = y) (hPI : PI T y) : EvX (d + 5) 88 [.ref 0] I (fun v K => v = some (.int (nTower (N, m, F) y lf).1) ∧ TSC K (nTower (N, m, F) y lf).2.1 ∧ TpC K (0, T.2) ∧ K 0 8 = (nTower (N, m, F) y lf).2.2 ∧ Only I K ttP ∧ (PlF K ∨ ((∀ o k, 225 ≤ o → o ≤ 244 → K o k = I o k) ∧ (nTower (N, m, F) y lf).2.1 = (N, m, F)))) := by
  obtain ⟨p1, p2, p3, p4, p5, p6⟩ := id hPI
  have h120 : T.1 ≤ 120 := hTI.1
  refine EvX.enter rfl rfl rfl ?_
  refine WP.run (pc' := 4) (L' := [.ref 0]) (st' := [.ref 13]) (I1 := I) 2 rfl ?_
  refine WP.callX (rest := []) rfl rfl (sp_readTape2 (d := d) hT hTI hB hy) (fun v J1 hv => ?_)
  obtain ⟨rfl, k3, k4, k5, kT, kO⟩ := hv
  refine WP.run (pc' := 14) (L' := [.ref 0]) (st' := [.int (J1 13 5)]) (I1 := J1) 3 rfl ?_
  refine WP.cg (st' := [.int (nI y.1.2)]) rfl (congrArg (fun z : Int32 => (.int z :: [] : List Value)) (k5)) rfl ?_
  refine WP.run (pc' := if (nI y.1.2) = 0 then 39 else 17) (L' := [.ref 0]) (st' := []) (I1 := J1) 1 rfl ?_
  refine WP.br (fun h1 => ?_) (fun h1 => ?_)
  · have h1 : y.1.2 = 0 := nI_eq_ (by omega) (by omega) h1
    rw [if_pos (by omega)] at kT
    refine WP.run (pc' := 50) (L' := [.ref 0]) (st' := [.ref 23, .ref 247]) (I1 := J1) 5 rfl ?_
    refine WP.callV (rest := []) rfl rfl (sp_become_247_23 (d := d + 3) (I := J1) (tw_b kT (p6 (by omega)))) ?_
    refine WP.run (pc' := 54) (L' := [.ref 0]) (st' := [.ref 0]) (I1 := (becN J1 247 23)) 1 rfl ?_
    refine WP.callV (rest := []) rfl rfl (sp_beginAnew (d := d + 2) (I := (becN J1 247 23))) ?_
    have hO2 : Only J1 (becN J1 247 23) tsP := fun o k q => becN_fr (by have q2 : ¬ (247 ≤ o ∧ o ≤ 254) := fun z => q (Or.inr z); omega)
    have ha := anew_TS (F := F) (becN_tw (I := J1) (a := 247) (b := 23) (by decide) kT) hO2
    refine WP.run (pc' := 64) (L' := [.ref 0]) (st' := [.int ((anewN (becN J1 247 23)) 247 8)]) (I1 := (anewN (becN J1 247 23))) 3 rfl ?_
    refine WP.cg (st' := [.int (nI (y.2 3))]) rfl (congrArg (fun z : Int32 => (.int z :: [] : List Value)) (ha.1.1.f8.trans (congrArg nI (setN_o (N := y.2) (i := 8) (v := 1) (show ¬ 3 = 8 by decide))))) rfl ?_
    exact WP.ret rfl rfl (by
          have e : nTower (N, m, F) y lf = (nI (y.2 3), (setN y.2 8 1, 0, F), lf) := if_pos (by omega)
          rw [e]
          refine ⟨rfl, ha.1, ⟨?_, fun i hi => absurd hi (Nat.not_lt_zero _)⟩, ?_, (ttP1 kO).tr (ha.2.wk (fun o k z => Or.inl z)), Or.inl forgN_F⟩
          · rw [ha.2 13 3 (fun z => by rcases z with z | z <;> omega)]
            exact k3
          · rw [ha.2 0 8 (fun z => by rcases z with z | z <;> omega), kO 0 8 (fun z => by rcases z with z | z <;> omega)]
            exact hlf)
  · have h1 : ¬ y.1.2 = 0 := fun q => h1 (nI_eq_r q)
    refine WP.run (pc' := 25) (L' := [.ref 0]) (st' := [.int (J1 13 5), .ref 0]) (I1 := J1) 4 rfl ?_
    refine WP.cg (st' := [.int (nI y.1.2), .ref 0]) rfl (congrArg (fun z : Int32 => (.int z :: [.ref 0] : List Value)) (k5)) rfl ?_
    refine WP.run (pc' := 37) (L' := [.ref 0]) (st' := [.int (J1 13 4), .int (-1000100)]) (I1 := (upN J1 0 8 (nI y.1.2))) 5 rfl ?_
    refine WP.cg (st' := [.int (nI y.1.1), .int (-1000100)]) rfl (congrArg (fun z : Int32 => (.int z :: [.int (-1000100)] : List Value)) (k4)) rfl ?_
    refine WP.run (pc' := 38) (L' := [.ref 0]) (st' := [.int ((-1000100) - (nI y.1.1))]) (I1 := (upN J1 0 8 (nI y.1.2))) 1 rfl ?_
    exact WP.ret rfl rfl (by
          have e : nTower (N, m, F) y lf = (-1000100 - nI y.1.1, (N, m, F), nI y.1.2) := if_neg (by omega)
          rw [e]
          refine ⟨rfl, hS.cg (fun o k q => ?_), ⟨?_, fun i hi => absurd hi (Nat.not_lt_zero _)⟩, upN_s, (ttP1 kO).up (Or.inr (Or.inr (Or.inr ⟨rfl, rfl⟩))), Or.inr ⟨fun o k q1 q2 => ?_, rfl⟩⟩
          · rw [upN_no (by omega)]
            exact kO o k (fun z => by rcases z with z | z <;> omega)
          · rw [upN_no (by decide)]
            exact k3
          · rw [upN_no (by omega)]
            exact kO o k (fun z => by rcases z with z | z <;> omega))
