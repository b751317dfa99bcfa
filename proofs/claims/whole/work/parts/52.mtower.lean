/-! the reference's tower -/
def zwN (I : Pl) : Nat → Pl
  | 0 => I
  | k + 1 => upN (zwN I k) 272 (141 + k) (nI 0)
theorem zwN_v {I : Pl} : ∀ k o i, zwN I k o i = if o = 272 ∧ 141 ≤ i ∧ i < 141 + k then nI 0 else I o i := by
  intro k
  induction k with
  | zero =>
    intro o i
    rw [if_neg (by omega)]
    rfl
  | succ k ih =>
    intro o i
    unfold zwN
    by_cases q1 : o = 272
    · subst q1
      by_cases q2 : i = 141 + k
      · subst q2
        rw [upN_s, if_pos ⟨rfl, by omega, by omega⟩]
      · rw [upN_nk q2, ih]
        by_cases q3 : 141 ≤ i ∧ i < 141 + k
        · rw [if_pos ⟨rfl, q3⟩, if_pos ⟨rfl, q3.1, by omega⟩]
        · rw [if_neg (fun q => q3 q.2), if_neg (fun q => by omega)]
    · rw [upN_no q1, ih, if_neg (fun q => q1 q.1), if_neg (fun q => q1 q.1)]
theorem zw_start {I : Pl} {T : TpS} (hT : TpM I T) (hI : TpI T) : RmB (upN (zwN I 47) 271 11 (nI 0)) T Z0 0 ∧ Only I (upN (zwN I 47) 271 11 (nI 0)) mrP := by
  refine ⟨⟨upN_s, fun k hk => ?_, ⟨?_, fun i hi => ?_⟩, Nat.zero_le _, hI.1, hI.2⟩, fun o k h => ?_⟩
  · rw [upN_no (by decide), zwN_v, if_pos ⟨rfl, by omega, by omega⟩]
    rfl
  · rw [upN_nk (by decide), zwN_v, if_neg (by omega)]
    exact hT.1
  · rw [upN_no (by decide), zwN_v, if_neg (by omega)]
    exact hT.2 i hi
  · have h1 : ¬ (o = 271 ∧ 11 ≤ k ∧ k ≤ 14) := fun z => h (Or.inl z)
    have h2 : ¬ (o = 272 ∧ 141 ≤ k ∧ k < 188) := fun z => h (Or.inr z)
    have e : upN (zwN I 47) 271 11 (nI 0) o k = zwN I 47 o k := by
      by_cases q : o = 271
      · exact upN_nk (by omega)
      · exact upN_no q
    rw [e, zwN_v, if_neg h2]
theorem finP_bad {T : TpS} {y : PS} (h : ¬ y.1.2 = 0) : finP T y = y := if_neg (fun q => h q.1)
theorem finP_end {T : TpS} {y : PS} (h : T.1 ≤ y.1.1) : finP T y = y := if_neg (fun q => by have := q.2; omega)
theorem finP_more {T : TpS} {y : PS} (h : y.1.2 = 0) (h2 : y.1.1 < T.1) : finP T y = ((y.1.1, 1), y.2) := if_pos ⟨h, h2⟩
set_option maxRecDepth 100000 in
theorem lm_tcl {d : Nat} {I : Pl} {T : TpS} {x : PS} (hx : PI T x) (h0 : x.2 3 = 0) : ∀ t, t ≤ 120 → ∀ J, PM J T (itC T x t).1 (itC T x t).2 → Only I J mrP → WP (d + 4) (146, 7, (some .boolean), sc0) 61 [.ref 271, .int (b2i ((itC T x t).1.2 = 0))] [] J (fun v K => v = some (.int (b2i ((finP T (itC T x 120)).1.2 = 0))) ∧ PM K T (finP T (itC T x 120)).1 (finP T (itC T x 120)).2 ∧ Only I K mrP) := by
  refine loopUp (fun t ht ih => ?_)
  intro J hP hO
  obtain ⟨q1, q2, q3, q4, q5, q6⟩ := PI_itC hx t
  by_cases hs : (itC T x t).1.2 = 0
  · refine WP.cg (L' := [.ref 271, .int (nI 1)]) (by rw [b2iT hs]; rfl) rfl rfl ?_
    have hB := hP.1 hs
    have h120 := hB.ln
    have hlp := hB.lp
    refine WP.run (pc' := 69) (L' := [.ref 271, .int (nI 1)]) (st' := [.int (J 271 11)]) (I1 := J) 4 rfl ?_
    refine WP.cg (st' := [.int (nI ((itC T x t).1.1))]) rfl (congrArg (fun z : Int32 => (.int z :: [] : List Value)) ((RmB.a hB))) rfl ?_
    refine WP.run (pc' := 73) (L' := [.ref 271, .int (nI 1)]) (st' := [.int (J 271 9), .int (nI ((itC T x t).1.1))]) (I1 := J) 2 rfl ?_
    refine WP.cg (st' := [.int (nI T.1), .int (nI ((itC T x t).1.1))]) rfl (congrArg (fun z : Int32 => (.int z :: [.int (nI ((itC T x t).1.1))] : List Value)) ((RmB.n hB))) rfl ?_
    refine WP.run (pc' := if (nI T.1) ≤ (nI ((itC T x t).1.1)) then 84 else 76) (L' := [.ref 271, .int (nI 1)]) (st' := []) (I1 := J) 1 rfl ?_
    refine WP.br (fun h1 => ?_) (fun h1 => ?_)
    · have h1 : T.1 ≤ (itC T x t).1.1 := nI_le_ (by omega) (by omega) h1
      refine WP.run (pc' := 85) (L' := [.ref 271, .int (nI 1)]) (st' := [.int (nI 1)]) (I1 := J) 1 rfl ?_
      exact WP.ret rfl rfl (by
              have hE := itC_end (T := T) (x := x) ht (fun q => by have e1 := q.2.1; omega)
              rw [hE, finP_end (by omega)]
              exact ⟨congrArg (fun z : Int32 => some (Value.int z)) (b2iT hs).symm, hP, hO⟩)
    · have h1 : ¬ T.1 ≤ (itC T x t).1.1 := fun q => h1 (nI_le_r (by omega) q)
      refine WP.run (pc' := 77) (L' := [.ref 271, .int (nI 1)]) (st' := [.ref 271]) (I1 := J) 1 rfl ?_
      refine WP.callX (rest := []) rfl rfl (ms_tcl (d := d) (s := (itC T x t).1) hB hs (by omega) (by omega)) (fun v J1 hv => ?_)
      obtain ⟨rfl, hP1, hO1⟩ := hv
      by_cases h99 : T.2 (itC T x t).1.1 = 99
      · have hcc : cC T (itC T x t) := ⟨hs, by omega, h99⟩
        have ht2 : t < 120 := by
          rcases Nat.lt_or_ge t 120 with q | q
          · exact q
          · exfalso
            obtain rfl : t = 120 := by omega
            exact itC_120 h0 hcc
        rw [if_pos h99, show pCl T (itC T x t).2 (itC T x t).1.1 = itC T x (t + 1) from (by rw [itC_e, if_pos hcc])] at hP1
        rw [if_pos h99, show pCl T (itC T x t).2 (itC T x t).1.1 = itC T x (t + 1) from (by rw [itC_e, if_pos hcc])]
        refine WP.run (pc' := 61) (L' := [.ref 271, .int (b2i ((itC T x (t + 1)).1.2 = 0))]) (st' := []) (I1 := J1) 2 rfl ?_
        exact ih ht2 J1 hP1 (hO.tr hO1)
      · have hcc : ¬ cC T (itC T x t) := fun q => h99 q.2.2
        have hE := itC_end (T := T) (x := x) ht hcc
        rw [hE, finP_more hs (by omega)]
        rw [if_neg h99] at hP1
        rw [if_neg h99]
        refine WP.run (pc' := 84) (L' := [.ref 271, .int (nI 0)]) (st' := []) (I1 := J1) 4 ?_ ?_
        · rw [b2iF (by dsimp only; decide)]
          rfl
        · refine WP.run (pc' := 85) (L' := [.ref 271, .int (nI 0)]) (st' := [.int (nI 0)]) (I1 := J1) 1 rfl ?_
          exact WP.ret rfl rfl ⟨congrArg (fun z : Int32 => some (Value.int z)) (b2iF (by dsimp only; decide)).symm, hP1, hO.tr hO1⟩
  · refine WP.cg (L' := [.ref 271, .int (nI 0)]) (by rw [b2iF hs]; rfl) rfl rfl ?_
    refine WP.run (pc' := 85) (L' := [.ref 271, .int (nI 0)]) (st' := [.int (nI 0)]) (I1 := J) 3 rfl ?_
    exact WP.ret rfl rfl (by
          have hE := itC_end (T := T) (x := x) ht (fun q => hs q.1)
          rw [hE, finP_bad hs]
          exact ⟨congrArg (fun z : Int32 => some (Value.int z)) (b2iF hs).symm, hP, hO⟩)
set_option maxRecDepth 100000 in
theorem lm_tstr {d : Nat} {I : Pl} {T : TpS} {x : PS} (hx : PI T x) (h0 : x.2 3 = 0) (h2 : x.2 2 = 0) : ∀ t, t ≤ 120 → ∀ J, PM J T (itS T x t).1 (itS T x t).2 → Only I J mrP → WP (d + 4) (146, 7, (some .boolean), sc0) 35 [.ref 271, .int (b2i ((itS T x t).1.2 = 0))] [] J (fun v K => v = some (.int (b2i ((finP T (itC T (itS T x 120) 120)).1.2 = 0))) ∧ PM K T (finP T (itC T (itS T x 120) 120)).1 (finP T (itC T (itS T x 120) 120)).2 ∧ Only I K mrP) := by
  refine loopUp (fun t ht ih => ?_)
  intro J hP hO
  obtain ⟨q1, q2, q3, q4, q5, q6⟩ := PI_itS hx t
  have hsp := srP_le (T := T) (p := (itS T x t).1.1)
  by_cases hs : (itS T x t).1.2 = 0
  · refine WP.cg (L' := [.ref 271, .int (nI 1)]) (by rw [b2iT hs]; rfl) rfl rfl ?_
    have hB := hP.1 hs
    have h120 := hB.ln
    have hlp := hB.lp
    refine WP.run (pc' := 44) (L' := [.ref 271, .int (nI 1)]) (st' := [.int (J 271 11), .ref 271]) (I1 := J) 5 rfl ?_
    refine WP.cg (st' := [.int (nI ((itS T x t).1.1)), .ref 271]) rfl (congrArg (fun z : Int32 => (.int z :: [.ref 271] : List Value)) ((RmB.a hB))) rfl ?_
    refine WP.callV (rest := []) rfl rfl (ms_byteAt (d := d + 3) (q := (itS T x t).1.1) hB (by omega)) ?_
    refine WP.callV (rest := []) rfl rfl (ms_sortOf (d := d + 3) (T := T) (p := ((itS T x t).1.1)) (fun i hi => RmB.lb hB hi)) ?_
    refine WP.run (pc' := if (nI (srP T ((itS T x t).1.1))) ≤ 0 then 61 else 53) (L' := [.ref 271, .int (nI 1)]) (st' := []) (I1 := J) 1 rfl ?_
    refine WP.br (fun h1 => ?_) (fun h1 => ?_)
    · have h1 : srP T ((itS T x t).1.1) ≤ 0 := nI_le_ (by omega) (by omega) h1
      have hE := itS_end (T := T) (x := x) ht (fun q => absurd q.2 (by omega))
      obtain ⟨x2, hx2⟩ : ∃ x2, itS T x 120 = x2 := ⟨_, rfl⟩
      have hPI2 := PI_itS hx 120
      have h32 := itS_3 (T := T) h0 120
      rw [hx2] at hE hPI2 h32 ⊢
      rw [← hE] at hP hs
      refine WP.cg (L' := [.ref 271, .int (b2i ((itC T x2 0).1.2 = 0))]) (by rw [show itC T x2 0 = x2 from rfl, b2iT hs]; rfl) rfl rfl ?_
      exact lm_tcl hPI2 h32 0 (Nat.zero_le _) J hP hO
    · have h1 : ¬ srP T ((itS T x t).1.1) ≤ 0 := fun q => h1 (nI_le_r (by first | omega | decide) q)
      have hp : (itS T x t).1.1 < T.1 := by
        rcases Nat.lt_or_ge (itS T x t).1.1 T.1 with w | w
        · exact w
        · exact absurd (show srP T (itS T x t).1.1 = 0 from if_neg (by omega)) (by omega)
      refine WP.run (pc' := 54) (L' := [.ref 271, .int (nI 1)]) (st' := [.ref 271]) (I1 := J) 1 rfl ?_
      refine WP.callX (rest := []) rfl rfl (ms_tstr (d := d) (s := (itS T x t).1) hB hs (by omega) hp) (fun v J1 hv => ?_)
      obtain ⟨rfl, hP1, hO1⟩ := hv
      have hcc : cS T (itS T x t) := ⟨hs, by omega⟩
      have ht2 : t < 120 := by
        rcases Nat.lt_or_ge t 120 with q | q
        · exact q
        · exfalso
          obtain rfl : t = 120 := by omega
          exact itS_120 h2 hcc
      rw [show pStr T (itS T x t).2 (itS T x t).1.1 = itS T x (t + 1) from (by rw [itS_e, if_pos hcc])] at hP1
      rw [show pStr T (itS T x t).2 (itS T x t).1.1 = itS T x (t + 1) from (by rw [itS_e, if_pos hcc])]
      refine WP.run (pc' := 35) (L' := [.ref 271, .int (b2i ((itS T x (t + 1)).1.2 = 0))]) (st' := []) (I1 := J1) 2 rfl ?_
      exact ih ht2 J1 hP1 (hO.tr hO1)
  · refine WP.cg (L' := [.ref 271, .int (nI 0)]) (by rw [b2iF hs]; rfl) rfl rfl ?_
    refine WP.run (pc' := 61) (L' := [.ref 271, .int (nI 0)]) (st' := []) (I1 := J) 2 rfl ?_
    have hE := itS_end (T := T) (x := x) ht (fun q => hs q.1)
    obtain ⟨x2, hx2⟩ : ∃ x2, itS T x 120 = x2 := ⟨_, rfl⟩
    have hPI2 := PI_itS hx 120
    have h32 := itS_3 (T := T) h0 120
    rw [hx2] at hE hPI2 h32 ⊢
    rw [← hE] at hP hs
    refine WP.cg (L' := [.ref 271, .int (b2i ((itC T x2 0).1.2 = 0))]) (by rw [show itC T x2 0 = x2 from rfl, b2iF hs]; rfl) rfl rfl ?_
    exact lm_tcl hPI2 h32 0 (Nat.zero_le _) J hP hO
theorem pLaw_2 {T : TpS} {s : Nat × Nat} : (pLaw T Z0 s).2 2 = 0 := by
  unfold pLaw
  dsimp only
  rw [setN_o (by decide), setN_o (by decide)]
  rfl
set_option maxRecDepth 100000 in
theorem lm_isT {d : Nat} {I : Pl} {T : TpS} (hT : TpM I T) (hI : TpI T) : ∀ k, k ≤ 47 → WP (d + 4) (146, 7, (some .boolean), sc0) 2 [.ref 271, .int (nI k)] [] (zwN I k) (fun v K => v = some (.int (b2i ((finP T (itC T (itS T (pLaw T Z0 (0, 0)) 120) 120)).1.2 = 0))) ∧ PM K T (finP T (itC T (itS T (pLaw T Z0 (0, 0)) 120) 120)).1 (finP T (itC T (itS T (pLaw T Z0 (0, 0)) 120) 120)).2 ∧ Only I K mrP) := by
  refine loopUp (fun k hk ih => ?_)
  refine WP.run (pc' := if (nI 47) ≤ (nI k) then 25 else 8) (L' := [.ref 271, .int (nI k)]) (st' := []) (I1 := (zwN I k)) 3 rfl ?_
  refine WP.br (fun h1 => ?_) (fun h1 => ?_)
  · have h1 : 47 ≤ k := nI_le_ (by omega) (by omega) h1
    obtain rfl : k = 47 := by omega
    obtain ⟨hB0, hO0⟩ := zw_start hT hI
    refine WP.run (pc' := 31) (L' := [.ref 271, .int (nI 47)]) (st' := [.ref 271]) (I1 := (upN (zwN I 47) 271 11 (nI 0))) 4 rfl ?_
    refine WP.callX (rest := []) rfl rfl (ms_tlaw (d := d) (s := (0, 0)) (M := Z0) hB0 rfl) (fun v J1 hv => ?_)
    obtain ⟨rfl, hP1, hO1⟩ := hv
    refine WP.run (pc' := 35) (L' := [.ref 271, .int (b2i ((pLaw T Z0 (0, 0)).1.2 = 0))]) (st' := []) (I1 := J1) 1 rfl ?_
    exact lm_tstr (x := (pLaw T Z0 (0, 0))) PI_law pLaw_3 pLaw_2 0 (Nat.zero_le _) J1 hP1 (hO0.tr hO1)
  · have h1 : ¬ 47 ≤ k := fun q => h1 (nI_le_r (by omega) q)
    refine WP.run (pc' := 17) (L' := [.ref 271, .int (nI k)]) (st' := [.int ((nI 141) + (nI k)), .ref 272]) (I1 := (zwN I k)) 5 rfl ?_
    refine WP.cg (st' := [.int (nI (141 + k)), .ref 272]) rfl (congrArg (fun z : Int32 => (.int z :: [.ref 272] : List Value)) (nI_add 141 k)) rfl ?_
    refine WP.run (pc' := 18) (L' := [.ref 271, .int (nI k)]) (st' := [.int (nI 0), .int (nI (141 + k)), .ref 272]) (I1 := (zwN I k)) 1 rfl ?_
    refine WP.iast rfl rfl rfl (by omega) (by decide) ?_
    refine WP.run (pc' := 22) (L' := [.ref 271, .int ((nI k) + nI 1)]) (st' := []) (I1 := (upN (zwN I k) 272 (141 + k) (nI 0))) 1 rfl ?_
    refine WP.cg (L' := [.ref 271, .int (nI (k + 1))]) (congrArg (fun z : Int32 => ([.ref 271, .int z] : List Value)) (nI_add k 1)) rfl rfl ?_
    refine WP.run (pc' := 2) (L' := [.ref 271, .int (nI (k + 1))]) (st' := []) (I1 := (upN (zwN I k) 272 (141 + k) (nI 0))) 1 rfl ?_
    refine WP.cg (L' := [.ref 271, .int (nI (k + 1))]) rfl rfl rfl (ih (by omega))
set_option maxRecDepth 100000 in
theorem ms_isTower {d : Nat} {I : Pl} {T : TpS} {y : PS} (hT : TpM I T) (hI : TpI T) (hy : pTow T = y) : EvX (d + 5) 146 [.ref 271] I (fun v K => v = some (.int (b2i (y.1.2 = 0))) ∧ PM K T y.1 y.2 ∧ Only I K mrP) := by
  refine EvX.enter rfl rfl rfl ?_
  refine WP.run (pc' := 2) (L' := [.ref 271, .int (nI 0)]) (st' := []) (I1 := I) 2 rfl ?_
  rw [← hy, pTow_fin]
  exact lm_isT hT hI 0 (Nat.zero_le _)
def mtP (o k : Nat) : Prop := mrP o k ∨ tsmP o k ∨ (o = 271 ∧ (k = 9 ∨ k = 10))
theorem mt_good {J : Pl} {T : TpS} {y : PS} {F : Nat → Nat → Nat} (h : Tm J 141 y.2) : TSM (upN (upN (inM J 141 47) 272 8 (nI 1)) 271 1 (nI 0)) (setN y.2 8 1, 0, F) ∧ Only J (upN (upN (inM J 141 47) 272 8 (nI 1)) 271 1 (nI 0)) mtP := by
  refine ⟨⟨?_, upN_s, fun j hj => absurd hj (Nat.not_lt_zero _)⟩, fun o k q => ?_⟩
  · have h0 : T0 (inM J 141 47) y.2 := fun k hk => by
      rw [inM_v (by decide) 47 k (Nat.le_refl _), if_pos hk]
      exact h k hk
    exact (T0.up h0).out (Or.inl (by decide))
  · have h1 : ¬ (o = 271 ∧ k = 1) := fun z => q (Or.inr (Or.inl (Or.inl z)))
    have h2 : ¬ (o = 272 ∧ (k < 47 ∨ 188 ≤ k)) := fun z => q (Or.inr (Or.inl (Or.inr z)))
    by_cases q2 : o = 272
    · subst q2
      rw [upN_no (by decide), upN_nk (by omega), inM_v (by decide) 47 k (Nat.le_refl _), if_neg (by omega)]
    · by_cases q3 : o = 271
      · rw [upN_nk (fun z => h1 ⟨q3, z⟩), upN_no q2, inM_o _ _ _ q2]
      · rw [upN_no q3, upN_no q2, inM_o _ _ _ q2]
set_option maxRecDepth 100000 in
theorem lm_tow {d : Nat} {J : Pl} {y : PS} (h : Tm J 141 y.2) : ∀ k, k ≤ 47 → WP (d + 5) (147, 7, (some .int), sc0) 32 [.ref 271, .int (nI 1), .int (nI k)] [] (inM J 141 k) (fun v K => v = some (.int (nI (y.2 3))) ∧ K = upN (upN (inM J 141 47) 272 8 (nI 1)) 271 1 (nI 0)) := by
  refine loopUp (fun k hk ih => ?_)
  refine WP.run (pc' := if (nI 47) ≤ (nI k) then 60 else 38) (L' := [.ref 271, .int (nI 1), .int (nI k)]) (st' := []) (I1 := (inM J 141 k)) 3 rfl ?_
  refine WP.br (fun h1 => ?_) (fun h1 => ?_)
  · have h1 : 47 ≤ k := nI_le_ (by omega) (by omega) h1
    obtain rfl : k = 47 := by omega
    refine WP.run (pc' := 67) (L' := [.ref 271, .int (nI 1), .int (nI 47)]) (st' := [.int (nI 1), .int (nI 8), .ref 272]) (I1 := (inM J 141 47)) 4 rfl ?_
    refine WP.iast rfl rfl rfl (by omega) (by decide) ?_
    refine WP.run (pc' := 78) (L' := [.ref 271, .int (nI 1), .int (nI 47)]) (st' := [.int (nI 3), .ref 272]) (I1 := (upN (upN (inM J 141 47) 272 8 (nI 1)) 271 1 (nI 0))) 6 rfl ?_
    refine WP.iald rfl rfl rfl (by omega) (by decide) ?_
    refine WP.cg (st' := [.int (nI (y.2 3))]) rfl (congrArg (fun z : Int32 => (.int z :: [] : List Value)) ((upN_no (by decide)).trans ((upN_nk (by decide)).trans ((inM_v (by decide) 47 3 (Nat.le_refl _)).trans ((if_pos (by decide)).trans (h 3 (by decide))))))) rfl ?_
    exact WP.ret rfl rfl (⟨rfl, rfl⟩)
  · have h1 : ¬ 47 ≤ k := fun q => h1 (nI_le_r (by omega) q)
    refine WP.run (pc' := 52) (L' := [.ref 271, .int (nI 1), .int (nI k)]) (st' := [.int ((nI 141) + (nI k)), .ref 272, .int (nI k), .ref 272]) (I1 := (inM J 141 k)) 8 rfl ?_
    refine WP.cg (st' := [.int (nI (141 + k)), .ref 272, .int (nI k), .ref 272]) rfl (congrArg (fun z : Int32 => (.int z :: [.ref 272, .int (nI k), .ref 272] : List Value)) (nI_add 141 k)) rfl ?_
    refine WP.iald rfl rfl rfl (by omega) (by decide) ?_
    refine WP.iast rfl rfl rfl (by omega) (by decide) ?_
    refine WP.run (pc' := 57) (L' := [.ref 271, .int (nI 1), .int ((nI k) + nI 1)]) (st' := []) (I1 := (upN (inM J 141 k) 272 k ((inM J 141 k) 272 (141 + k)))) 1 rfl ?_
    refine WP.cg (L' := [.ref 271, .int (nI 1), .int (nI (k + 1))]) (congrArg (fun z : Int32 => ([.ref 271, .int (nI 1), .int z] : List Value)) (nI_add k 1)) rfl rfl ?_
    refine WP.run (pc' := 32) (L' := [.ref 271, .int (nI 1), .int (nI (k + 1))]) (st' := []) (I1 := (upN (inM J 141 k) 272 k ((inM J 141 k) 272 (141 + k)))) 1 rfl ?_
    refine WP.cg (L' := [.ref 271, .int (nI 1), .int (nI (k + 1))]) rfl rfl rfl (ih (by omega))
set_option maxRecDepth 100000 in
theorem ms_tower {d : Nat} {I : Pl} {N : Nat → Nat} {m : Nat} {F : Nat → Nat → Nat} {T : TpS} {y : PS} {lf : Int32} (hS : TSM I (N, m, F)) (hI : TSI (N, m, F)) (hT : TpM I T) (hTI : TpI T) (hlf : I 271 10 = lf) (hy : pTow T = y) (hPI : PI T y) : EvX (d + 6) 147 [.ref 271] I (fun v K => v = some (.int (nTower (N, m, F) y lf).1) ∧ TSM K (nTower (N, m, F) y lf).2.1 ∧ TpM K (0, T.2) ∧ K 271 10 = (nTower (N, m, F) y lf).2.2 ∧ Only I K mtP) := by
  obtain ⟨p1, p2, p3, p4, p5, p6⟩ := id hPI
  have h120 : T.1 ≤ 120 := hTI.1
  refine EvX.enter rfl rfl rfl ?_
  refine WP.run (pc' := 1) (L' := [.ref 271, UU, UU]) (st' := [.ref 271]) (I1 := I) 1 rfl ?_
  refine WP.callX (rest := []) rfl rfl (ms_isTower (d := d) hT hTI hy) (fun v J1 hv => ?_)
  obtain ⟨rfl, hP1, hO1⟩ := hv
  by_cases hs : y.1.2 = 0
  · refine WP.cg (st' := [.int (nI 1)]) rfl (by rw [b2iT hs]; rfl) rfl ?_
    refine WP.run (pc' := 32) (L' := [.ref 271, .int (nI 1), .int (nI 0)]) (st' := []) (I1 := (upN J1 271 9 (nI 0))) 8 rfl ?_
    have e : nTower (N, m, F) y lf = (nI (y.2 3), (setN y.2 8 1, 0, F), lf) := if_pos hs
    rw [e]
    have hTm : Tm (upN J1 271 9 (nI 0)) 141 y.2 := fun k hk => by
      rw [upN_no (by decide)]
      exact (hP1.1 hs).m k hk
    have hg := mt_good (T := T) (y := y) (F := F) hTm
    obtain ⟨r, K, g1, rfl, rfl⟩ := lm_tow (d := d) hTm 0 (Nat.zero_le _)
    refine ⟨_, _, g1, rfl, hg.1, ⟨?_, fun i hi => absurd hi (Nat.not_lt_zero _)⟩, ?_, ((Only.wk (P2 := mtP) hO1 (fun o k z => Or.inl z)).up (Or.inr (Or.inr ⟨rfl, Or.inl rfl⟩))).tr hg.2⟩
    · rw [upN_nk (by decide), upN_no (by decide), inM_o _ _ _ (by decide), upN_s]
    · rw [upN_nk (by decide), upN_no (by decide), inM_o _ _ _ (by decide), upN_nk (by decide), hO1 271 10 (fun z => by rcases z with z | z <;> omega)]
      exact hlf
  · refine WP.cg (st' := [.int (nI 0)]) rfl (by rw [b2iF hs]; rfl) rfl ?_
    refine WP.run (pc' := 19) (L' := [.ref 271, .int (nI 0), UU]) (st' := [.int (J1 271 13), .ref 271]) (I1 := (upN J1 271 9 (nI 0))) 9 rfl ?_
    refine WP.cg (st' := [.int (nI y.1.2), .ref 271]) rfl (congrArg (fun z : Int32 => (.int z :: [.ref 271] : List Value)) ((hP1.2 hs).2)) rfl ?_
    refine WP.run (pc' := 28) (L' := [.ref 271, .int (nI 0), UU]) (st' := [.int (J1 271 12), .int (-1000100)]) (I1 := (upN (upN J1 271 9 (nI 0)) 271 10 (nI y.1.2))) 4 rfl ?_
    refine WP.cg (st' := [.int (nI y.1.1), .int (-1000100)]) rfl (congrArg (fun z : Int32 => (.int z :: [.int (-1000100)] : List Value)) ((hP1.2 hs).1)) rfl ?_
    refine WP.run (pc' := 29) (L' := [.ref 271, .int (nI 0), UU]) (st' := [.int ((-1000100) - (nI y.1.1))]) (I1 := (upN (upN J1 271 9 (nI 0)) 271 10 (nI y.1.2))) 1 rfl ?_
    exact WP.ret rfl rfl (by
          have e : nTower (N, m, F) y lf = (-1000100 - nI y.1.1, (N, m, F), nI y.1.2) := if_neg hs
          rw [e]
          refine ⟨rfl, hS.cg hI.2.1 (fun o k q => ?_), ⟨?_, fun i hi => absurd hi (Nat.not_lt_zero _)⟩, upN_s, ((Only.wk (P2 := mtP) hO1 (fun o k z => Or.inl z)).up (Or.inr (Or.inr ⟨rfl, Or.inl rfl⟩))).up (Or.inr (Or.inr ⟨rfl, Or.inr rfl⟩))⟩
          · rw [show upN (upN J1 271 9 (nI 0)) 271 10 (nI y.1.2) o k = J1 o k from (by rcases q with q | q <;> first | rw [upN_nk (by omega), upN_nk (by omega)] | rw [upN_no (by omega), upN_no (by omega)])]
            exact hO1 o k (fun z => by rcases q with q | q <;> rcases z with z | z <;> omega)
          · rw [upN_nk (by decide), upN_s])
