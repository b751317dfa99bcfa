/-! the reference's plans -/
theorem lwV_t {l : Nat} (h : l < 1000000) : lwV l = nI l := if_neg (by omega)
theorem lwV_f {l : Nat} (h : ¬ l < 1000000) (h2 : l ≤ 1000000) : lwV l = -1000000 := if_pos (by omega)
theorem nI_nn {a : Nat} (h : a < 2 ^ 31) : ¬ nI a = -1000000 := fun q => by
  have q2 := congrArg Int32.toInt q
  rw [nI_int h] at q2
  have e : (-1000000 : Int32).toInt = -1000000 := by decide
  omega
set_option maxRecDepth 100000 in
theorem ms_plan {d : Nat} {I : Pl} {N : Nat → Nat} {x k : Int32} (hM : T0 I N) (hN : TI N) : EvX (d + 7) 178 [.ref 271, .int x, .int k] I (fun v K => v = some (.int (aPlan N x k)) ∧ T0 K N ∧ Only I K mpP) := by
  obtain ⟨b0, b1, b2, b3, b4, b5, b6, b7, b8, bS, bC, bS1, bC1, bZ, bG⟩ := id hN
  obtain ⟨s6, s7, s64⟩ := hN.set64
  refine EvX.enter rfl rfl rfl ?_
  refine WP.run (pc' := 1) (L' := [.ref 271, .int x, .int k, UU]) (st' := [.ref 271]) (I1 := I) 1 rfl ?_
  refine WP.callB (rest := []) rfl rfl (ms_isNone (d := d + 5) hM hN) (fun h1 => ?_) (fun h1 => ?_)
  · refine WP.run (pc' := 9) (L' := [.ref 271, .int x, .int k, UU]) (st' := [.int (-1000002)]) (I1 := I) 2 rfl ?_
    exact WP.ret rfl rfl (by
          have e : aPlan N x k = (-1000002) := by (unfold aPlan; (repeat rw [nOf_nI (by omega)]); (repeat first | rw [if_pos (by first | assumption | omega | (refine inA_iff.mpr ?_; omega) | (intro q; have q2 := inA_iff.mp q; omega) | (intro q; omega) | (refine ⟨?_, ?_⟩ <;> rw [nI_int (by omega)] <;> omega) | (rw [nI_int (by omega)]; omega) | (intro q; rw [nI_int (by omega)] at q; omega) | (refine ⟨?_, ?_, ?_⟩ <;> omega) | (intro q; obtain ⟨q1, q2, q3⟩ := q; omega) | fail)] | rw [if_neg (by first | assumption | omega | (refine inA_iff.mpr ?_; omega) | (intro q; have q2 := inA_iff.mp q; omega) | (intro q; omega) | (refine ⟨?_, ?_⟩ <;> rw [nI_int (by omega)] <;> omega) | (rw [nI_int (by omega)]; omega) | (intro q; rw [nI_int (by omega)] at q; omega) | (refine ⟨?_, ?_, ?_⟩ <;> omega) | (intro q; obtain ⟨q1, q2, q3⟩ := q; omega) | fail)])) <;> rfl
          rw [e]
          exact ⟨rfl, hM, Only.rfl_⟩)
  · refine WP.run (pc' := 16) (L' := [.ref 271, .int x, .int k, UU]) (st' := [.long (3 : Int64), .long (1 : Int64), .long x.toInt64]) (I1 := I) 5 rfl ?_
    refine WP.callB (rest := []) rfl rfl (sp_inR (d := d + 5) (x := x) (lo := (1 : Int64)) (hi := (3 : Int64)) (a := 1) (b := 3) rfl rfl) (fun h2 => ?_) (fun h2 => ?_)
    · refine WP.run (pc' := 22) (L' := [.ref 271, .int x, .int k, UU]) (st' := []) (I1 := I) 1 rfl ?_
      have hx_j : inA x 4 := (by refine inA_iff.mpr ?_; have hp : inR x 1 3 := (by assumption); have h1 := hp.1; have h2 := hp.2; omega)
      obtain ⟨j, hj, rfl⟩ := inA_of hx_j (by omega)
      have hnn : inR (nI j) 1 3 := (by assumption)
      have hn1 := hnn.1
      rw [nI_int (by omega)] at hn1
      refine WP.run (pc' := 31) (L' := [.ref 271, .int (nI j), .int k, UU]) (st' := [.long (((nI j) - (nI 1)).toInt64), .long (-1 : Int64), .long k.toInt64]) (I1 := I) 7 rfl ?_
      refine WP.callB (rest := []) rfl rfl (sp_inR (d := d + 5) (x := k) (lo := (-1 : Int64)) (hi := ((nI j) - (nI 1)).toInt64) (a := -1) (b := (nI j).toInt - 1) rfl ((hi_sub (by omega)).trans (by rw [nI_int (by omega)]))) (fun h3 => ?_) (fun h3 => ?_)
      · refine WP.run (pc' := 40) (L' := [.ref 271, .int (nI j), .int k, UU]) (st' := []) (I1 := I) 1 rfl ?_
        have hk2 : inR k (-1) ((nI j).toInt - 1) := (by assumption)
        have hk3 := hk2.1
        have hk4 := hk2.2
        rw [nI_int (by omega)] at hk4
        refine WP.run (pc' := 42) (L' := [.ref 271, .int (nI j), .int k, UU]) (st' := [.int (nI j), .ref 271]) (I1 := I) 2 rfl ?_
        refine WP.callX (rest := []) rfl rfl (ms_leastWorn (d := d) (dd := j) hM hN (by omega) (by omega)) (fun v J1 hv => ?_)
        obtain ⟨rfl, hM1, hb1, hO1⟩ := hv
        have hpl := planN_le (d := j) hN
        refine WP.run (pc' := 46) (L' := [.ref 271, .int (nI j), .int k, .int (lwV (planN N j).1)]) (st' := []) (I1 := J1) 1 rfl ?_
        by_cases hp : (planN N j).1 < 1000000
        · refine WP.cg (L' := [.ref 271, .int (nI j), .int k, .int (nI ((planN N j).1))]) (by rw [lwV_t hp]) rfl rfl ?_
          refine WP.run (pc' := if (nI ((planN N j).1)) = (-1000000) then 56 else 52) (L' := [.ref 271, .int (nI j), .int k, .int (nI ((planN N j).1))]) (st' := []) (I1 := J1) 3 rfl ?_
          refine WP.brF (nI_nn (by omega)) ?_
          refine WP.run (pc' := if 0 ≤ k then 60 else 56) (L' := [.ref 271, .int (nI j), .int k, .int (nI ((planN N j).1))]) (st' := []) (I1 := J1) 2 rfl ?_
          refine WP.br (fun h4 => ?_) (fun h4 => ?_)
          · have h4 : 0 ≤ k.toInt := (iGeZ).mp h4
            have hx_i : inA k j := (by refine inA_iff.mpr ?_; omega)
            obtain ⟨i, hi, rfl⟩ := inA_of hx_i (by omega)
            refine WP.run (pc' := 65) (L' := [.ref 271, .int (nI j), .int (nI i), .int (nI ((planN N j).1))]) (st' := [.int (nI i), .ref 281]) (I1 := J1) 3 rfl ?_
            refine WP.iald rfl rfl rfl (by omega) (by decide) ?_
            refine WP.cg (st' := [.int (nI ((planN N j).2 i))]) rfl (congrArg (fun z : Int32 => (.int z :: [] : List Value)) (hb1 hp i (by omega))) rfl ?_
            exact WP.ret rfl rfl (by
                          have e : aPlan N (nI j) (nI i) = (nI ((planN N j).2 i)) := by (unfold aPlan; (repeat rw [nOf_nI (by omega)]); (repeat first | rw [if_pos (by first | assumption | omega | (refine inA_iff.mpr ?_; omega) | (intro q; have q2 := inA_iff.mp q; omega) | (intro q; omega) | (refine ⟨?_, ?_⟩ <;> rw [nI_int (by omega)] <;> omega) | (rw [nI_int (by omega)]; omega) | (intro q; rw [nI_int (by omega)] at q; omega) | (refine ⟨?_, ?_, ?_⟩ <;> omega) | (intro q; obtain ⟨q1, q2, q3⟩ := q; omega) | fail)] | rw [if_neg (by first | assumption | omega | (refine inA_iff.mpr ?_; omega) | (intro q; have q2 := inA_iff.mp q; omega) | (intro q; omega) | (refine ⟨?_, ?_⟩ <;> rw [nI_int (by omega)] <;> omega) | (rw [nI_int (by omega)]; omega) | (intro q; rw [nI_int (by omega)] at q; omega) | (refine ⟨?_, ?_, ?_⟩ <;> omega) | (intro q; obtain ⟨q1, q2, q3⟩ := q; omega) | fail)])) <;> rfl
                          rw [e]
                          exact ⟨rfl, hM1, hO1⟩)
          · have h4 : ¬ (0 ≤ k.toInt) := fun q => h4 ((iGeZ).mpr q)
            refine WP.run (pc' := 66) (L' := [.ref 271, .int (nI j), .int k, .int (nI ((planN N j).1))]) (st' := [.int (nI ((planN N j).1))]) (I1 := J1) 2 rfl ?_
            exact WP.ret rfl rfl (by
                          have e : aPlan N (nI j) k = (nI ((planN N j).1)) := by (unfold aPlan; (repeat rw [nOf_nI (by omega)]); (repeat first | rw [if_pos (by first | assumption | omega | (refine inA_iff.mpr ?_; omega) | (intro q; have q2 := inA_iff.mp q; omega) | (intro q; omega) | (refine ⟨?_, ?_⟩ <;> rw [nI_int (by omega)] <;> omega) | (rw [nI_int (by omega)]; omega) | (intro q; rw [nI_int (by omega)] at q; omega) | (refine ⟨?_, ?_, ?_⟩ <;> omega) | (intro q; obtain ⟨q1, q2, q3⟩ := q; omega) | fail)] | rw [if_neg (by first | assumption | omega | (refine inA_iff.mpr ?_; omega) | (intro q; have q2 := inA_iff.mp q; omega) | (intro q; omega) | (refine ⟨?_, ?_⟩ <;> rw [nI_int (by omega)] <;> omega) | (rw [nI_int (by omega)]; omega) | (intro q; rw [nI_int (by omega)] at q; omega) | (refine ⟨?_, ?_, ?_⟩ <;> omega) | (intro q; obtain ⟨q1, q2, q3⟩ := q; omega) | fail)])) <;> rfl
                          rw [e]
                          exact ⟨rfl, hM1, hO1⟩)
        · refine WP.cg (L' := [.ref 271, .int (nI j), .int k, .int (-1000000)]) (by rw [lwV_f hp hpl]) rfl rfl ?_
          refine WP.run (pc' := 66) (L' := [.ref 271, .int (nI j), .int k, .int (-1000000)]) (st' := [.int (-1000000)]) (I1 := J1) 5 rfl ?_
          exact WP.ret rfl rfl (by
                      have e : aPlan N (nI j) k = (-1000000) := by (unfold aPlan; (repeat rw [nOf_nI (by omega)]); (repeat first | rw [if_pos (by first | assumption | omega | (refine inA_iff.mpr ?_; omega) | (intro q; have q2 := inA_iff.mp q; omega) | (intro q; omega) | (refine ⟨?_, ?_⟩ <;> rw [nI_int (by omega)] <;> omega) | (rw [nI_int (by omega)]; omega) | (intro q; rw [nI_int (by omega)] at q; omega) | (refine ⟨?_, ?_, ?_⟩ <;> omega) | (intro q; obtain ⟨q1, q2, q3⟩ := q; omega) | fail)] | rw [if_neg (by first | assumption | omega | (refine inA_iff.mpr ?_; omega) | (intro q; have q2 := inA_iff.mp q; omega) | (intro q; omega) | (refine ⟨?_, ?_⟩ <;> rw [nI_int (by omega)] <;> omega) | (rw [nI_int (by omega)]; omega) | (intro q; rw [nI_int (by omega)] at q; omega) | (refine ⟨?_, ?_, ?_⟩ <;> omega) | (intro q; obtain ⟨q1, q2, q3⟩ := q; omega) | fail)])) <;> rfl
                      rw [e]
                      exact ⟨rfl, hM1, hO1⟩)
      · refine WP.run (pc' := 39) (L' := [.ref 271, .int (nI j), .int k, UU]) (st' := [.int (-1000001)]) (I1 := I) 2 rfl ?_
        exact WP.ret rfl rfl (by
                  have e : aPlan N (nI j) k = (-1000001) := by (unfold aPlan; (repeat rw [nOf_nI (by omega)]); (repeat first | rw [if_pos (by first | assumption | omega | (refine inA_iff.mpr ?_; omega) | (intro q; have q2 := inA_iff.mp q; omega) | (intro q; omega) | (refine ⟨?_, ?_⟩ <;> rw [nI_int (by omega)] <;> omega) | (rw [nI_int (by omega)]; omega) | (intro q; rw [nI_int (by omega)] at q; omega) | (refine ⟨?_, ?_, ?_⟩ <;> omega) | (intro q; obtain ⟨q1, q2, q3⟩ := q; omega) | fail)] | rw [if_neg (by first | assumption | omega | (refine inA_iff.mpr ?_; omega) | (intro q; have q2 := inA_iff.mp q; omega) | (intro q; omega) | (refine ⟨?_, ?_⟩ <;> rw [nI_int (by omega)] <;> omega) | (rw [nI_int (by omega)]; omega) | (intro q; rw [nI_int (by omega)] at q; omega) | (refine ⟨?_, ?_, ?_⟩ <;> omega) | (intro q; obtain ⟨q1, q2, q3⟩ := q; omega) | fail)])) <;> rfl
                  rw [e]
                  exact ⟨rfl, hM, Only.rfl_⟩)
    · refine WP.run (pc' := 39) (L' := [.ref 271, .int x, .int k, UU]) (st' := [.int (-1000001)]) (I1 := I) 2 rfl ?_
      exact WP.ret rfl rfl (by
              have e : aPlan N x k = (-1000001) := by (unfold aPlan; (repeat rw [nOf_nI (by omega)]); (repeat first | rw [if_pos (by first | assumption | omega | (refine inA_iff.mpr ?_; omega) | (intro q; have q2 := inA_iff.mp q; omega) | (intro q; omega) | (refine ⟨?_, ?_⟩ <;> rw [nI_int (by omega)] <;> omega) | (rw [nI_int (by omega)]; omega) | (intro q; rw [nI_int (by omega)] at q; omega) | (refine ⟨?_, ?_, ?_⟩ <;> omega) | (intro q; obtain ⟨q1, q2, q3⟩ := q; omega) | fail)] | rw [if_neg (by first | assumption | omega | (refine inA_iff.mpr ?_; omega) | (intro q; have q2 := inA_iff.mp q; omega) | (intro q; omega) | (refine ⟨?_, ?_⟩ <;> rw [nI_int (by omega)] <;> omega) | (rw [nI_int (by omega)]; omega) | (intro q; rw [nI_int (by omega)] at q; omega) | (refine ⟨?_, ?_, ?_⟩ <;> omega) | (intro q; obtain ⟨q1, q2, q3⟩ := q; omega) | fail)])) <;> rfl
              rw [e]
              exact ⟨rfl, hM, Only.rfl_⟩)
set_option maxRecDepth 100000 in
theorem ms_never {d : Nat} {I : Pl} {N : Nat → Nat} (hM : T0 I N) (hN : TI N) : EvX (d + 7) 179 [.ref 271] I (fun v K => v = some (.int (aNever N)) ∧ T0 K N ∧ Only I K mpP) := by
  obtain ⟨b0, b1, b2, b3, b4, b5, b6, b7, b8, bS, bC, bS1, bC1, bZ, bG⟩ := id hN
  obtain ⟨s6, s7, s64⟩ := hN.set64
  refine EvX.enter rfl rfl rfl ?_
  refine WP.run (pc' := 1) (L' := [.ref 271, UU]) (st' := [.ref 271]) (I1 := I) 1 rfl ?_
  refine WP.callB (rest := []) rfl rfl (ms_isNone (d := d + 5) hM hN) (fun h1 => ?_) (fun h1 => ?_)
  · refine WP.run (pc' := 9) (L' := [.ref 271, UU]) (st' := [.int (-1000002)]) (I1 := I) 2 rfl ?_
    exact WP.ret rfl rfl (by
          have e : aNever N = (-1000002) := by (unfold aNever; (repeat first | rw [if_pos (by first | assumption | omega | (refine inA_iff.mpr ?_; omega) | (intro q; have q2 := inA_iff.mp q; omega) | (intro q; omega) | (refine ⟨?_, ?_⟩ <;> rw [nI_int (by omega)] <;> omega) | (rw [nI_int (by omega)]; omega) | (intro q; rw [nI_int (by omega)] at q; omega) | (refine ⟨?_, ?_, ?_⟩ <;> omega) | (intro q; obtain ⟨q1, q2, q3⟩ := q; omega) | fail)] | rw [if_neg (by first | assumption | omega | (refine inA_iff.mpr ?_; omega) | (intro q; have q2 := inA_iff.mp q; omega) | (intro q; omega) | (refine ⟨?_, ?_⟩ <;> rw [nI_int (by omega)] <;> omega) | (rw [nI_int (by omega)]; omega) | (intro q; rw [nI_int (by omega)] at q; omega) | (refine ⟨?_, ?_, ?_⟩ <;> omega) | (intro q; obtain ⟨q1, q2, q3⟩ := q; omega) | fail)])) <;> rfl
          rw [e]
          exact ⟨rfl, hM, Only.rfl_⟩)
  · refine WP.run (pc' := 19) (L' := [.ref 271, .int (nI 1)]) (st' := [.int (nI 1), .ref 271]) (I1 := I) 8 rfl ?_
    refine WP.callX (rest := []) rfl rfl (ms_leastWorn (d := d) (dd := 1) hM hN (by decide) (by decide)) (fun v J1 hv => ?_)
    obtain ⟨rfl, hM1, hb1, hq1⟩ := hv
    have hpl1 := planN_le (d := 1) hN
    have hO1 : Only I J1 mpP := hq1
    by_cases hp1 : (planN N 1).1 < 1000000
    · refine WP.cg (st' := [.int (nI ((planN N 1).1))]) rfl (by rw [lwV_t hp1]; rfl) rfl ?_
      refine WP.run (pc' := if ¬ (nI ((planN N 1).1)) = (-1000000) then 29 else 27) (L' := [.ref 271, .int (nI 1)]) (st' := []) (I1 := J1) 2 rfl ?_
      refine WP.brT (nI_nn (by omega)) ?_
      refine WP.run (pc' := 32) (L' := [.ref 271, .int ((nI 1) + (nI 1))]) (st' := []) (I1 := J1) 1 rfl ?_
      refine WP.cg (L' := [.ref 271, .int (nI 2)]) (by rfl) rfl rfl ?_
      refine WP.run (pc' := 19) (L' := [.ref 271, .int (nI 2)]) (st' := [.int (nI 2), .ref 271]) (I1 := J1) 6 rfl ?_
      refine WP.callX (rest := []) rfl rfl (ms_leastWorn (d := d) (dd := 2) hM1 hN (by decide) (by decide)) (fun v J2 hv => ?_)
      obtain ⟨rfl, hM2, hb2, hq2⟩ := hv
      have hpl2 := planN_le (d := 2) hN
      have hO2 : Only I J2 mpP := hO1.tr hq2
      by_cases hp2 : (planN N 2).1 < 1000000
      · refine WP.cg (st' := [.int (nI ((planN N 2).1))]) rfl (by rw [lwV_t hp2]; rfl) rfl ?_
        refine WP.run (pc' := if ¬ (nI ((planN N 2).1)) = (-1000000) then 29 else 27) (L' := [.ref 271, .int (nI 2)]) (st' := []) (I1 := J2) 2 rfl ?_
        refine WP.brT (nI_nn (by omega)) ?_
        refine WP.run (pc' := 32) (L' := [.ref 271, .int ((nI 2) + (nI 1))]) (st' := []) (I1 := J2) 1 rfl ?_
        refine WP.cg (L' := [.ref 271, .int (nI 3)]) (by rfl) rfl rfl ?_
        refine WP.run (pc' := 19) (L' := [.ref 271, .int (nI 3)]) (st' := [.int (nI 3), .ref 271]) (I1 := J2) 6 rfl ?_
        refine WP.callX (rest := []) rfl rfl (ms_leastWorn (d := d) (dd := 3) hM2 hN (by decide) (by decide)) (fun v J3 hv => ?_)
        obtain ⟨rfl, hM3, hb3, hq3⟩ := hv
        have hpl3 := planN_le (d := 3) hN
        have hO3 : Only I J3 mpP := hO2.tr hq3
        by_cases hp3 : (planN N 3).1 < 1000000
        · refine WP.cg (st' := [.int (nI ((planN N 3).1))]) rfl (by rw [lwV_t hp3]; rfl) rfl ?_
          refine WP.run (pc' := if ¬ (nI ((planN N 3).1)) = (-1000000) then 29 else 27) (L' := [.ref 271, .int (nI 3)]) (st' := []) (I1 := J3) 2 rfl ?_
          refine WP.brT (nI_nn (by omega)) ?_
          refine WP.run (pc' := 32) (L' := [.ref 271, .int ((nI 3) + (nI 1))]) (st' := []) (I1 := J3) 1 rfl ?_
          refine WP.cg (L' := [.ref 271, .int (nI 4)]) (by rfl) rfl rfl ?_
          refine WP.run (pc' := 37) (L' := [.ref 271, .int (nI 4)]) (st' := [.int (-1000000)]) (I1 := J3) 5 rfl ?_
          exact WP.ret rfl rfl (by
                      have e : aNever N = (-1000000) := by (unfold aNever; (repeat first | rw [if_pos (by first | assumption | omega | (refine inA_iff.mpr ?_; omega) | (intro q; have q2 := inA_iff.mp q; omega) | (intro q; omega) | (refine ⟨?_, ?_⟩ <;> rw [nI_int (by omega)] <;> omega) | (rw [nI_int (by omega)]; omega) | (intro q; rw [nI_int (by omega)] at q; omega) | (refine ⟨?_, ?_, ?_⟩ <;> omega) | (intro q; obtain ⟨q1, q2, q3⟩ := q; omega) | fail)] | rw [if_neg (by first | assumption | omega | (refine inA_iff.mpr ?_; omega) | (intro q; have q2 := inA_iff.mp q; omega) | (intro q; omega) | (refine ⟨?_, ?_⟩ <;> rw [nI_int (by omega)] <;> omega) | (rw [nI_int (by omega)]; omega) | (intro q; rw [nI_int (by omega)] at q; omega) | (refine ⟨?_, ?_, ?_⟩ <;> omega) | (intro q; obtain ⟨q1, q2, q3⟩ := q; omega) | fail)])) <;> rfl
                      rw [e]
                      exact ⟨rfl, hM3, hO3⟩)
        · refine WP.cg (st' := [.int (-1000000)]) rfl (by rw [lwV_f hp3 hpl3]; rfl) rfl ?_
          refine WP.run (pc' := 28) (L' := [.ref 271, .int (nI 3)]) (st' := [.int (nI 3)]) (I1 := J3) 3 rfl ?_
          exact WP.ret rfl rfl (by
                      have e : aNever N = (nI 3) := by (unfold aNever; (repeat first | rw [if_pos (by first | assumption | omega | (refine inA_iff.mpr ?_; omega) | (intro q; have q2 := inA_iff.mp q; omega) | (intro q; omega) | (refine ⟨?_, ?_⟩ <;> rw [nI_int (by omega)] <;> omega) | (rw [nI_int (by omega)]; omega) | (intro q; rw [nI_int (by omega)] at q; omega) | (refine ⟨?_, ?_, ?_⟩ <;> omega) | (intro q; obtain ⟨q1, q2, q3⟩ := q; omega) | fail)] | rw [if_neg (by first | assumption | omega | (refine inA_iff.mpr ?_; omega) | (intro q; have q2 := inA_iff.mp q; omega) | (intro q; omega) | (refine ⟨?_, ?_⟩ <;> rw [nI_int (by omega)] <;> omega) | (rw [nI_int (by omega)]; omega) | (intro q; rw [nI_int (by omega)] at q; omega) | (refine ⟨?_, ?_, ?_⟩ <;> omega) | (intro q; obtain ⟨q1, q2, q3⟩ := q; omega) | fail)])) <;> rfl
                      rw [e]
                      exact ⟨rfl, hM3, hO3⟩)
      · refine WP.cg (st' := [.int (-1000000)]) rfl (by rw [lwV_f hp2 hpl2]; rfl) rfl ?_
        refine WP.run (pc' := 28) (L' := [.ref 271, .int (nI 2)]) (st' := [.int (nI 2)]) (I1 := J2) 3 rfl ?_
        exact WP.ret rfl rfl (by
                  have e : aNever N = (nI 2) := by (unfold aNever; (repeat first | rw [if_pos (by first | assumption | omega | (refine inA_iff.mpr ?_; omega) | (intro q; have q2 := inA_iff.mp q; omega) | (intro q; omega) | (refine ⟨?_, ?_⟩ <;> rw [nI_int (by omega)] <;> omega) | (rw [nI_int (by omega)]; omega) | (intro q; rw [nI_int (by omega)] at q; omega) | (refine ⟨?_, ?_, ?_⟩ <;> omega) | (intro q; obtain ⟨q1, q2, q3⟩ := q; omega) | fail)] | rw [if_neg (by first | assumption | omega | (refine inA_iff.mpr ?_; omega) | (intro q; have q2 := inA_iff.mp q; omega) | (intro q; omega) | (refine ⟨?_, ?_⟩ <;> rw [nI_int (by omega)] <;> omega) | (rw [nI_int (by omega)]; omega) | (intro q; rw [nI_int (by omega)] at q; omega) | (refine ⟨?_, ?_, ?_⟩ <;> omega) | (intro q; obtain ⟨q1, q2, q3⟩ := q; omega) | fail)])) <;> rfl
                  rw [e]
                  exact ⟨rfl, hM2, hO2⟩)
    · refine WP.cg (st' := [.int (-1000000)]) rfl (by rw [lwV_f hp1 hpl1]; rfl) rfl ?_
      refine WP.run (pc' := 28) (L' := [.ref 271, .int (nI 1)]) (st' := [.int (nI 1)]) (I1 := J1) 3 rfl ?_
      exact WP.ret rfl rfl (by
              have e : aNever N = (nI 1) := by (unfold aNever; (repeat first | rw [if_pos (by first | assumption | omega | (refine inA_iff.mpr ?_; omega) | (intro q; have q2 := inA_iff.mp q; omega) | (intro q; omega) | (refine ⟨?_, ?_⟩ <;> rw [nI_int (by omega)] <;> omega) | (rw [nI_int (by omega)]; omega) | (intro q; rw [nI_int (by omega)] at q; omega) | (refine ⟨?_, ?_, ?_⟩ <;> omega) | (intro q; obtain ⟨q1, q2, q3⟩ := q; omega) | fail)] | rw [if_neg (by first | assumption | omega | (refine inA_iff.mpr ?_; omega) | (intro q; have q2 := inA_iff.mp q; omega) | (intro q; omega) | (refine ⟨?_, ?_⟩ <;> rw [nI_int (by omega)] <;> omega) | (rw [nI_int (by omega)]; omega) | (intro q; rw [nI_int (by omega)] at q; omega) | (refine ⟨?_, ?_, ?_⟩ <;> omega) | (intro q; obtain ⟨q1, q2, q3⟩ := q; omega) | fail)])) <;> rfl
              rw [e]
              exact ⟨rfl, hM1, hO1⟩)
