/-! rows, asked by the class -/
theorem RowsC.miss {I : Pl} {R : RS} {r : Nat} (h : RowsC I R) (hr : r < 8) : I 12 r = -1 ↔ R.1 r = 3 := by
  obtain ⟨h1, h2, h3⟩ := h.2 r hr
  constructor
  · intro q
    rcases Nat.lt_or_ge (R.1 r) 3 with z | z
    · obtain ⟨a, b, c, -⟩ := h3 z
      rw [b, eq_iff_, nI_int (by omega)] at q
      have : ((-1 : Int32)).toInt = -1 := rfl
      omega
    · omega
  · exact h2
theorem RowsC.size {I : Pl} {R : RS} {r : Nat} (h : RowsC I R) (hr : r < 8) (hl : ¬ R.1 r = 3) : I 12 r = nI (R.2.1 r) ∧ R.2.1 r ≤ 40 ∧ I 11 r = nI (R.1 r) ∧ R.1 r < 3 := by
  obtain ⟨h1, h2, h3⟩ := h.2 r hr
  obtain ⟨a, b, c, -⟩ := h3 (by omega)
  exact ⟨b, c, a, by omega⟩
theorem sp_missR {d : Nat} {I : Pl} {R : RS} {r : Nat} (h : RowsC I R) (hr : r < 8) : Ev (d + 1) 57 [.ref 1, .int (nI r)] (mem I) (some (.int (b2i (R.1 r = 3)))) (mem I) := by
  rw [← b2i_cg (h.miss hr)]
  exact sp_isMissing hr
theorem sp_placeR {d : Nat} {I : Pl} {R : RS} {r : Nat} {i n : Int32} (h : RowsC I R) (hr : r < 8) (hl : ¬ R.1 r = 3) : Ev (d + 1) 59 [.ref 1, .int (nI r), .int i, .int n] (mem I) (some (.int (b2i (plP i n (R.2.1 r))))) (mem I) := by
  obtain ⟨a, b, -⟩ := h.size hr hl
  have e : (I 12 r).toInt = (R.2.1 r : Int) := by rw [a, nI_int (by omega)]
  have e2 : b2i (plP i n (R.2.1 r)) = b2i (0 ≤ i.toInt ∧ 0 ≤ n.toInt ∧ i.toInt + n.toInt ≤ (I 12 r).toInt) := b2i_cg (by rw [e])
  rw [e2]
  exact sp_hasPlaces hr (by omega)
theorem sp_laneR {d : Nat} {I : Pl} {R : RS} {a b : Nat} (h : RowsC I R) (ha : a < 8) (hb : b < 8) (hla : ¬ R.1 a = 3) (hlb : ¬ R.1 b = 3) : Ev (d + 1) 58 [.ref 1, .int (nI a), .int (nI b)] (mem I) (some (.int (b2i (R.1 a = R.1 b)))) (mem I) := by
  obtain ⟨-, -, a1, a2⟩ := h.size ha hla
  obtain ⟨-, -, b1, b2⟩ := h.size hb hlb
  have e : b2i (R.1 a = R.1 b) = b2i (I 11 a = I 11 b) := b2i_cg (by
    rw [a1, b1]
    exact ⟨fun q => by rw [q], fun q => nI_eq_ (by omega) (by omega) q⟩)
  rw [e]
  exact sp_oneLane ha hb
theorem zrN_only {I : Pl} {r l n : Nat} (hr : r < 8) : Only I (zrN (upN (upN I 11 r (nI l)) 12 r (nI n)) r 40) rcP := by
  intro o k h
  have h2 : ¬ (3 ≤ o ∧ o ≤ 12) := fun q => h (Or.inr q)
  rw [zrN_v, if_neg (fun q => h2 (by omega)), upN_no (by omega), upN_no (by omega)]
theorem cpy_only {I : Pl} {a b i j n : Nat} (hb : b < 8) : Only I (cpy I (3 + a) (3 + b) i j n) rcP := by
  intro o k h
  have h2 : ¬ (3 ≤ o ∧ o ≤ 12) := fun q => h (Or.inr q)
  rw [cpy_o (by omega)]
set_option maxRecDepth 100000 in
theorem cs_row {d : Nat} {I : Pl} {R : RS} {x l n : Int32} (hR : RowsC I R) : EvX (d + 2) 82 [.ref 0, .int x, .int l, .int n] I (fun v K => v = some (.int (nRow R x l n).1) ∧ RowsC K (nRow R x l n).2 ∧ Only I K rcP) := by
  refine EvX.enter rfl rfl rfl ?_
  refine WP.run (pc' := 5) (L' := [.ref 0, .int x, .int l, .int n]) (st' := [.int x, .ref 1]) (I1 := I) 3 rfl ?_
  refine WP.callB (rest := []) rfl rfl (sp_isRow (d := d) (x := x)) (fun h1 => ?_) (fun h1 => ?_)
  · refine WP.run (pc' := 16) (L' := [.ref 0, .int x, .int l, .int n]) (st' := [.int l, .ref 1]) (I1 := I) 4 rfl ?_
    refine WP.callB (rest := []) rfl rfl (sp_isLane (d := d) (x := l)) (fun h2 => ?_) (fun h2 => ?_)
    · refine WP.run (pc' := if n ≤ (nI 40) then 31 else 28) (L' := [.ref 0, .int x, .int l, .int n]) (st' := []) (I1 := I) 4 rfl ?_
      refine WP.br (fun h3 => ?_) (fun h3 => ?_)
      · have h3 : n.toInt ≤ 40 := (iLeL (n := 40) (by omega)).mp h3
        have hx_j : inA x 8 := (by assumption)
        obtain ⟨j, hj, rfl⟩ := inA_of hx_j (by omega)
        have hx_m : inA l 3 := (by assumption)
        obtain ⟨m, hm, rfl⟩ := inA_of hx_m (by omega)
        refine WP.run (pc' := if 0 ≤ n then 41 else 35) (L' := [.ref 0, .int (nI j), .int (nI m), .int n]) (st' := []) (I1 := I) 2 rfl ?_
        refine WP.br (fun h4 => ?_) (fun h4 => ?_)
        · have h4 : 0 ≤ n.toInt := (iGeZ).mp h4
          have hx_r : inA n 41 := (by refine inA_iff.mpr ?_; omega)
          obtain ⟨r, hr, rfl⟩ := inA_of hx_r (by omega)
          rw [nI_int (by omega)] at *
          refine WP.run (pc' := 48) (L' := [.ref 0, .int (nI j), .int (nI m), .int (nI r)]) (st' := [.int (nI r), .int (nI m), .int (nI j), .ref 1]) (I1 := I) 5 rfl ?_
          refine WP.callV (rest := []) rfl rfl (sp_make (d := d) (r := j) (x := nI m) (y := nI r) (by omega)) ?_
          refine WP.run (pc' := 53) (L' := [.ref 0, .int (nI j), .int (nI m), .int (nI r)]) (st' := [.int (nI r), .ref 0]) (I1 := (zrN (upN (upN I 11 j (nI m)) 12 j (nI r)) j 40)) 2 rfl ?_
          refine WP.callV (rest := []) rfl rfl (sp_fine (d := d) (I := (zrN (upN (upN I 11 j (nI m)) 12 j (nI r)) j 40)) (x := (nI r))) ?_
          exact WP.ret rfl rfl (by
                      have e : nRow R (nI j) (nI m) (nI r) = ((nI r), stR (makeR R j m r) (nI 0)) := by (unfold nRow; (repeat rw [nOf_nI (by omega)]); (repeat first | rw [if_pos (by first | assumption | omega | (refine inA_iff.mpr ?_; omega) | (intro q; have q2 := inA_iff.mp q; omega) | (intro q; omega) | (refine ⟨?_, ?_⟩ <;> rw [nI_int (by omega)] <;> omega) | (rw [nI_int (by omega)]; omega) | (intro q; rw [nI_int (by omega)] at q; omega) | (refine ⟨?_, ?_, ?_⟩ <;> omega) | (intro q; obtain ⟨q1, q2, q3⟩ := q; omega) | fail)] | rw [if_neg (by first | assumption | omega | (refine inA_iff.mpr ?_; omega) | (intro q; have q2 := inA_iff.mp q; omega) | (intro q; omega) | (refine ⟨?_, ?_⟩ <;> rw [nI_int (by omega)] <;> omega) | (rw [nI_int (by omega)]; omega) | (intro q; rw [nI_int (by omega)] at q; omega) | (refine ⟨?_, ?_, ?_⟩ <;> omega) | (intro q; obtain ⟨q1, q2, q3⟩ := q; omega) | fail)])) <;> rfl
                      rw [e]
                      exact ⟨rfl, (RowsC.stat (RowsC.make hR (by omega) (by omega) (by omega))), (Only.up (zrN_only (by omega)) (Or.inl ⟨rfl, rfl⟩))⟩)
        · have h4 : ¬ (0 ≤ n.toInt) := fun q => h4 ((iGeZ).mpr q)
          refine WP.run (pc' := 37) (L' := [.ref 0, .int (nI j), .int (nI m), .int n]) (st' := [.int (nI 4), .ref 0]) (I1 := I) 2 rfl ?_
          refine WP.callV (rest := []) rfl rfl (sp_found (d := d) (I := I) (x := 4)) ?_
          exact WP.ret rfl rfl (by
                      have e : nRow R (nI j) (nI m) n = ((-1000010 - nI 4), stR R (nI 4)) := by (unfold nRow; (repeat rw [nOf_nI (by omega)]); (repeat first | rw [if_pos (by first | assumption | omega | (refine inA_iff.mpr ?_; omega) | (intro q; have q2 := inA_iff.mp q; omega) | (intro q; omega) | (refine ⟨?_, ?_⟩ <;> rw [nI_int (by omega)] <;> omega) | (rw [nI_int (by omega)]; omega) | (intro q; rw [nI_int (by omega)] at q; omega) | (refine ⟨?_, ?_, ?_⟩ <;> omega) | (intro q; obtain ⟨q1, q2, q3⟩ := q; omega) | fail)] | rw [if_neg (by first | assumption | omega | (refine inA_iff.mpr ?_; omega) | (intro q; have q2 := inA_iff.mp q; omega) | (intro q; omega) | (refine ⟨?_, ?_⟩ <;> rw [nI_int (by omega)] <;> omega) | (rw [nI_int (by omega)]; omega) | (intro q; rw [nI_int (by omega)] at q; omega) | (refine ⟨?_, ?_, ?_⟩ <;> omega) | (intro q; obtain ⟨q1, q2, q3⟩ := q; omega) | fail)])) <;> rfl
                      rw [e]
                      exact ⟨rfl, (RowsC.stat hR), (Only.up Only.rfl_ (Or.inl ⟨rfl, rfl⟩))⟩)
      · have h3 : ¬ (n.toInt ≤ 40) := fun q => h3 ((iLeL (n := 40) (by omega)).mpr q)
        refine WP.run (pc' := 30) (L' := [.ref 0, .int x, .int l, .int n]) (st' := [.int (-1000001)]) (I1 := I) 1 rfl ?_
        exact WP.ret rfl rfl (by
                  have e : nRow R x l n = ((-1000001), R) := by (unfold nRow; (repeat rw [nOf_nI (by omega)]); (repeat first | rw [if_pos (by first | assumption | omega | (refine inA_iff.mpr ?_; omega) | (intro q; have q2 := inA_iff.mp q; omega) | (intro q; omega) | (refine ⟨?_, ?_⟩ <;> rw [nI_int (by omega)] <;> omega) | (rw [nI_int (by omega)]; omega) | (intro q; rw [nI_int (by omega)] at q; omega) | (refine ⟨?_, ?_, ?_⟩ <;> omega) | (intro q; obtain ⟨q1, q2, q3⟩ := q; omega) | fail)] | rw [if_neg (by first | assumption | omega | (refine inA_iff.mpr ?_; omega) | (intro q; have q2 := inA_iff.mp q; omega) | (intro q; omega) | (refine ⟨?_, ?_⟩ <;> rw [nI_int (by omega)] <;> omega) | (rw [nI_int (by omega)]; omega) | (intro q; rw [nI_int (by omega)] at q; omega) | (refine ⟨?_, ?_, ?_⟩ <;> omega) | (intro q; obtain ⟨q1, q2, q3⟩ := q; omega) | fail)])) <;> rfl
                  rw [e]
                  exact ⟨rfl, hR, Only.rfl_⟩)
    · refine WP.run (pc' := 30) (L' := [.ref 0, .int x, .int l, .int n]) (st' := [.int (-1000001)]) (I1 := I) 2 rfl ?_
      exact WP.ret rfl rfl (by
              have e : nRow R x l n = ((-1000001), R) := by (unfold nRow; (repeat rw [nOf_nI (by omega)]); (repeat first | rw [if_pos (by first | assumption | omega | (refine inA_iff.mpr ?_; omega) | (intro q; have q2 := inA_iff.mp q; omega) | (intro q; omega) | (refine ⟨?_, ?_⟩ <;> rw [nI_int (by omega)] <;> omega) | (rw [nI_int (by omega)]; omega) | (intro q; rw [nI_int (by omega)] at q; omega) | (refine ⟨?_, ?_, ?_⟩ <;> omega) | (intro q; obtain ⟨q1, q2, q3⟩ := q; omega) | fail)] | rw [if_neg (by first | assumption | omega | (refine inA_iff.mpr ?_; omega) | (intro q; have q2 := inA_iff.mp q; omega) | (intro q; omega) | (refine ⟨?_, ?_⟩ <;> rw [nI_int (by omega)] <;> omega) | (rw [nI_int (by omega)]; omega) | (intro q; rw [nI_int (by omega)] at q; omega) | (refine ⟨?_, ?_, ?_⟩ <;> omega) | (intro q; obtain ⟨q1, q2, q3⟩ := q; omega) | fail)])) <;> rfl
              rw [e]
              exact ⟨rfl, hR, Only.rfl_⟩)
  · refine WP.run (pc' := 30) (L' := [.ref 0, .int x, .int l, .int n]) (st' := [.int (-1000001)]) (I1 := I) 2 rfl ?_
    exact WP.ret rfl rfl (by
          have e : nRow R x l n = ((-1000001), R) := by (unfold nRow; (repeat rw [nOf_nI (by omega)]); (repeat first | rw [if_pos (by first | assumption | omega | (refine inA_iff.mpr ?_; omega) | (intro q; have q2 := inA_iff.mp q; omega) | (intro q; omega) | (refine ⟨?_, ?_⟩ <;> rw [nI_int (by omega)] <;> omega) | (rw [nI_int (by omega)]; omega) | (intro q; rw [nI_int (by omega)] at q; omega) | (refine ⟨?_, ?_, ?_⟩ <;> omega) | (intro q; obtain ⟨q1, q2, q3⟩ := q; omega) | fail)] | rw [if_neg (by first | assumption | omega | (refine inA_iff.mpr ?_; omega) | (intro q; have q2 := inA_iff.mp q; omega) | (intro q; omega) | (refine ⟨?_, ?_⟩ <;> rw [nI_int (by omega)] <;> omega) | (rw [nI_int (by omega)]; omega) | (intro q; rw [nI_int (by omega)] at q; omega) | (refine ⟨?_, ?_, ?_⟩ <;> omega) | (intro q; obtain ⟨q1, q2, q3⟩ := q; omega) | fail)])) <;> rfl
          rw [e]
          exact ⟨rfl, hR, Only.rfl_⟩)
set_option maxRecDepth 100000 in
theorem cs_set {d : Nat} {I : Pl} {R : RS} {x i y : Int32} (hR : RowsC I R) : EvX (d + 2) 83 [.ref 0, .int x, .int i, .int y] I (fun v K => v = some (.int (nSet R x i y).1) ∧ RowsC K (nSet R x i y).2 ∧ Only I K rcP) := by
  refine EvX.enter rfl rfl rfl ?_
  refine WP.run (pc' := 5) (L' := [.ref 0, .int x, .int i, .int y]) (st' := [.int x, .ref 1]) (I1 := I) 3 rfl ?_
  refine WP.callB (rest := []) rfl rfl (sp_isRow (d := d) (x := x)) (fun h1 => ?_) (fun h1 => ?_)
  · refine WP.run (pc' := 14) (L' := [.ref 0, .int x, .int i, .int y]) (st' := []) (I1 := I) 1 rfl ?_
    have hx_j : inA x 8 := (by assumption)
    obtain ⟨j, hj, rfl⟩ := inA_of hx_j (by omega)
    refine WP.run (pc' := 19) (L' := [.ref 0, .int (nI j), .int i, .int y]) (st' := [.int (nI j), .ref 1]) (I1 := I) 3 rfl ?_
    refine WP.callB (rest := []) rfl rfl (sp_missR (d := d) (r := j) hR (by omega)) (fun h2 => ?_) (fun h2 => ?_)
    · refine WP.run (pc' := 27) (L' := [.ref 0, .int (nI j), .int i, .int y]) (st' := [.int (nI 1), .ref 0]) (I1 := I) 3 rfl ?_
      refine WP.callV (rest := []) rfl rfl (sp_found (d := d) (I := I) (x := 1)) ?_
      exact WP.ret rfl rfl (by
              have e : nSet R (nI j) i y = ((-1000010 - nI 1), stR R (nI 1)) := by (unfold nSet; (repeat rw [nOf_nI (by omega)]); (repeat first | rw [if_pos (by first | assumption | omega | (refine inA_iff.mpr ?_; omega) | (intro q; have q2 := inA_iff.mp q; omega) | (intro q; omega) | (refine ⟨?_, ?_⟩ <;> rw [nI_int (by omega)] <;> omega) | (rw [nI_int (by omega)]; omega) | (intro q; rw [nI_int (by omega)] at q; omega) | (refine ⟨?_, ?_, ?_⟩ <;> omega) | (intro q; obtain ⟨q1, q2, q3⟩ := q; omega) | fail)] | rw [if_neg (by first | assumption | omega | (refine inA_iff.mpr ?_; omega) | (intro q; have q2 := inA_iff.mp q; omega) | (intro q; omega) | (refine ⟨?_, ?_⟩ <;> rw [nI_int (by omega)] <;> omega) | (rw [nI_int (by omega)]; omega) | (intro q; rw [nI_int (by omega)] at q; omega) | (refine ⟨?_, ?_, ?_⟩ <;> omega) | (intro q; obtain ⟨q1, q2, q3⟩ := q; omega) | fail)])) <;> rfl
              rw [e]
              exact ⟨rfl, (RowsC.stat hR), (Only.up Only.rfl_ (Or.inl ⟨rfl, rfl⟩))⟩)
    · refine WP.run (pc' := 38) (L' := [.ref 0, .int (nI j), .int i, .int y]) (st' := [.int (nI 1), .int i, .int (nI j), .ref 1]) (I1 := I) 6 rfl ?_
      refine WP.callB (rest := []) rfl rfl (sp_placeR (d := d) (r := j) (i := i) (n := (nI 1)) hR (by omega) (by assumption)) (fun h3 => ?_) (fun h3 => ?_)
      · refine WP.run (pc' := 50) (L' := [.ref 0, .int (nI j), .int i, .int y]) (st' := []) (I1 := I) 1 rfl ?_
        have hz_j := (RowsC.size hR hj (by assumption)).2.1
        have hx_m : inA i 40 := (by refine inA_iff.mpr ?_; have hp : plP i (nI 1) (R.2.1 j) := (by assumption); obtain ⟨p1, p2, p3⟩ := hp; rw [nI_int (by omega)] at p3; omega)
        obtain ⟨m, hm, rfl⟩ := inA_of hx_m (by omega)
        refine WP.run (pc' := 58) (L' := [.ref 0, .int (nI j), .int (nI m), .int y]) (st' := [.int y, .int (nI m), .int (nI j), .ref 1, .ref 0]) (I1 := I) 6 rfl ?_
        refine WP.callV (rest := [.ref 0]) rfl rfl (sp_put (d := d) (r := j) (i := m) (l := R.1 j) (v := y) (by omega) (by omega) (RowsC.size hR (by omega) (by assumption)).2.2.1 (RowsC.size hR (by omega) (by assumption)).2.2.2) ?_
        refine WP.callV (rest := []) rfl rfl (sp_fine (d := d) (I := (upN I (3 + j) m (laneV (R.1 j) y))) (x := (laneV (R.1 j) y))) ?_
        exact WP.ret rfl rfl (by
                  have e : nSet R (nI j) (nI m) y = ((laneV (R.1 j) y), stR (putR R j m (laneV (R.1 j) y)) (nI 0)) := by (unfold nSet; (repeat rw [nOf_nI (by omega)]); (repeat first | rw [if_pos (by first | assumption | omega | (refine inA_iff.mpr ?_; omega) | (intro q; have q2 := inA_iff.mp q; omega) | (intro q; omega) | (refine ⟨?_, ?_⟩ <;> rw [nI_int (by omega)] <;> omega) | (rw [nI_int (by omega)]; omega) | (intro q; rw [nI_int (by omega)] at q; omega) | (refine ⟨?_, ?_, ?_⟩ <;> omega) | (intro q; obtain ⟨q1, q2, q3⟩ := q; omega) | fail)] | rw [if_neg (by first | assumption | omega | (refine inA_iff.mpr ?_; omega) | (intro q; have q2 := inA_iff.mp q; omega) | (intro q; omega) | (refine ⟨?_, ?_⟩ <;> rw [nI_int (by omega)] <;> omega) | (rw [nI_int (by omega)]; omega) | (intro q; rw [nI_int (by omega)] at q; omega) | (refine ⟨?_, ?_, ?_⟩ <;> omega) | (intro q; obtain ⟨q1, q2, q3⟩ := q; omega) | fail)])) <;> rfl
                  rw [e]
                  exact ⟨rfl, (RowsC.stat (RowsC.put hR (by omega))), (Only.up (Only.up Only.rfl_ (Or.inr ⟨by omega, by omega⟩)) (Or.inl ⟨rfl, rfl⟩))⟩)
      · refine WP.run (pc' := 46) (L' := [.ref 0, .int (nI j), .int i, .int y]) (st' := [.int (nI 2), .ref 0]) (I1 := I) 3 rfl ?_
        refine WP.callV (rest := []) rfl rfl (sp_found (d := d) (I := I) (x := 2)) ?_
        exact WP.ret rfl rfl (by
                  have e : nSet R (nI j) i y = ((-1000010 - nI 2), stR R (nI 2)) := by (unfold nSet; (repeat rw [nOf_nI (by omega)]); (repeat first | rw [if_pos (by first | assumption | omega | (refine inA_iff.mpr ?_; omega) | (intro q; have q2 := inA_iff.mp q; omega) | (intro q; omega) | (refine ⟨?_, ?_⟩ <;> rw [nI_int (by omega)] <;> omega) | (rw [nI_int (by omega)]; omega) | (intro q; rw [nI_int (by omega)] at q; omega) | (refine ⟨?_, ?_, ?_⟩ <;> omega) | (intro q; obtain ⟨q1, q2, q3⟩ := q; omega) | fail)] | rw [if_neg (by first | assumption | omega | (refine inA_iff.mpr ?_; omega) | (intro q; have q2 := inA_iff.mp q; omega) | (intro q; omega) | (refine ⟨?_, ?_⟩ <;> rw [nI_int (by omega)] <;> omega) | (rw [nI_int (by omega)]; omega) | (intro q; rw [nI_int (by omega)] at q; omega) | (refine ⟨?_, ?_, ?_⟩ <;> omega) | (intro q; obtain ⟨q1, q2, q3⟩ := q; omega) | fail)])) <;> rfl
                  rw [e]
                  exact ⟨rfl, (RowsC.stat hR), (Only.up Only.rfl_ (Or.inl ⟨rfl, rfl⟩))⟩)
  · refine WP.run (pc' := 13) (L' := [.ref 0, .int x, .int i, .int y]) (st' := [.int (-1000001)]) (I1 := I) 2 rfl ?_
    exact WP.ret rfl rfl (by
          have e : nSet R x i y = ((-1000001), R) := by (unfold nSet; (repeat rw [nOf_nI (by omega)]); (repeat first | rw [if_pos (by first | assumption | omega | (refine inA_iff.mpr ?_; omega) | (intro q; have q2 := inA_iff.mp q; omega) | (intro q; omega) | (refine ⟨?_, ?_⟩ <;> rw [nI_int (by omega)] <;> omega) | (rw [nI_int (by omega)]; omega) | (intro q; rw [nI_int (by omega)] at q; omega) | (refine ⟨?_, ?_, ?_⟩ <;> omega) | (intro q; obtain ⟨q1, q2, q3⟩ := q; omega) | fail)] | rw [if_neg (by first | assumption | omega | (refine inA_iff.mpr ?_; omega) | (intro q; have q2 := inA_iff.mp q; omega) | (intro q; omega) | (refine ⟨?_, ?_⟩ <;> rw [nI_int (by omega)] <;> omega) | (rw [nI_int (by omega)]; omega) | (intro q; rw [nI_int (by omega)] at q; omega) | (refine ⟨?_, ?_, ?_⟩ <;> omega) | (intro q; obtain ⟨q1, q2, q3⟩ := q; omega) | fail)])) <;> rfl
          rw [e]
          exact ⟨rfl, hR, Only.rfl_⟩)
set_option maxRecDepth 100000 in
theorem cs_drop {d : Nat} {I : Pl} {R : RS} {x : Int32} (hR : RowsC I R) : EvX (d + 2) 85 [.ref 0, .int x] I (fun v K => v = some (.int (nDrop R x).1) ∧ RowsC K (nDrop R x).2 ∧ Only I K rcP) := by
  refine EvX.enter rfl rfl rfl ?_
  refine WP.run (pc' := 5) (L' := [.ref 0, .int x]) (st' := [.int x, .ref 1]) (I1 := I) 3 rfl ?_
  refine WP.callB (rest := []) rfl rfl (sp_isRow (d := d) (x := x)) (fun h1 => ?_) (fun h1 => ?_)
  · refine WP.run (pc' := 14) (L' := [.ref 0, .int x]) (st' := []) (I1 := I) 1 rfl ?_
    have hx_j : inA x 8 := (by assumption)
    obtain ⟨j, hj, rfl⟩ := inA_of hx_j (by omega)
    refine WP.run (pc' := 19) (L' := [.ref 0, .int (nI j)]) (st' := [.int (nI j), .ref 1]) (I1 := I) 3 rfl ?_
    refine WP.callB (rest := []) rfl rfl (sp_missR (d := d) (r := j) hR (by omega)) (fun h2 => ?_) (fun h2 => ?_)
    · refine WP.run (pc' := 27) (L' := [.ref 0, .int (nI j)]) (st' := [.int (nI 1), .ref 0]) (I1 := I) 3 rfl ?_
      refine WP.callV (rest := []) rfl rfl (sp_found (d := d) (I := I) (x := 1)) ?_
      exact WP.ret rfl rfl (by
              have e : nDrop R (nI j) = ((-1000010 - nI 1), stR R (nI 1)) := by (unfold nDrop; (repeat rw [nOf_nI (by omega)]); (repeat first | rw [if_pos (by first | assumption | omega | (refine inA_iff.mpr ?_; omega) | (intro q; have q2 := inA_iff.mp q; omega) | (intro q; omega) | (refine ⟨?_, ?_⟩ <;> rw [nI_int (by omega)] <;> omega) | (rw [nI_int (by omega)]; omega) | (intro q; rw [nI_int (by omega)] at q; omega) | (refine ⟨?_, ?_, ?_⟩ <;> omega) | (intro q; obtain ⟨q1, q2, q3⟩ := q; omega) | fail)] | rw [if_neg (by first | assumption | omega | (refine inA_iff.mpr ?_; omega) | (intro q; have q2 := inA_iff.mp q; omega) | (intro q; omega) | (refine ⟨?_, ?_⟩ <;> rw [nI_int (by omega)] <;> omega) | (rw [nI_int (by omega)]; omega) | (intro q; rw [nI_int (by omega)] at q; omega) | (refine ⟨?_, ?_, ?_⟩ <;> omega) | (intro q; obtain ⟨q1, q2, q3⟩ := q; omega) | fail)])) <;> rfl
              rw [e]
              exact ⟨rfl, (RowsC.stat hR), (Only.up Only.rfl_ (Or.inl ⟨rfl, rfl⟩))⟩)
    · refine WP.run (pc' := 37) (L' := [.ref 0, .int (nI j)]) (st' := [.int (nI j), .ref 1, .ref 0]) (I1 := I) 5 rfl ?_
      refine WP.callV (rest := [.ref 0]) rfl rfl (sp_lose (d := d) (r := j) (by omega)) ?_
      refine WP.cg (st' := [.int (nI (R.2.1 j)), .ref 0]) rfl (congrArg (fun z : Int32 => ([.int z, .ref 0] : List Value)) (RowsC.size hR hj (by assumption)).1) rfl ?_
      refine WP.callV (rest := []) rfl rfl (sp_fine (d := d) (I := (upN I 12 j (-1))) (x := (nI (R.2.1 j)))) ?_
      exact WP.ret rfl rfl (by
              have e : nDrop R (nI j) = ((nI (R.2.1 j)), stR (loseR R j) (nI 0)) := by (unfold nDrop; (repeat rw [nOf_nI (by omega)]); (repeat first | rw [if_pos (by first | assumption | omega | (refine inA_iff.mpr ?_; omega) | (intro q; have q2 := inA_iff.mp q; omega) | (intro q; omega) | (refine ⟨?_, ?_⟩ <;> rw [nI_int (by omega)] <;> omega) | (rw [nI_int (by omega)]; omega) | (intro q; rw [nI_int (by omega)] at q; omega) | (refine ⟨?_, ?_, ?_⟩ <;> omega) | (intro q; obtain ⟨q1, q2, q3⟩ := q; omega) | fail)] | rw [if_neg (by first | assumption | omega | (refine inA_iff.mpr ?_; omega) | (intro q; have q2 := inA_iff.mp q; omega) | (intro q; omega) | (refine ⟨?_, ?_⟩ <;> rw [nI_int (by omega)] <;> omega) | (rw [nI_int (by omega)]; omega) | (intro q; rw [nI_int (by omega)] at q; omega) | (refine ⟨?_, ?_, ?_⟩ <;> omega) | (intro q; obtain ⟨q1, q2, q3⟩ := q; omega) | fail)])) <;> rfl
              rw [e]
              exact ⟨rfl, (RowsC.stat (RowsC.lose hR)), (Only.up (Only.up Only.rfl_ (Or.inr ⟨by decide, by decide⟩)) (Or.inl ⟨rfl, rfl⟩))⟩)
  · refine WP.run (pc' := 13) (L' := [.ref 0, .int x]) (st' := [.int (-1000001)]) (I1 := I) 2 rfl ?_
    exact WP.ret rfl rfl (by
          have e : nDrop R x = ((-1000001), R) := by (unfold nDrop; (repeat rw [nOf_nI (by omega)]); (repeat first | rw [if_pos (by first | assumption | omega | (refine inA_iff.mpr ?_; omega) | (intro q; have q2 := inA_iff.mp q; omega) | (intro q; omega) | (refine ⟨?_, ?_⟩ <;> rw [nI_int (by omega)] <;> omega) | (rw [nI_int (by omega)]; omega) | (intro q; rw [nI_int (by omega)] at q; omega) | (refine ⟨?_, ?_, ?_⟩ <;> omega) | (intro q; obtain ⟨q1, q2, q3⟩ := q; omega) | fail)] | rw [if_neg (by first | assumption | omega | (refine inA_iff.mpr ?_; omega) | (intro q; have q2 := inA_iff.mp q; omega) | (intro q; omega) | (refine ⟨?_, ?_⟩ <;> rw [nI_int (by omega)] <;> omega) | (rw [nI_int (by omega)]; omega) | (intro q; rw [nI_int (by omega)] at q; omega) | (refine ⟨?_, ?_, ?_⟩ <;> omega) | (intro q; obtain ⟨q1, q2, q3⟩ := q; omega) | fail)])) <;> rfl
          rw [e]
          exact ⟨rfl, hR, Only.rfl_⟩)
set_option maxRecDepth 100000 in
theorem cs_copy {d : Nat} {I : Pl} {R : RS} {a i b j n : Int32} (hR : RowsC I R) : EvX (d + 2) 84 [.ref 0, .int a, .int i, .int b, .int j, .int n] I (fun v K => v = some (.int (nCopy R a i b j n).1) ∧ RowsC K (nCopy R a i b j n).2 ∧ Only I K rcP) := by
  refine EvX.enter rfl rfl rfl ?_
  refine WP.run (pc' := 5) (L' := [.ref 0, .int a, .int i, .int b, .int j, .int n]) (st' := [.int a, .ref 1]) (I1 := I) 3 rfl ?_
  refine WP.callB (rest := []) rfl rfl (sp_isRow (d := d) (x := a)) (fun h1 => ?_) (fun h1 => ?_)
  · refine WP.run (pc' := 11) (L' := [.ref 0, .int a, .int i, .int b, .int j, .int n]) (st' := []) (I1 := I) 1 rfl ?_
    have hx_a1 : inA a 8 := (by assumption)
    obtain ⟨a1, ha1, rfl⟩ := inA_of hx_a1 (by omega)
    refine WP.run (pc' := 16) (L' := [.ref 0, .int (nI a1), .int i, .int b, .int j, .int n]) (st' := [.int b, .ref 1]) (I1 := I) 3 rfl ?_
    refine WP.callB (rest := []) rfl rfl (sp_isRow (d := d) (x := b)) (fun h2 => ?_) (fun h2 => ?_)
    · refine WP.run (pc' := 25) (L' := [.ref 0, .int (nI a1), .int i, .int b, .int j, .int n]) (st' := []) (I1 := I) 1 rfl ?_
      have hx_b1 : inA b 8 := (by assumption)
      obtain ⟨b1, hb1, rfl⟩ := inA_of hx_b1 (by omega)
      refine WP.run (pc' := 30) (L' := [.ref 0, .int (nI a1), .int i, .int (nI b1), .int j, .int n]) (st' := [.int (nI a1), .ref 1]) (I1 := I) 3 rfl ?_
      refine WP.callB (rest := []) rfl rfl (sp_missR (d := d) (r := a1) hR (by omega)) (fun h3 => ?_) (fun h3 => ?_)
      · refine WP.run (pc' := 49) (L' := [.ref 0, .int (nI a1), .int i, .int (nI b1), .int j, .int n]) (st' := [.int (nI 1), .ref 0]) (I1 := I) 3 rfl ?_
        refine WP.callV (rest := []) rfl rfl (sp_found (d := d) (I := I) (x := 1)) ?_
        exact WP.ret rfl rfl (by
                  have e : nCopy R (nI a1) i (nI b1) j n = ((-1000010 - nI 1), stR R (nI 1)) := by (unfold nCopy; (repeat rw [nOf_nI (by omega)]); (repeat first | rw [if_pos (by first | assumption | omega | (refine inA_iff.mpr ?_; omega) | (intro q; have q2 := inA_iff.mp q; omega) | (intro q; omega) | (refine ⟨?_, ?_⟩ <;> rw [nI_int (by omega)] <;> omega) | (rw [nI_int (by omega)]; omega) | (intro q; rw [nI_int (by omega)] at q; omega) | (refine ⟨?_, ?_, ?_⟩ <;> omega) | (intro q; obtain ⟨q1, q2, q3⟩ := q; omega) | fail)] | rw [if_neg (by first | assumption | omega | (refine inA_iff.mpr ?_; omega) | (intro q; have q2 := inA_iff.mp q; omega) | (intro q; omega) | (refine ⟨?_, ?_⟩ <;> rw [nI_int (by omega)] <;> omega) | (rw [nI_int (by omega)]; omega) | (intro q; rw [nI_int (by omega)] at q; omega) | (refine ⟨?_, ?_, ?_⟩ <;> omega) | (intro q; obtain ⟨q1, q2, q3⟩ := q; omega) | fail)])) <;> rfl
                  rw [e]
                  exact ⟨rfl, (RowsC.stat hR), (Only.up Only.rfl_ (Or.inl ⟨rfl, rfl⟩))⟩)
      · refine WP.run (pc' := 41) (L' := [.ref 0, .int (nI a1), .int i, .int (nI b1), .int j, .int n]) (st' := [.int (nI b1), .ref 1]) (I1 := I) 4 rfl ?_
        refine WP.callB (rest := []) rfl rfl (sp_missR (d := d) (r := b1) hR (by omega)) (fun h4 => ?_) (fun h4 => ?_)
        · refine WP.run (pc' := 49) (L' := [.ref 0, .int (nI a1), .int i, .int (nI b1), .int j, .int n]) (st' := [.int (nI 1), .ref 0]) (I1 := I) 3 rfl ?_
          refine WP.callV (rest := []) rfl rfl (sp_found (d := d) (I := I) (x := 1)) ?_
          exact WP.ret rfl rfl (by
                      have e : nCopy R (nI a1) i (nI b1) j n = ((-1000010 - nI 1), stR R (nI 1)) := by (unfold nCopy; (repeat rw [nOf_nI (by omega)]); (repeat first | rw [if_pos (by first | assumption | omega | (refine inA_iff.mpr ?_; omega) | (intro q; have q2 := inA_iff.mp q; omega) | (intro q; omega) | (refine ⟨?_, ?_⟩ <;> rw [nI_int (by omega)] <;> omega) | (rw [nI_int (by omega)]; omega) | (intro q; rw [nI_int (by omega)] at q; omega) | (refine ⟨?_, ?_, ?_⟩ <;> omega) | (intro q; obtain ⟨q1, q2, q3⟩ := q; omega) | fail)] | rw [if_neg (by first | assumption | omega | (refine inA_iff.mpr ?_; omega) | (intro q; have q2 := inA_iff.mp q; omega) | (intro q; omega) | (refine ⟨?_, ?_⟩ <;> rw [nI_int (by omega)] <;> omega) | (rw [nI_int (by omega)]; omega) | (intro q; rw [nI_int (by omega)] at q; omega) | (refine ⟨?_, ?_, ?_⟩ <;> omega) | (intro q; obtain ⟨q1, q2, q3⟩ := q; omega) | fail)])) <;> rfl
                      rw [e]
                      exact ⟨rfl, (RowsC.stat hR), (Only.up Only.rfl_ (Or.inl ⟨rfl, rfl⟩))⟩)
        · refine WP.run (pc' := 59) (L' := [.ref 0, .int (nI a1), .int i, .int (nI b1), .int j, .int n]) (st' := [.int (nI b1), .int (nI a1), .ref 1]) (I1 := I) 5 rfl ?_
          refine WP.callB (rest := []) rfl rfl (sp_laneR (d := d) (a := a1) (b := b1) hR (by omega) (by omega) (by assumption) (by assumption)) (fun h5 => ?_) (fun h5 => ?_)
          · refine WP.run (pc' := 79) (L' := [.ref 0, .int (nI a1), .int i, .int (nI b1), .int j, .int n]) (st' := [.int n, .int i, .int (nI a1), .ref 1]) (I1 := I) 6 rfl ?_
            refine WP.callB (rest := []) rfl rfl (sp_placeR (d := d) (r := a1) (i := i) (n := n) hR (by omega) (by assumption)) (fun h6 => ?_) (fun h6 => ?_)
            · refine WP.run (pc' := 94) (L' := [.ref 0, .int (nI a1), .int i, .int (nI b1), .int j, .int n]) (st' := [.int n, .int j, .int (nI b1), .ref 1]) (I1 := I) 6 rfl ?_
              refine WP.callB (rest := []) rfl rfl (sp_placeR (d := d) (r := b1) (i := j) (n := n) hR (by omega) (by assumption)) (fun h7 => ?_) (fun h7 => ?_)
              · refine WP.run (pc' := 106) (L' := [.ref 0, .int (nI a1), .int i, .int (nI b1), .int j, .int n]) (st' := []) (I1 := I) 1 rfl ?_
                have hz_a1 := (RowsC.size hR ha1 (by assumption)).2.1
                have hz_b1 := (RowsC.size hR hb1 (by assumption)).2.1
                have hx_i1 : inA i 41 := (by refine inA_iff.mpr ?_; have hp : plP i n (R.2.1 a1) := (by assumption); obtain ⟨p1, p2, p3⟩ := hp; omega)
                obtain ⟨i1, hi1, rfl⟩ := inA_of hx_i1 (by omega)
                have hx_j1 : inA j 41 := (by refine inA_iff.mpr ?_; have hp : plP j n (R.2.1 b1) := (by assumption); obtain ⟨p1, p2, p3⟩ := hp; omega)
                obtain ⟨j1, hj1, rfl⟩ := inA_of hx_j1 (by omega)
                have hx_n1 : inA n 41 := (by refine inA_iff.mpr ?_; have hp : plP (nI i1) n (R.2.1 a1) := (by assumption); obtain ⟨p1, p2, p3⟩ := hp; omega)
                obtain ⟨n1, hn1, rfl⟩ := inA_of hx_n1 (by omega)
                have hp1 : plP (nI i1) (nI n1) (R.2.1 a1) := (by assumption)
                have hp2 : plP (nI j1) (nI n1) (R.2.1 b1) := (by assumption)
                have hq1 := hp1.2.2
                have hq2 := hp2.2.2
                rw [nI_int (by omega), nI_int (by omega)] at hq1 hq2
                refine WP.run (pc' := 117) (L' := [.ref 0, .int (nI a1), .int (nI i1), .int (nI b1), .int (nI j1), .int (nI n1)]) (st' := [.int (nI n1), .int (nI j1), .int (nI b1), .int (nI i1), .int (nI a1), .ref 1]) (I1 := I) 7 rfl ?_
                refine WP.callV (rest := []) rfl rfl (sp_move (d := d) (a := a1) (i := i1) (b := b1) (j := j1) (n := n1) (by omega) (by omega) (by omega) (by omega)) ?_
                refine WP.run (pc' := 123) (L' := [.ref 0, .int (nI a1), .int (nI i1), .int (nI b1), .int (nI j1), .int (nI n1)]) (st' := [.int (nI n1), .ref 0]) (I1 := (cpy I (3 + a1) (3 + b1) i1 j1 n1)) 2 rfl ?_
                refine WP.callV (rest := []) rfl rfl (sp_fine (d := d) (I := (cpy I (3 + a1) (3 + b1) i1 j1 n1)) (x := (nI n1))) ?_
                exact WP.ret rfl rfl (by
                                  have e : nCopy R (nI a1) (nI i1) (nI b1) (nI j1) (nI n1) = ((nI n1), stR (moveR R a1 i1 b1 j1 n1) (nI 0)) := by (unfold nCopy; (repeat rw [nOf_nI (by omega)]); (repeat first | rw [if_pos (by first | assumption | omega | (refine inA_iff.mpr ?_; omega) | (intro q; have q2 := inA_iff.mp q; omega) | (intro q; omega) | (refine ⟨?_, ?_⟩ <;> rw [nI_int (by omega)] <;> omega) | (rw [nI_int (by omega)]; omega) | (intro q; rw [nI_int (by omega)] at q; omega) | (refine ⟨?_, ?_, ?_⟩ <;> omega) | (intro q; obtain ⟨q1, q2, q3⟩ := q; omega) | fail)] | rw [if_neg (by first | assumption | omega | (refine inA_iff.mpr ?_; omega) | (intro q; have q2 := inA_iff.mp q; omega) | (intro q; omega) | (refine ⟨?_, ?_⟩ <;> rw [nI_int (by omega)] <;> omega) | (rw [nI_int (by omega)]; omega) | (intro q; rw [nI_int (by omega)] at q; omega) | (refine ⟨?_, ?_, ?_⟩ <;> omega) | (intro q; obtain ⟨q1, q2, q3⟩ := q; omega) | fail)])) <;> rfl
                                  rw [e]
                                  exact ⟨rfl, (RowsC.stat (RowsC.move hR (by omega) (by omega) (RowsC.size hR (by omega) (by assumption)).2.2.2 (by omega) (by omega))), (Only.up (cpy_only (by omega)) (Or.inl ⟨rfl, rfl⟩))⟩)
              · refine WP.run (pc' := 102) (L' := [.ref 0, .int (nI a1), .int i, .int (nI b1), .int j, .int n]) (st' := [.int (nI 2), .ref 0]) (I1 := I) 3 rfl ?_
                refine WP.callV (rest := []) rfl rfl (sp_found (d := d) (I := I) (x := 2)) ?_
                exact WP.ret rfl rfl (by
                                  have e : nCopy R (nI a1) i (nI b1) j n = ((-1000010 - nI 2), stR R (nI 2)) := by (unfold nCopy; (repeat rw [nOf_nI (by omega)]); (repeat first | rw [if_pos (by first | assumption | omega | (refine inA_iff.mpr ?_; omega) | (intro q; have q2 := inA_iff.mp q; omega) | (intro q; omega) | (refine ⟨?_, ?_⟩ <;> rw [nI_int (by omega)] <;> omega) | (rw [nI_int (by omega)]; omega) | (intro q; rw [nI_int (by omega)] at q; omega) | (refine ⟨?_, ?_, ?_⟩ <;> omega) | (intro q; obtain ⟨q1, q2, q3⟩ := q; omega) | fail)] | rw [if_neg (by first | assumption | omega | (refine inA_iff.mpr ?_; omega) | (intro q; have q2 := inA_iff.mp q; omega) | (intro q; omega) | (refine ⟨?_, ?_⟩ <;> rw [nI_int (by omega)] <;> omega) | (rw [nI_int (by omega)]; omega) | (intro q; rw [nI_int (by omega)] at q; omega) | (refine ⟨?_, ?_, ?_⟩ <;> omega) | (intro q; obtain ⟨q1, q2, q3⟩ := q; omega) | fail)])) <;> rfl
                                  rw [e]
                                  exact ⟨rfl, (RowsC.stat hR), (Only.up Only.rfl_ (Or.inl ⟨rfl, rfl⟩))⟩)
            · refine WP.run (pc' := 102) (L' := [.ref 0, .int (nI a1), .int i, .int (nI b1), .int j, .int n]) (st' := [.int (nI 2), .ref 0]) (I1 := I) 3 rfl ?_
              refine WP.callV (rest := []) rfl rfl (sp_found (d := d) (I := I) (x := 2)) ?_
              exact WP.ret rfl rfl (by
                              have e : nCopy R (nI a1) i (nI b1) j n = ((-1000010 - nI 2), stR R (nI 2)) := by (unfold nCopy; (repeat rw [nOf_nI (by omega)]); (repeat first | rw [if_pos (by first | assumption | omega | (refine inA_iff.mpr ?_; omega) | (intro q; have q2 := inA_iff.mp q; omega) | (intro q; omega) | (refine ⟨?_, ?_⟩ <;> rw [nI_int (by omega)] <;> omega) | (rw [nI_int (by omega)]; omega) | (intro q; rw [nI_int (by omega)] at q; omega) | (refine ⟨?_, ?_, ?_⟩ <;> omega) | (intro q; obtain ⟨q1, q2, q3⟩ := q; omega) | fail)] | rw [if_neg (by first | assumption | omega | (refine inA_iff.mpr ?_; omega) | (intro q; have q2 := inA_iff.mp q; omega) | (intro q; omega) | (refine ⟨?_, ?_⟩ <;> rw [nI_int (by omega)] <;> omega) | (rw [nI_int (by omega)]; omega) | (intro q; rw [nI_int (by omega)] at q; omega) | (refine ⟨?_, ?_, ?_⟩ <;> omega) | (intro q; obtain ⟨q1, q2, q3⟩ := q; omega) | fail)])) <;> rfl
                              rw [e]
                              exact ⟨rfl, (RowsC.stat hR), (Only.up Only.rfl_ (Or.inl ⟨rfl, rfl⟩))⟩)
          · refine WP.run (pc' := 67) (L' := [.ref 0, .int (nI a1), .int i, .int (nI b1), .int j, .int n]) (st' := [.int (nI 5), .ref 0]) (I1 := I) 3 rfl ?_
            refine WP.callV (rest := []) rfl rfl (sp_found (d := d) (I := I) (x := 5)) ?_
            exact WP.ret rfl rfl (by
                          have e : nCopy R (nI a1) i (nI b1) j n = ((-1000010 - nI 5), stR R (nI 5)) := by (unfold nCopy; (repeat rw [nOf_nI (by omega)]); (repeat first | rw [if_pos (by first | assumption | omega | (refine inA_iff.mpr ?_; omega) | (intro q; have q2 := inA_iff.mp q; omega) | (intro q; omega) | (refine ⟨?_, ?_⟩ <;> rw [nI_int (by omega)] <;> omega) | (rw [nI_int (by omega)]; omega) | (intro q; rw [nI_int (by omega)] at q; omega) | (refine ⟨?_, ?_, ?_⟩ <;> omega) | (intro q; obtain ⟨q1, q2, q3⟩ := q; omega) | fail)] | rw [if_neg (by first | assumption | omega | (refine inA_iff.mpr ?_; omega) | (intro q; have q2 := inA_iff.mp q; omega) | (intro q; omega) | (refine ⟨?_, ?_⟩ <;> rw [nI_int (by omega)] <;> omega) | (rw [nI_int (by omega)]; omega) | (intro q; rw [nI_int (by omega)] at q; omega) | (refine ⟨?_, ?_, ?_⟩ <;> omega) | (intro q; obtain ⟨q1, q2, q3⟩ := q; omega) | fail)])) <;> rfl
                          rw [e]
                          exact ⟨rfl, (RowsC.stat hR), (Only.up Only.rfl_ (Or.inl ⟨rfl, rfl⟩))⟩)
    · refine WP.run (pc' := 24) (L' := [.ref 0, .int (nI a1), .int i, .int b, .int j, .int n]) (st' := [.int (-1000001)]) (I1 := I) 2 rfl ?_
      exact WP.ret rfl rfl (by
              have e : nCopy R (nI a1) i b j n = ((-1000001), R) := by (unfold nCopy; (repeat rw [nOf_nI (by omega)]); (repeat first | rw [if_pos (by first | assumption | omega | (refine inA_iff.mpr ?_; omega) | (intro q; have q2 := inA_iff.mp q; omega) | (intro q; omega) | (refine ⟨?_, ?_⟩ <;> rw [nI_int (by omega)] <;> omega) | (rw [nI_int (by omega)]; omega) | (intro q; rw [nI_int (by omega)] at q; omega) | (refine ⟨?_, ?_, ?_⟩ <;> omega) | (intro q; obtain ⟨q1, q2, q3⟩ := q; omega) | fail)] | rw [if_neg (by first | assumption | omega | (refine inA_iff.mpr ?_; omega) | (intro q; have q2 := inA_iff.mp q; omega) | (intro q; omega) | (refine ⟨?_, ?_⟩ <;> rw [nI_int (by omega)] <;> omega) | (rw [nI_int (by omega)]; omega) | (intro q; rw [nI_int (by omega)] at q; omega) | (refine ⟨?_, ?_, ?_⟩ <;> omega) | (intro q; obtain ⟨q1, q2, q3⟩ := q; omega) | fail)])) <;> rfl
              rw [e]
              exact ⟨rfl, hR, Only.rfl_⟩)
  · refine WP.run (pc' := 24) (L' := [.ref 0, .int a, .int i, .int b, .int j, .int n]) (st' := [.int (-1000001)]) (I1 := I) 2 rfl ?_
    exact WP.ret rfl rfl (by
          have e : nCopy R a i b j n = ((-1000001), R) := by (unfold nCopy; (repeat rw [nOf_nI (by omega)]); (repeat first | rw [if_pos (by first | assumption | omega | (refine inA_iff.mpr ?_; omega) | (intro q; have q2 := inA_iff.mp q; omega) | (intro q; omega) | (refine ⟨?_, ?_⟩ <;> rw [nI_int (by omega)] <;> omega) | (rw [nI_int (by omega)]; omega) | (intro q; rw [nI_int (by omega)] at q; omega) | (refine ⟨?_, ?_, ?_⟩ <;> omega) | (intro q; obtain ⟨q1, q2, q3⟩ := q; omega) | fail)] | rw [if_neg (by first | assumption | omega | (refine inA_iff.mpr ?_; omega) | (intro q; have q2 := inA_iff.mp q; omega) | (intro q; omega) | (refine ⟨?_, ?_⟩ <;> rw [nI_int (by omega)] <;> omega) | (rw [nI_int (by omega)]; omega) | (intro q; rw [nI_int (by omega)] at q; omega) | (refine ⟨?_, ?_, ?_⟩ <;> omega) | (intro q; obtain ⟨q1, q2, q3⟩ := q; omega) | fail)])) <;> rfl
          rw [e]
          exact ⟨rfl, hR, Only.rfl_⟩)
set_option maxRecDepth 100000 in
theorem cs_as {d : Nat} {I : Pl} {R : RS} {x k : Int32} {N : Nat → Nat} (hT : Tw I 247 N) (hN : TI N) (hR : RowsC I R) : EvX (d + 2) 118 [.ref 0, .int x, .int k] I (fun v K => v = some (.int (nAs N R x k).1) ∧ RowsC K (nAs N R x k).2 ∧ Only I K rcP) := by
  obtain ⟨b0, b1, b2, b3, b4, b5, b6, b7, b8, bS, bC, bS1, bC1, bZ, bG⟩ := id hN
  obtain ⟨s6, s7, s64⟩ := hN.set64
  refine EvX.enter rfl rfl rfl ?_
  refine WP.run (pc' := 5) (L' := [.ref 0, .int x, .int k]) (st' := [.int x, .ref 247]) (I1 := I) 3 rfl ?_
  refine WP.callB (rest := []) rfl rfl (sp_isStrand (d := d) (x := x) hT hN) (fun h1 => ?_) (fun h1 => ?_)
  · refine WP.run (pc' := 11) (L' := [.ref 0, .int x, .int k]) (st' := []) (I1 := I) 1 rfl ?_
    have hx_j : inA x (N 2) := (by assumption)
    obtain ⟨j, hj, rfl⟩ := inA_of hx_j (by omega)
    refine WP.run (pc' := if k < 0 then 21 else 15) (L' := [.ref 0, .int (nI j), .int k]) (st' := []) (I1 := I) 2 rfl ?_
    refine WP.br (fun h2 => ?_) (fun h2 => ?_)
    · have h2 : k.toInt < 0 := (iLtZ).mp h2
      refine WP.run (pc' := 23) (L' := [.ref 0, .int (nI j), .int k]) (st' := [.int (-1000001)]) (I1 := I) 1 rfl ?_
      exact WP.ret rfl rfl (by
              have e : nAs N R (nI j) k = ((-1000001), R) := by (unfold nAs; (repeat rw [nOf_nI (by omega)]); (repeat first | rw [if_pos (by first | assumption | omega | (refine inA_iff.mpr ?_; omega) | (intro q; have q2 := inA_iff.mp q; omega) | (intro q; omega) | (refine ⟨?_, ?_⟩ <;> rw [nI_int (by omega)] <;> omega) | (rw [nI_int (by omega)]; omega) | (intro q; rw [nI_int (by omega)] at q; omega) | (refine ⟨?_, ?_, ?_⟩ <;> omega) | (intro q; obtain ⟨q1, q2, q3⟩ := q; omega) | fail)] | rw [if_neg (by first | assumption | omega | (refine inA_iff.mpr ?_; omega) | (intro q; have q2 := inA_iff.mp q; omega) | (intro q; omega) | (refine ⟨?_, ?_⟩ <;> rw [nI_int (by omega)] <;> omega) | (rw [nI_int (by omega)]; omega) | (intro q; rw [nI_int (by omega)] at q; omega) | (refine ⟨?_, ?_, ?_⟩ <;> omega) | (intro q; obtain ⟨q1, q2, q3⟩ := q; omega) | fail)])) <;> rfl
              rw [e]
              exact ⟨rfl, hR, Only.rfl_⟩)
    · have h2 : ¬ (k.toInt < 0) := fun q => h2 ((iLtZ).mpr q)
      refine WP.run (pc' := if k < (nI 6) then 24 else 21) (L' := [.ref 0, .int (nI j), .int k]) (st' := []) (I1 := I) 3 rfl ?_
      refine WP.br (fun h3 => ?_) (fun h3 => ?_)
      · have h3 : k.toInt < 6 := (iLtL (n := 6) (by omega)).mp h3
        have hx_m : inA k 6 := (by refine inA_iff.mpr ?_; omega)
        obtain ⟨m, hm, rfl⟩ := inA_of hx_m (by omega)
        rw [nI_int (by omega)] at *
        obtain ⟨bs1, bs2, bs3⟩ := bS j (by omega)
        refine WP.run (pc' := 32) (L' := [.ref 0, .int (nI j), .int (nI m)]) (st' := [.int (nI j), .ref 248]) (I1 := I) 4 rfl ?_
        refine WP.iald rfl rfl rfl (by omega) (by decide) ?_
        refine WP.cg (st' := [.int (nI (N (9 + j)))]) rfl (congrArg (fun z : Int32 => (.int z :: [] : List Value)) (hT.a1 (k := j) (by omega))) rfl ?_
        refine WP.run (pc' := 34) (L' := [.ref 0, .int (nI j), .int (nI m)]) (st' := [.int (nI m), .int (nI (N (9 + j)))]) (I1 := I) 1 rfl ?_
        refine WP.callV (rest := []) rfl rfl (sp_isOfKind (d := d) (a := N (9 + j)) (b := m) (by omega) (by omega)) ?_
        by_cases hof : ofN (N (9 + j)) m = true
        · refine WP.cg (st' := [.int (nI 1)]) rfl (by rw [hof]; rfl) rfl ?_
          refine WP.run (pc' := 42) (L' := [.ref 0, .int (nI j), .int (nI m)]) (st' := [.int (nI j), .ref 0]) (I1 := I) 3 rfl ?_
          refine WP.callV (rest := []) rfl rfl (sp_fine (d := d) (I := I) (x := (nI j))) ?_
          refine WP.run (pc' := 53) (L' := [.ref 0, .int (nI j), .int (nI m)]) (st' := [.int (nI j)]) (I1 := (upN I 0 9 (nI 0))) 1 rfl ?_
          exact WP.ret rfl rfl (by
                      have e : nAs N R (nI j) (nI m) = ((nI j), stR R (nI 0)) := by (unfold nAs; (repeat rw [nOf_nI (by omega)]); (repeat first | rw [if_pos (by first | assumption | omega | (refine inA_iff.mpr ?_; omega) | (intro q; have q2 := inA_iff.mp q; omega) | (intro q; omega) | (refine ⟨?_, ?_⟩ <;> rw [nI_int (by omega)] <;> omega) | (rw [nI_int (by omega)]; omega) | (intro q; rw [nI_int (by omega)] at q; omega) | (refine ⟨?_, ?_, ?_⟩ <;> omega) | (intro q; obtain ⟨q1, q2, q3⟩ := q; omega) | fail)] | rw [if_neg (by first | assumption | omega | (refine inA_iff.mpr ?_; omega) | (intro q; have q2 := inA_iff.mp q; omega) | (intro q; omega) | (refine ⟨?_, ?_⟩ <;> rw [nI_int (by omega)] <;> omega) | (rw [nI_int (by omega)]; omega) | (intro q; rw [nI_int (by omega)] at q; omega) | (refine ⟨?_, ?_, ?_⟩ <;> omega) | (intro q; obtain ⟨q1, q2, q3⟩ := q; omega) | fail)])) <;> rfl
                      rw [e]
                      exact ⟨rfl, (RowsC.stat hR), (Only.up Only.rfl_ (Or.inl ⟨rfl, rfl⟩))⟩)
        · refine WP.cg (st' := [.int (nI 0)]) rfl (by rw [show ofN (N (9 + j)) m = false from Bool.eq_false_iff.mpr hof]; rfl) rfl ?_
          refine WP.run (pc' := 50) (L' := [.ref 0, .int (nI j), .int (nI m)]) (st' := [.int (nI 3), .ref 0]) (I1 := I) 3 rfl ?_
          refine WP.callV (rest := []) rfl rfl (sp_found (d := d) (I := I) (x := 3)) ?_
          exact WP.ret rfl rfl (by
                      have e : nAs N R (nI j) (nI m) = ((-1000010 - nI 3), stR R (nI 3)) := by (unfold nAs; (repeat rw [nOf_nI (by omega)]); (repeat first | rw [if_pos (by first | assumption | omega | (refine inA_iff.mpr ?_; omega) | (intro q; have q2 := inA_iff.mp q; omega) | (intro q; omega) | (refine ⟨?_, ?_⟩ <;> rw [nI_int (by omega)] <;> omega) | (rw [nI_int (by omega)]; omega) | (intro q; rw [nI_int (by omega)] at q; omega) | (refine ⟨?_, ?_, ?_⟩ <;> omega) | (intro q; obtain ⟨q1, q2, q3⟩ := q; omega) | fail)] | rw [if_neg (by first | assumption | omega | (refine inA_iff.mpr ?_; omega) | (intro q; have q2 := inA_iff.mp q; omega) | (intro q; omega) | (refine ⟨?_, ?_⟩ <;> rw [nI_int (by omega)] <;> omega) | (rw [nI_int (by omega)]; omega) | (intro q; rw [nI_int (by omega)] at q; omega) | (refine ⟨?_, ?_, ?_⟩ <;> omega) | (intro q; obtain ⟨q1, q2, q3⟩ := q; omega) | fail)])) <;> rfl
                      rw [e]
                      exact ⟨rfl, (RowsC.stat hR), (Only.up Only.rfl_ (Or.inl ⟨rfl, rfl⟩))⟩)
      · have h3 : ¬ (k.toInt < 6) := fun q => h3 ((iLtL (n := 6) (by omega)).mpr q)
        refine WP.run (pc' := 23) (L' := [.ref 0, .int (nI j), .int k]) (st' := [.int (-1000001)]) (I1 := I) 1 rfl ?_
        exact WP.ret rfl rfl (by
                  have e : nAs N R (nI j) k = ((-1000001), R) := by (unfold nAs; (repeat rw [nOf_nI (by omega)]); (repeat first | rw [if_pos (by first | assumption | omega | (refine inA_iff.mpr ?_; omega) | (intro q; have q2 := inA_iff.mp q; omega) | (intro q; omega) | (refine ⟨?_, ?_⟩ <;> rw [nI_int (by omega)] <;> omega) | (rw [nI_int (by omega)]; omega) | (intro q; rw [nI_int (by omega)] at q; omega) | (refine ⟨?_, ?_, ?_⟩ <;> omega) | (intro q; obtain ⟨q1, q2, q3⟩ := q; omega) | fail)] | rw [if_neg (by first | assumption | omega | (refine inA_iff.mpr ?_; omega) | (intro q; have q2 := inA_iff.mp q; omega) | (intro q; omega) | (refine ⟨?_, ?_⟩ <;> rw [nI_int (by omega)] <;> omega) | (rw [nI_int (by omega)]; omega) | (intro q; rw [nI_int (by omega)] at q; omega) | (refine ⟨?_, ?_, ?_⟩ <;> omega) | (intro q; obtain ⟨q1, q2, q3⟩ := q; omega) | fail)])) <;> rfl
                  rw [e]
                  exact ⟨rfl, hR, Only.rfl_⟩)
  · refine WP.run (pc' := 23) (L' := [.ref 0, .int x, .int k]) (st' := [.int (-1000001)]) (I1 := I) 2 rfl ?_
    exact WP.ret rfl rfl (by
          have e : nAs N R x k = ((-1000001), R) := by (unfold nAs; (repeat rw [nOf_nI (by omega)]); (repeat first | rw [if_pos (by first | assumption | omega | (refine inA_iff.mpr ?_; omega) | (intro q; have q2 := inA_iff.mp q; omega) | (intro q; omega) | (refine ⟨?_, ?_⟩ <;> rw [nI_int (by omega)] <;> omega) | (rw [nI_int (by omega)]; omega) | (intro q; rw [nI_int (by omega)] at q; omega) | (refine ⟨?_, ?_, ?_⟩ <;> omega) | (intro q; obtain ⟨q1, q2, q3⟩ := q; omega) | fail)] | rw [if_neg (by first | assumption | omega | (refine inA_iff.mpr ?_; omega) | (intro q; have q2 := inA_iff.mp q; omega) | (intro q; omega) | (refine ⟨?_, ?_⟩ <;> rw [nI_int (by omega)] <;> omega) | (rw [nI_int (by omega)]; omega) | (intro q; rw [nI_int (by omega)] at q; omega) | (refine ⟨?_, ?_, ?_⟩ <;> omega) | (intro q; obtain ⟨q1, q2, q3⟩ := q; omega) | fail)])) <;> rfl
          rw [e]
          exact ⟨rfl, hR, Only.rfl_⟩)
