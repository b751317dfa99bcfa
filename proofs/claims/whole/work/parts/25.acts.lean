/-! places, findings, acts -/
theorem z_toInt : (0 : Int32).toInt = 0 := rfl
theorem sz_sub {sz n : Int32} (h : sz.toInt ≤ 40) (h0 : 0 ≤ n.toInt) (h1 : n.toInt ≤ sz.toInt) : (sz - n).toInt = sz.toInt - n.toInt := by
  obtain ⟨a, ha, rfl⟩ := inA_of (n := 41) (inA_iff.mpr ⟨h0, by omega⟩) (by decide)
  obtain ⟨b, hb, rfl⟩ := inA_of (n := 41) (x := sz) (inA_iff.mpr ⟨by omega, by omega⟩) (by decide)
  rw [pk_sub_toInt (by omega) (by omega), nI_int (by omega), nI_int (by omega)]
theorem hp_t {i n sz : Int32} (hs : sz.toInt ≤ 40) (h1 : ¬ i < 0) (h2 : ¬ n < 0) (h3 : ¬ sz < n) (h4 : ¬ sz - n < i) : 0 ≤ i.toInt ∧ 0 ≤ n.toInt ∧ i.toInt + n.toInt ≤ sz.toInt := by
  rw [lt_iff_, z_toInt] at h1 h2
  rw [lt_iff_] at h3 h4
  rw [sz_sub hs (by omega) (by omega)] at h4
  omega
theorem hp_f1 {i n sz : Int32} (h : i < 0) : ¬ (0 ≤ i.toInt ∧ 0 ≤ n.toInt ∧ i.toInt + n.toInt ≤ sz.toInt) := by
  rw [lt_iff_, z_toInt] at h
  omega
theorem hp_f2 {i n sz : Int32} (h : n < 0) : ¬ (0 ≤ i.toInt ∧ 0 ≤ n.toInt ∧ i.toInt + n.toInt ≤ sz.toInt) := by
  rw [lt_iff_, z_toInt] at h
  omega
theorem hp_f3 {i n sz : Int32} (h : sz < n) : ¬ (0 ≤ i.toInt ∧ 0 ≤ n.toInt ∧ i.toInt + n.toInt ≤ sz.toInt) := by
  rw [lt_iff_] at h
  omega
theorem hp_f4 {i n sz : Int32} (hs : sz.toInt ≤ 40) (h2 : ¬ n < 0) (h3 : ¬ sz < n) (h : sz - n < i) : ¬ (0 ≤ i.toInt ∧ 0 ≤ n.toInt ∧ i.toInt + n.toInt ≤ sz.toInt) := by
  rw [lt_iff_, z_toInt] at h2
  rw [lt_iff_] at h3 h
  rw [sz_sub hs (by omega) (by omega)] at h
  omega
set_option maxRecDepth 100000 in
theorem sp_hasPlaces {d : Nat} {I : Pl} {r : Nat} {i n : Int32} (hr : r < 8) (hs : (I 12 r).toInt ≤ 40) : Ev (d + 1) 59 [.ref 1, .int (nI r), .int i, .int n] (mem I) (some (.int (b2i (0 ≤ i.toInt ∧ 0 ≤ n.toInt ∧ i.toInt + n.toInt ≤ (I 12 r).toInt)))) (mem I) := by
  refine Ev.only (EvX.enter rfl rfl rfl ?_)
  refine WP.run (pc' := if i < 0 then 34 else 4) (L' := [.ref 1, .int (nI r), .int i, .int n]) (st' := []) (I1 := I) 2 rfl ?_
  refine WP.br (fun h1 => ?_) (fun h1 => ?_)
  · refine WP.run (pc' := 35) (L' := [.ref 1, .int (nI r), .int i, .int n]) (st' := [.int (nI 0)]) (I1 := I) 1 rfl ?_
    exact WP.ret rfl rfl (⟨congrArg (fun z : Int32 => some (Value.int z)) (b2iF (by first | exact hp_f1 (by assumption) | exact hp_f2 (by assumption) | exact hp_f3 (by assumption) | exact hp_f4 hs (by assumption) (by assumption) (by assumption))).symm, rfl⟩)
  · refine WP.run (pc' := if n < 0 then 34 else 8) (L' := [.ref 1, .int (nI r), .int i, .int n]) (st' := []) (I1 := I) 2 rfl ?_
    refine WP.br (fun h2 => ?_) (fun h2 => ?_)
    · refine WP.run (pc' := 35) (L' := [.ref 1, .int (nI r), .int i, .int n]) (st' := [.int (nI 0)]) (I1 := I) 1 rfl ?_
      exact WP.ret rfl rfl (⟨congrArg (fun z : Int32 => some (Value.int z)) (b2iF (by first | exact hp_f1 (by assumption) | exact hp_f2 (by assumption) | exact hp_f3 (by assumption) | exact hp_f4 hs (by assumption) (by assumption) (by assumption))).symm, rfl⟩)
    · refine WP.run (pc' := 14) (L' := [.ref 1, .int (nI r), .int i, .int n]) (st' := [.int (nI r), .ref 12, .int n]) (I1 := I) 4 rfl ?_
      refine WP.iald rfl rfl rfl (by omega) (by decide) ?_
      refine WP.run (pc' := if (I 12 r) < n then 34 else 18) (L' := [.ref 1, .int (nI r), .int i, .int n]) (st' := []) (I1 := I) 1 rfl ?_
      refine WP.br (fun h3 => ?_) (fun h3 => ?_)
      · refine WP.run (pc' := 35) (L' := [.ref 1, .int (nI r), .int i, .int n]) (st' := [.int (nI 0)]) (I1 := I) 1 rfl ?_
        exact WP.ret rfl rfl (⟨congrArg (fun z : Int32 => some (Value.int z)) (b2iF (by first | exact hp_f1 (by assumption) | exact hp_f2 (by assumption) | exact hp_f3 (by assumption) | exact hp_f4 hs (by assumption) (by assumption) (by assumption))).symm, rfl⟩)
      · refine WP.run (pc' := 24) (L' := [.ref 1, .int (nI r), .int i, .int n]) (st' := [.int (nI r), .ref 12, .int i]) (I1 := I) 4 rfl ?_
        refine WP.iald rfl rfl rfl (by omega) (by decide) ?_
        refine WP.run (pc' := if ((I 12 r) - n) < i then 34 else 30) (L' := [.ref 1, .int (nI r), .int i, .int n]) (st' := []) (I1 := I) 3 rfl ?_
        refine WP.br (fun h4 => ?_) (fun h4 => ?_)
        · refine WP.run (pc' := 35) (L' := [.ref 1, .int (nI r), .int i, .int n]) (st' := [.int (nI 0)]) (I1 := I) 1 rfl ?_
          exact WP.ret rfl rfl (⟨congrArg (fun z : Int32 => some (Value.int z)) (b2iF (by first | exact hp_f1 (by assumption) | exact hp_f2 (by assumption) | exact hp_f3 (by assumption) | exact hp_f4 hs (by assumption) (by assumption) (by assumption))).symm, rfl⟩)
        · refine WP.run (pc' := 35) (L' := [.ref 1, .int (nI r), .int i, .int n]) (st' := [.int (nI 1)]) (I1 := I) 2 rfl ?_
          exact WP.ret rfl rfl (⟨congrArg (fun z : Int32 => some (Value.int z)) (b2iT (hp_t hs (by assumption) (by assumption) (by assumption) (by assumption))).symm, rfl⟩)
set_option maxRecDepth 100000 in
theorem sp_found {d : Nat} {I : Pl} {x : Nat} : Ev (d + 1) 80 [.ref 0, .int (nI x)] (mem I) (some (.int (-1000010 - nI x))) (mem (upN I 0 9 (nI x))) := by
  refine Ev.only (EvX.enter rfl rfl rfl ?_)
  refine WP.run (pc' := 10) (L' := [.ref 0, .int (nI x)]) (st' := [.int ((-1000010) - (nI x))]) (I1 := (upN I 0 9 (nI x))) 6 rfl ?_
  exact WP.ret rfl rfl (⟨rfl, rfl⟩)
set_option maxRecDepth 100000 in
theorem sp_fine {d : Nat} {I : Pl} {x : Int32} : Ev (d + 1) 81 [.ref 0, .int x] (mem I) (some (.int x)) (mem (upN I 0 9 (nI 0))) := by
  refine Ev.only (EvX.enter rfl rfl rfl ?_)
  refine WP.run (pc' := 6) (L' := [.ref 0, .int x]) (st' := [.int x]) (I1 := (upN I 0 9 (nI 0))) 4 rfl ?_
  exact WP.ret rfl rfl (⟨rfl, rfl⟩)
set_option maxRecDepth 100000 in
theorem sp_actsForget {d : Nat} {I : Pl}  : Ev (d + 1) 5 [.ref 31] (mem I) (none) (mem (upN (upN I 31 1 (nI 0)) 31 2 (nI 0))) := by
  refine Ev.only (EvX.enter rfl rfl rfl ?_)
  refine WP.run (pc' := 10) (L' := [.ref 31]) (st' := []) (I1 := (upN (upN I 31 1 (nI 0)) 31 2 (nI 0))) 6 rfl ?_
  exact WP.ret rfl rfl (⟨rfl, rfl⟩)
/-- nothing planned of the first k -/
def fgN (I : Pl) : Nat → Pl
  | 0 => I
  | k + 1 => upN (fgN I k) 226 k (nI 0)
set_option maxRecDepth 100000 in
theorem lp_forget {d : Nat} {I : Pl}  : ∀ k, k ≤ 4 → WP d (23, 2, none, sc0) 7 [.ref 225, .int (nI k)] [] (fgN I k) (fun v J => v = none ∧ J = fgN I 4) := by
  refine loopUp (fun k hk ih => ?_)
  refine WP.run (pc' := if (nI 3) < (nI k) then 25 else 12) (L' := [.ref 225, .int (nI k)]) (st' := []) (I1 := (fgN I k)) 3 rfl ?_
  refine WP.br (fun h1 => ?_) (fun h1 => ?_)
  · have h1 : 3 < k := nI_lt_ (by omega) (by omega) h1
    exact WP.ret rfl rfl (⟨rfl, by rw [show k = 4 by omega]⟩)
  · have h1 : ¬ 3 < k := fun q => h1 (nI_lt_r (by omega) q)
    refine WP.run (pc' := 18) (L' := [.ref 225, .int (nI k)]) (st' := [.int (nI 0), .int (nI k), .ref 226]) (I1 := (fgN I k)) 4 rfl ?_
    refine WP.bast rfl rfl rfl (by omega) (by decide) (by decide) ?_
    refine WP.run (pc' := 22) (L' := [.ref 225, .int ((nI k) + nI 1)]) (st' := []) (I1 := (upN (fgN I k) 226 k (nI 0))) 1 rfl ?_
    refine WP.cg (L' := [.ref 225, .int (nI (k + 1))]) (congrArg (fun z : Int32 => ([.ref 225, .int z] : List Value)) (nI_add k 1)) rfl rfl ?_
    refine WP.run (pc' := 7) (L' := [.ref 225, .int (nI (k + 1))]) (st' := []) (I1 := (upN (fgN I k) 226 k (nI 0))) 1 rfl ?_
    refine WP.cg (L' := [.ref 225, .int (nI (k + 1))]) rfl rfl rfl (ih (by omega))
set_option maxRecDepth 100000 in
theorem sp_forget {d : Nat} {I : Pl}  : Ev (d + 1) 23 [.ref 225] (mem I) (none) (mem (fgN (upN I 225 8 (nI 0)) 4)) := by
  refine Ev.only (EvX.enter rfl rfl rfl ?_)
  refine WP.run (pc' := 7) (L' := [.ref 225, .int (nI 0)]) (st' := []) (I1 := (upN I 225 8 (nI 0))) 5 rfl ?_
  exact lp_forget (I := upN I 225 8 (nI 0)) 0 (Nat.zero_le _)
