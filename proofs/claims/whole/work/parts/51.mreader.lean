/-! the reference's reader -/
def RmB (I : Pl) (T : TpS) (M : Nat → Nat) (p : Nat) : Prop := I 271 11 = nI p ∧ Tm I 141 M ∧ TpM I T ∧ p ≤ T.1 ∧ T.1 ≤ 120 ∧ ∀ i, i < T.1 → T.2 i < 256
def PM (K : Pl) (T : TpS) (s : Nat × Nat) (M : Nat → Nat) : Prop := (s.2 = 0 → RmB K T M s.1) ∧ (¬ s.2 = 0 → K 271 12 = nI s.1 ∧ K 271 13 = nI s.2)
def mrP (o k : Nat) : Prop := (o = 271 ∧ 11 ≤ k ∧ k ≤ 14) ∨ (o = 272 ∧ 141 ≤ k ∧ k < 188)
section RMB
variable {I J : Pl} {T : TpS} {M : Nat → Nat} {p : Nat} {v : Int32}
theorem RmB.a (h : RmB I T M p) : I 271 11 = nI p := h.1
theorem RmB.m (h : RmB I T M p) : Tm I 141 M := h.2.1
theorem RmB.n (h : RmB I T M p) : I 271 9 = nI T.1 := h.2.2.1.1
theorem RmB.b (h : RmB I T M p) {i : Nat} (hi : i < T.1) : I 278 i = nI (T.2 i) := h.2.2.1.2 i hi
theorem RmB.lp (h : RmB I T M p) : p ≤ T.1 := h.2.2.2.1
theorem RmB.ln (h : RmB I T M p) : T.1 ≤ 120 := h.2.2.2.2.1
theorem RmB.lb (h : RmB I T M p) {i : Nat} (hi : i < T.1) : T.2 i < 256 := h.2.2.2.2.2 i hi
theorem RmB.w (h : RmB I T M p) {k : Nat} (hk : k = 12 ∨ k = 13 ∨ k = 14) : RmB (upN I 271 k v) T M p := ⟨by rw [upN_nk (by omega)]; exact h.a, fun i hi => by rw [upN_no (by decide)]; exact h.m i hi, ⟨by rw [upN_nk (by omega)]; exact h.n, fun i hi => by rw [upN_no (by decide)]; exact h.b hi⟩, h.lp, h.ln, fun i hi => h.lb hi⟩
theorem RmB.at_ (h : RmB I T M p) {q : Nat} (hq : q ≤ T.1) : RmB (upN I 271 11 (nI q)) T M q := ⟨upN_s, fun i hi => by rw [upN_no (by decide)]; exact h.m i hi, ⟨by rw [upN_nk (by omega)]; exact h.n, fun i hi => by rw [upN_no (by decide)]; exact h.b hi⟩, hq, h.ln, fun i hi => h.lb hi⟩
theorem RmB.set (h : RmB I T M p) {i k x : Nat} (hi : i = 141 + k) (hk : k < 47) : RmB (upN I 272 i (nI x)) T (setN M k x) p := by
  subst hi
  refine ⟨by rw [upN_no (by decide)]; exact h.a, fun j hj => ?_, ⟨by rw [upN_no (by decide)]; exact h.n, fun i hi => by rw [upN_no (by decide)]; exact h.b hi⟩, h.lp, h.ln, fun i hi => h.lb hi⟩
  by_cases q : j = k
  · rw [q, upN_s, setN_s]
  · rw [upN_nk (by omega), setN_o q]
    exact h.m j hj
theorem PM.bad {K : Pl} {s : Nat × Nat} {M2 : Nat → Nat} (h : PM K T s M) (hs : ¬ s.2 = 0) : PM K T s M2 := ⟨fun q => absurd q hs, h.2⟩
end RMB
theorem rtn_b {c : Prop} [Decidable c] : rtn (some .boolean) .ireturn [.int (b2i c)] = some (some (.int (b2i c))) := by
  unfold rtn
  by_cases h : c
  · rw [b2iT h]
    rfl
  · rw [b2iF h]
    rfl
theorem sp_inN {d : Nat} {I : Pl} {v lo hi : Nat} (hv : v < 2 ^ 31) (hlo : lo < 2 ^ 31) (hhi : hi < 2 ^ 31) : Ev (d + 1) 124 [.long (nI v).toInt64, .long (nI lo).toInt64, .long (nI hi).toInt64] (mem I) (some (.int (b2i (lo ≤ v ∧ v ≤ hi)))) (mem I) := by
  have e : b2i (lo ≤ v ∧ v ≤ hi) = b2i ((nI lo).toInt64.toInt ≤ (nI v).toInt64.toInt ∧ (nI v).toInt64.toInt ≤ (nI hi).toInt64.toInt) := b2i_cg (by
    rw [Int32.toInt_toInt64, Int32.toInt_toInt64, Int32.toInt_toInt64, nI_int hv, nI_int hlo, nI_int hhi]
    omega)
  rw [e]
  exact sp_in
set_option maxRecDepth 100000 in
theorem ms_byteAt {d : Nat} {I : Pl} {T : TpS} {M : Nat → Nat} {p q : Nat} (hB : RmB I T M p) (hq : q < 1000) : Ev (d + 1) 137 [.ref 271, .int (nI q)] (mem I) (some (.int (hV T q))) (mem I) := by
  have h120 := hB.ln
  refine Ev.only (EvX.enter rfl rfl rfl ?_)
  refine WP.run (pc' := 5) (L' := [.ref 271, .int (nI q)]) (st' := [.int (I 271 9), .int (nI q)]) (I1 := I) 3 rfl ?_
  refine WP.cg (st' := [.int (nI T.1), .int (nI q)]) rfl (congrArg (fun z : Int32 => (.int z :: [.int (nI q)] : List Value)) ((RmB.n hB))) rfl ?_
  refine WP.run (pc' := if (nI T.1) ≤ (nI q) then 17 else 8) (L' := [.ref 271, .int (nI q)]) (st' := []) (I1 := I) 1 rfl ?_
  refine WP.br (fun h1 => ?_) (fun h1 => ?_)
  · have h1 : T.1 ≤ q := nI_le_ (by omega) (by omega) h1
    refine WP.run (pc' := 18) (L' := [.ref 271, .int (nI q)]) (st' := [.int (-1)]) (I1 := I) 1 rfl ?_
    exact WP.ret rfl rfl (⟨by unfold hV; first | rw [if_pos (by omega)] | rw [if_neg (by omega)], rfl⟩)
  · have h1 : ¬ T.1 ≤ q := fun q => h1 (nI_le_r (by omega) q)
    refine WP.run (pc' := 13) (L' := [.ref 271, .int (nI q)]) (st' := [.int (nI q), .ref 278]) (I1 := I) 3 rfl ?_
    refine WP.iald rfl rfl rfl (by omega) (by decide) ?_
    refine WP.cg (st' := [.int (nI (T.2 q))]) rfl (congrArg (fun z : Int32 => (.int z :: [] : List Value)) ((RmB.b hB (i := q) (by omega)))) rfl ?_
    refine WP.run (pc' := 18) (L' := [.ref 271, .int (nI q)]) (st' := [.int (nI (T.2 q))]) (I1 := I) 1 rfl ?_
    exact WP.ret rfl rfl (⟨by unfold hV; first | rw [if_pos (by omega)] | rw [if_neg (by omega)], rfl⟩)
theorem hV_fig {T : TpS} {p k : Nat} (hb : ∀ i, i < T.1 → T.2 i < 256) : inR (hV T (p + k)) 48 57 ↔ fgB T p k = true := by
  unfold hV
  by_cases h : p + k < T.1
  · rw [if_pos h]
    have := hb _ h
    constructor
    · intro q
      have q1 := q.1
      have q2 := q.2
      rw [nI_int (by omega)] at q1 q2
      exact fgB_t h (by omega) (by omega)
    · intro q
      have q1 := fgB_i q
      refine ⟨?_, ?_⟩ <;> rw [nI_int (by omega)] <;> omega
  · rw [if_neg h]
    constructor
    · intro q
      have q1 := q.1
      rw [show ((-1 : Int32)).toInt = -1 from rfl] at q1
      omega
    · intro q
      exact absurd (fgB_i q).1 h
set_option maxRecDepth 100000 in
theorem ms_isFig {d : Nat} {I : Pl} {T : TpS} {M : Nat → Nat} {p k : Nat} (hB : RmB I T M p) (hk : p + k < 1000) : Ev (d + 2) 138 [.ref 271, .int (nI (p + k))] (mem I) (some (.int (b2i (fgB T p k = true)))) (mem I) := by
  have h120 := hB.ln
  refine Ev.only (EvX.enter rfl rfl rfl ?_)
  refine WP.run (pc' := 2) (L' := [.ref 271, .int (nI (p + k))]) (st' := [.int (nI (p + k)), .ref 271]) (I1 := I) 2 rfl ?_
  refine WP.callV (rest := []) rfl rfl (ms_byteAt (d := d) (q := p + k) hB (by omega)) ?_
  refine WP.run (pc' := 12) (L' := [.ref 271, .int (nI (p + k))]) (st' := [.long (57 : Int64), .long (48 : Int64), .long ((hV T (p + k)).toInt64)]) (I1 := I) 3 rfl ?_
  refine WP.callB (rest := []) rfl rfl (sp_inR (d := d) (x := (hV T (p + k))) (lo := (48 : Int64)) (hi := (57 : Int64)) (a := 48) (b := 57) rfl rfl) (fun h1 => ?_) (fun h1 => ?_)
  · exact WP.ret rfl rfl (⟨b2i01 (b2iT ((hV_fig (fun i hi => hB.lb hi)).mp (by assumption))), rfl⟩)
  · exact WP.ret rfl rfl (⟨b2i01 (b2iF (fun q => absurd ((hV_fig (fun i hi => hB.lb hi)).mpr q) (by assumption))), rfl⟩)
set_option maxRecDepth 100000 in
theorem ms_takes {d : Nat} {I : Pl} {T : TpS} {s : Nat × Nat} {M : Nat → Nat} (hB : RmB I T M s.1) (hs : s.2 = 0) {c : Nat} (hc : c < 200) : EvX (d + 2) 139 [.ref 271, .int (nI c)] I (fun v K => v = some (.int (b2i ((rdSign T c s).2 = 0))) ∧ PM K T (rdSign T c s) M ∧ Only I K mrP) := by
  have h120 := hB.ln
  have hlp := hB.lp
  refine EvX.enter rfl rfl rfl ?_
  refine WP.run (pc' := 5) (L' := [.ref 271, .int (nI c), UU]) (st' := [.int (I 271 11), .ref 271]) (I1 := I) 3 rfl ?_
  refine WP.cg (st' := [.int (nI s.1), .ref 271]) rfl (congrArg (fun z : Int32 => (.int z :: [.ref 271] : List Value)) ((RmB.a hB))) rfl ?_
  refine WP.run (pc' := 18) (L' := [.ref 271, .int (nI c), UU]) (st' := [.int (I 271 11), .ref 271]) (I1 := (upN (upN I 271 12 (nI s.1)) 271 13 (nI 1))) 7 rfl ?_
  refine WP.cg (st' := [.int (nI s.1), .ref 271]) rfl (congrArg (fun z : Int32 => (.int z :: [.ref 271] : List Value)) ((RmB.a hB))) rfl ?_
  refine WP.callV (rest := []) rfl rfl (ms_byteAt (d := d) (q := s.1) (RmB.w (RmB.w hB (k := 12) (by decide)) (k := 13) (by decide)) (by omega)) ?_
  refine WP.run (pc' := 22) (L' := [.ref 271, .int (nI c), UU]) (st' := [.int (nI c), .int (hV T s.1)]) (I1 := (upN (upN I 271 12 (nI s.1)) 271 13 (nI 1))) 1 rfl ?_
  by_cases hp : s.1 < T.1
  · have hb := hB.lb hp
    refine WP.cg (st' := [.int (nI c), .int (nI (T.2 s.1))]) rfl (by rw [show hV T s.1 = nI (T.2 s.1) from if_pos hp]) rfl ?_
    refine WP.run (pc' := if ¬ (nI (T.2 s.1)) = (nI c) then 29 else 25) (L' := [.ref 271, .int (nI c), UU]) (st' := []) (I1 := (upN (upN I 271 12 (nI s.1)) 271 13 (nI 1))) 1 rfl ?_
    refine WP.br (fun h1 => ?_) (fun h1 => ?_)
    · have h1 : ¬ T.2 s.1 = c := fun q => h1 (nI_eq_r q)
      refine WP.run (pc' := 36) (L' := [.ref 271, .int (nI c), .int (nI 0)]) (st' := [.int (I 271 11), .ref 271]) (I1 := (upN (upN I 271 12 (nI s.1)) 271 13 (nI 1))) 5 rfl ?_
      refine WP.cg (st' := [.int (nI s.1), .ref 271]) rfl (congrArg (fun z : Int32 => (.int z :: [.ref 271] : List Value)) ((RmB.a hB))) rfl ?_
      refine WP.run (pc' := 46) (L' := [.ref 271, .int (nI c), .int (nI 0)]) (st' := [.int ((nI s.1) + (nI 0)), .ref 271]) (I1 := (upN (upN I 271 12 (nI s.1)) 271 13 (nI 1))) 4 rfl ?_
      refine WP.cg (st' := [.int (nI (s.1 + 0)), .ref 271]) rfl (congrArg (fun z : Int32 => (.int z :: [.ref 271] : List Value)) (nI_add s.1 0)) rfl ?_
      refine WP.run (pc' := 50) (L' := [.ref 271, .int (nI c), .int (nI 0)]) (st' := [.int (nI 0)]) (I1 := (upN (upN (upN I 271 12 (nI s.1)) 271 13 (nI 1)) 271 11 (nI (s.1 + 0)))) 2 rfl ?_
      exact WP.ret rfl rfl (by
              rw [show rdSign T c s = (s.1, 1) by (unfold rdSign; (repeat first | rw [if_pos (by first | assumption | omega | (refine inA_iff.mpr ?_; omega) | (intro q; have q2 := inA_iff.mp q; omega) | (intro q; omega) | (refine ⟨?_, ?_⟩ <;> rw [nI_int (by omega)] <;> omega) | (rw [nI_int (by omega)]; omega) | (intro q; rw [nI_int (by omega)] at q; omega) | (refine ⟨?_, ?_, ?_⟩ <;> omega) | (intro q; obtain ⟨q1, q2, q3⟩ := q; omega) | fail)] | rw [if_neg (by first | assumption | omega | (refine inA_iff.mpr ?_; omega) | (intro q; have q2 := inA_iff.mp q; omega) | (intro q; omega) | (refine ⟨?_, ?_⟩ <;> rw [nI_int (by omega)] <;> omega) | (rw [nI_int (by omega)]; omega) | (intro q; rw [nI_int (by omega)] at q; omega) | (refine ⟨?_, ?_, ?_⟩ <;> omega) | (intro q; obtain ⟨q1, q2, q3⟩ := q; omega) | fail)])) <;> rfl]
              exact ⟨congrArg (fun z : Int32 => some (Value.int z)) (b2iF (by dsimp only; decide)).symm, ⟨fun q => absurd q (by dsimp only; decide), fun _ => ⟨by rw [upN_nk (by decide), upN_nk (by decide), upN_s], by rw [upN_nk (by decide), upN_s]⟩⟩, (Only.up (Only.up (Only.up Only.rfl_ (Or.inl ⟨rfl, by decide, by decide⟩)) (Or.inl ⟨rfl, by decide, by decide⟩)) (Or.inl ⟨rfl, by decide, by decide⟩))⟩)
    · have h1 : T.2 s.1 = c := nI_eq_ (by omega) (by omega) (Decidable.byContradiction h1)
      refine WP.run (pc' := 36) (L' := [.ref 271, .int (nI c), .int (nI 1)]) (st' := [.int (I 271 11), .ref 271]) (I1 := (upN (upN I 271 12 (nI s.1)) 271 13 (nI 1))) 6 rfl ?_
      refine WP.cg (st' := [.int (nI s.1), .ref 271]) rfl (congrArg (fun z : Int32 => (.int z :: [.ref 271] : List Value)) ((RmB.a hB))) rfl ?_
      refine WP.run (pc' := 46) (L' := [.ref 271, .int (nI c), .int (nI 1)]) (st' := [.int ((nI s.1) + (nI 1)), .ref 271]) (I1 := (upN (upN I 271 12 (nI s.1)) 271 13 (nI 1))) 5 rfl ?_
      refine WP.cg (st' := [.int (nI (s.1 + 1)), .ref 271]) rfl (congrArg (fun z : Int32 => (.int z :: [.ref 271] : List Value)) (nI_add s.1 1)) rfl ?_
      refine WP.run (pc' := 50) (L' := [.ref 271, .int (nI c), .int (nI 1)]) (st' := [.int (nI 1)]) (I1 := (upN (upN (upN I 271 12 (nI s.1)) 271 13 (nI 1)) 271 11 (nI (s.1 + 1)))) 2 rfl ?_
      exact WP.ret rfl rfl (by
              rw [show rdSign T c s = (s.1 + 1, 0) by (unfold rdSign; (repeat first | rw [if_pos (by first | assumption | omega | (refine inA_iff.mpr ?_; omega) | (intro q; have q2 := inA_iff.mp q; omega) | (intro q; omega) | (refine ⟨?_, ?_⟩ <;> rw [nI_int (by omega)] <;> omega) | (rw [nI_int (by omega)]; omega) | (intro q; rw [nI_int (by omega)] at q; omega) | (refine ⟨?_, ?_, ?_⟩ <;> omega) | (intro q; obtain ⟨q1, q2, q3⟩ := q; omega) | fail)] | rw [if_neg (by first | assumption | omega | (refine inA_iff.mpr ?_; omega) | (intro q; have q2 := inA_iff.mp q; omega) | (intro q; omega) | (refine ⟨?_, ?_⟩ <;> rw [nI_int (by omega)] <;> omega) | (rw [nI_int (by omega)]; omega) | (intro q; rw [nI_int (by omega)] at q; omega) | (refine ⟨?_, ?_, ?_⟩ <;> omega) | (intro q; obtain ⟨q1, q2, q3⟩ := q; omega) | fail)])) <;> rfl]
              exact ⟨congrArg (fun z : Int32 => some (Value.int z)) (b2iT rfl).symm, ⟨fun _ => (RmB.at_ (RmB.w (RmB.w hB (k := 12) (by decide)) (k := 13) (by decide)) (q := s.1 + 1) (by omega)), fun q => absurd rfl q⟩, (Only.up (Only.up (Only.up Only.rfl_ (Or.inl ⟨rfl, by decide, by decide⟩)) (Or.inl ⟨rfl, by decide, by decide⟩)) (Or.inl ⟨rfl, by decide, by decide⟩))⟩)
  · refine WP.cg (st' := [.int (nI c), .int (-1)]) rfl (by rw [show hV T s.1 = -1 from if_neg hp]) rfl ?_
    refine WP.run (pc' := if ¬ (-1 : Int32) = nI c then 29 else 25) (L' := [.ref 271, .int (nI c), UU]) (st' := []) (I1 := (upN (upN I 271 12 (nI s.1)) 271 13 (nI 1))) 1 rfl ?_
    refine WP.brT (neg1_ne (by omega)) ?_
    refine WP.run (pc' := 36) (L' := [.ref 271, .int (nI c), .int (nI 0)]) (st' := [.int (I 271 11), .ref 271]) (I1 := (upN (upN I 271 12 (nI s.1)) 271 13 (nI 1))) 5 rfl ?_
    refine WP.cg (st' := [.int (nI s.1), .ref 271]) rfl (congrArg (fun z : Int32 => (.int z :: [.ref 271] : List Value)) ((RmB.a hB))) rfl ?_
    refine WP.run (pc' := 46) (L' := [.ref 271, .int (nI c), .int (nI 0)]) (st' := [.int ((nI s.1) + (nI 0)), .ref 271]) (I1 := (upN (upN I 271 12 (nI s.1)) 271 13 (nI 1))) 4 rfl ?_
    refine WP.cg (st' := [.int (nI (s.1 + 0)), .ref 271]) rfl (congrArg (fun z : Int32 => (.int z :: [.ref 271] : List Value)) (nI_add s.1 0)) rfl ?_
    refine WP.run (pc' := 50) (L' := [.ref 271, .int (nI c), .int (nI 0)]) (st' := [.int (nI 0)]) (I1 := (upN (upN (upN I 271 12 (nI s.1)) 271 13 (nI 1)) 271 11 (nI (s.1 + 0)))) 2 rfl ?_
    exact WP.ret rfl rfl (by
          rw [show rdSign T c s = (s.1, 1) by (unfold rdSign; (repeat first | rw [if_pos (by first | assumption | omega | (refine inA_iff.mpr ?_; omega) | (intro q; have q2 := inA_iff.mp q; omega) | (intro q; omega) | (refine ⟨?_, ?_⟩ <;> rw [nI_int (by omega)] <;> omega) | (rw [nI_int (by omega)]; omega) | (intro q; rw [nI_int (by omega)] at q; omega) | (refine ⟨?_, ?_, ?_⟩ <;> omega) | (intro q; obtain ⟨q1, q2, q3⟩ := q; omega) | fail)] | rw [if_neg (by first | assumption | omega | (refine inA_iff.mpr ?_; omega) | (intro q; have q2 := inA_iff.mp q; omega) | (intro q; omega) | (refine ⟨?_, ?_⟩ <;> rw [nI_int (by omega)] <;> omega) | (rw [nI_int (by omega)]; omega) | (intro q; rw [nI_int (by omega)] at q; omega) | (refine ⟨?_, ?_, ?_⟩ <;> omega) | (intro q; obtain ⟨q1, q2, q3⟩ := q; omega) | fail)])) <;> rfl]
          exact ⟨congrArg (fun z : Int32 => some (Value.int z)) (b2iF (by dsimp only; decide)).symm, ⟨fun q => absurd q (by dsimp only; decide), fun _ => ⟨by rw [upN_nk (by decide), upN_nk (by decide), upN_s], by rw [upN_nk (by decide), upN_s]⟩⟩, (Only.up (Only.up (Only.up Only.rfl_ (Or.inl ⟨rfl, by decide, by decide⟩)) (Or.inl ⟨rfl, by decide, by decide⟩)) (Or.inl ⟨rfl, by decide, by decide⟩))⟩)
set_option maxRecDepth 100000 in
theorem lm_num {d : Nat} {I : Pl} {T : TpS} {s : Nat × Nat} {M : Nat → Nat} (hB : RmB I T M s.1) (hs : s.2 = 0) {lo hi : Nat} (hlo : lo < 1000) (hhi : hi < 1000) : ∀ k, k ≤ 120 → (∀ j, j < k → fgB T s.1 j = true) → ∀ J, RmB J T M s.1 → J 271 12 = nI s.1 → J 271 13 = nI 1 → J 271 14 = nI (nvk T s.1 (min k 2)) → Only I J mrP → WP (d + 2) (140, 7, (some .boolean), sc0) 20 [.ref 271, .int (nI lo), .int (nI hi), .int (nI k)] [] J (fun v K => v = some (.int (b2i ((rdNum T lo hi s).2.2 = 0))) ∧ PM K T (rdNum T lo hi s).2 M ∧ ((rdNum T lo hi s).2.2 = 0 → K 271 14 = nI (rdNum T lo hi s).1) ∧ Only I K mrP) := by
  refine loopUp (fun k hk ih => ?_)
  intro hall J hJ j12 j13 j14 hO
  have h120 := hB.ln
  have hlp := hB.lp
  obtain ⟨hv1, hv2, hv3⟩ := nvk_le (T := T) (p := s.1) (min k 2) (by omega) (fun j hj => hall j (by omega))
  refine WP.run (pc' := 25) (L' := [.ref 271, .int (nI lo), .int (nI hi), .int (nI k)]) (st' := [.int (J 271 11), .ref 271]) (I1 := J) 3 rfl ?_
  refine WP.cg (st' := [.int (nI s.1), .ref 271]) rfl (congrArg (fun z : Int32 => (.int z :: [.ref 271] : List Value)) ((RmB.a hJ))) rfl ?_
  refine WP.run (pc' := 27) (L' := [.ref 271, .int (nI lo), .int (nI hi), .int (nI k)]) (st' := [.int ((nI s.1) + (nI k)), .ref 271]) (I1 := J) 2 rfl ?_
  refine WP.cg (st' := [.int (nI (s.1 + k)), .ref 271]) rfl (congrArg (fun z : Int32 => (.int z :: [.ref 271] : List Value)) (nI_add s.1 k)) rfl ?_
  refine WP.callB (rest := []) rfl rfl (ms_isFig (d := d) (p := s.1) (k := k) hJ (by omega)) (fun h1 => ?_) (fun h1 => ?_)
  · refine WP.run (pc' := if (nI 2) ≤ (nI k) then 63 else 39) (L' := [.ref 271, .int (nI lo), .int (nI hi), .int (nI k)]) (st' := [.ref 271]) (I1 := J) 5 rfl ?_
    refine WP.br (fun h2 => ?_) (fun h2 => ?_)
    · have h2 : 2 ≤ k := nI_le_ (by omega) (by omega) h2
      refine WP.run (pc' := 67) (L' := [.ref 271, .int (nI lo), .int (nI hi), .int (nI k)]) (st' := [.int (J 271 14), .ref 271]) (I1 := J) 2 rfl ?_
      refine WP.cg (st' := [.int (nI (nvk T s.1 (min k 2))), .ref 271]) rfl (congrArg (fun z : Int32 => (.int z :: [.ref 271] : List Value)) (j14)) rfl ?_
      refine WP.run (pc' := 73) (L' := [.ref 271, .int (nI lo), .int (nI hi), .int ((nI k) + nI 1)]) (st' := []) (I1 := (upN J 271 14 (nI (nvk T s.1 (min k 2))))) 2 rfl ?_
      refine WP.cg (L' := [.ref 271, .int (nI lo), .int (nI hi), .int (nI (k + 1))]) (congrArg (fun z : Int32 => ([.ref 271, .int (nI lo), .int (nI hi), .int z] : List Value)) (nI_add k 1)) rfl rfl ?_
      refine WP.run (pc' := 20) (L' := [.ref 271, .int (nI lo), .int (nI hi), .int (nI (k + 1))]) (st' := []) (I1 := (upN J 271 14 (nI (nvk T s.1 (min k 2))))) 1 rfl ?_
      have hfg := fgB_i (T := T) (p := s.1) (j := k) (by assumption)
      refine WP.cg (L' := [.ref 271, .int (nI lo), .int (nI hi), .int (nI (k + 1))]) rfl rfl rfl (ih (by omega) (fun j hj => by
        by_cases q : j = k
        · rw [q]
          assumption
        · exact hall j (by omega)) _ (hJ.w (by decide)) (by rw [upN_nk (by decide)]; exact j12) (by rw [upN_nk (by decide)]; exact j13) (by
        rw [upN_s]
        first
        | rw [show min (k + 1) 2 = min k 2 by omega]
        | (rw [show min (k + 1) 2 = min k 2 + 1 by omega, show nvk T s.1 (min k 2 + 1) = 10 * nvk T s.1 (min k 2) + T.2 (s.1 + min k 2) - 48 from rfl, show min k 2 = k by omega])) (hO.up (Or.inl ⟨rfl, by decide, by decide⟩)))
    · have h2 : ¬ 2 ≤ k := fun q => h2 (nI_le_r (by omega) q)
      refine WP.run (pc' := 45) (L' := [.ref 271, .int (nI lo), .int (nI hi), .int (nI k)]) (st' := [.int (J 271 14), .int (nI 10), .ref 271]) (I1 := J) 3 rfl ?_
      refine WP.cg (st' := [.int (nI (nvk T s.1 (min k 2))), .int (nI 10), .ref 271]) rfl (congrArg (fun z : Int32 => (.int z :: [.int (nI 10), .ref 271] : List Value)) (j14)) rfl ?_
      refine WP.run (pc' := 46) (L' := [.ref 271, .int (nI lo), .int (nI hi), .int (nI k)]) (st' := [.int ((nI 10) * (nI (nvk T s.1 (min k 2)))), .ref 271]) (I1 := J) 1 rfl ?_
      refine WP.cg (st' := [.int (nI (10 * (nvk T s.1 (min k 2)))), .ref 271]) rfl (congrArg (fun z : Int32 => (.int z :: [.ref 271] : List Value)) (pk_mul 10 (nvk T s.1 (min k 2)))) rfl ?_
      refine WP.run (pc' := 51) (L' := [.ref 271, .int (nI lo), .int (nI hi), .int (nI k)]) (st' := [.int (J 271 11), .ref 271, .int (nI (10 * (nvk T s.1 (min k 2)))), .ref 271]) (I1 := J) 3 rfl ?_
      refine WP.cg (st' := [.int (nI s.1), .ref 271, .int (nI (10 * (nvk T s.1 (min k 2)))), .ref 271]) rfl (congrArg (fun z : Int32 => (.int z :: [.ref 271, .int (nI (10 * (nvk T s.1 (min k 2)))), .ref 271] : List Value)) ((RmB.a hJ))) rfl ?_
      refine WP.run (pc' := 53) (L' := [.ref 271, .int (nI lo), .int (nI hi), .int (nI k)]) (st' := [.int ((nI s.1) + (nI k)), .ref 271, .int (nI (10 * (nvk T s.1 (min k 2)))), .ref 271]) (I1 := J) 2 rfl ?_
      refine WP.cg (st' := [.int (nI (s.1 + k)), .ref 271, .int (nI (10 * (nvk T s.1 (min k 2)))), .ref 271]) rfl (congrArg (fun z : Int32 => (.int z :: [.ref 271, .int (nI (10 * (nvk T s.1 (min k 2)))), .ref 271] : List Value)) (nI_add s.1 k)) rfl ?_
      refine WP.callV (rest := [.int (nI (10 * (nvk T s.1 (min k 2)))), .ref 271]) rfl rfl (ms_byteAt (d := d + 1) (q := s.1 + k) hJ (by omega)) ?_
      have hfi := fgB_i (T := T) (p := s.1) (j := k) (by assumption)
      have hb9 := hB.lb hfi.1
      refine WP.cg (st' := [.int (nI (T.2 (s.1 + k))), .int (nI (10 * (nvk T s.1 (min k 2)))), .ref 271]) rfl (by rw [show hV T (s.1 + k) = nI (T.2 (s.1 + k)) from if_pos hfi.1]; rfl) rfl ?_
      refine WP.run (pc' := 57) (L' := [.ref 271, .int (nI lo), .int (nI hi), .int (nI k)]) (st' := [.int ((nI (10 * (nvk T s.1 (min k 2)))) + (nI (T.2 (s.1 + k)))), .ref 271]) (I1 := J) 1 rfl ?_
      refine WP.cg (st' := [.int (nI ((10 * (nvk T s.1 (min k 2))) + (T.2 (s.1 + k)))), .ref 271]) rfl (congrArg (fun z : Int32 => (.int z :: [.ref 271] : List Value)) (nI_add (10 * (nvk T s.1 (min k 2))) (T.2 (s.1 + k)))) rfl ?_
      refine WP.run (pc' := 60) (L' := [.ref 271, .int (nI lo), .int (nI hi), .int (nI k)]) (st' := [.int ((nI ((10 * (nvk T s.1 (min k 2))) + (T.2 (s.1 + k)))) - (nI 48)), .ref 271]) (I1 := J) 2 rfl ?_
      refine WP.cg (st' := [.int (nI (((10 * (nvk T s.1 (min k 2))) + (T.2 (s.1 + k))) - 48)), .ref 271]) rfl (congrArg (fun z : Int32 => (.int z :: [.ref 271] : List Value)) (pk_sub (a := (10 * (nvk T s.1 (min k 2))) + (T.2 (s.1 + k))) (b := 48) (by omega))) rfl ?_
      refine WP.run (pc' := 73) (L' := [.ref 271, .int (nI lo), .int (nI hi), .int ((nI k) + nI 1)]) (st' := []) (I1 := (upN J 271 14 (nI (((10 * (nvk T s.1 (min k 2))) + (T.2 (s.1 + k))) - 48)))) 3 rfl ?_
      refine WP.cg (L' := [.ref 271, .int (nI lo), .int (nI hi), .int (nI (k + 1))]) (congrArg (fun z : Int32 => ([.ref 271, .int (nI lo), .int (nI hi), .int z] : List Value)) (nI_add k 1)) rfl rfl ?_
      refine WP.run (pc' := 20) (L' := [.ref 271, .int (nI lo), .int (nI hi), .int (nI (k + 1))]) (st' := []) (I1 := (upN J 271 14 (nI (((10 * (nvk T s.1 (min k 2))) + (T.2 (s.1 + k))) - 48)))) 1 rfl ?_
      have hfg := fgB_i (T := T) (p := s.1) (j := k) (by assumption)
      refine WP.cg (L' := [.ref 271, .int (nI lo), .int (nI hi), .int (nI (k + 1))]) rfl rfl rfl (ih (by omega) (fun j hj => by
        by_cases q : j = k
        · rw [q]
          assumption
        · exact hall j (by omega)) _ (hJ.w (by decide)) (by rw [upN_nk (by decide)]; exact j12) (by rw [upN_nk (by decide)]; exact j13) (by
        rw [upN_s]
        first
        | rw [show min (k + 1) 2 = min k 2 by omega]
        | (rw [show min (k + 1) 2 = min k 2 + 1 by omega, show nvk T s.1 (min k 2 + 1) = 10 * nvk T s.1 (min k 2) + T.2 (s.1 + min k 2) - 48 from rfl, show min k 2 = k by omega])) (hO.up (Or.inl ⟨rfl, by decide, by decide⟩)))
  · refine WP.run (pc' := 76) (L' := [.ref 271, .int (nI lo), .int (nI hi), .int (nI k)]) (st' := []) (I1 := J) 1 rfl ?_
    have hnf : nfT T s.1 = min k 3 := nfT_eq (by omega) (fun j hj => hall j (by omega)) (by
      rcases Nat.lt_or_ge k 3 with q | q
      · right
        rw [show min k 3 = k by omega]
        exact Bool.eq_false_iff.mpr (by assumption)
      · exact Or.inl (by omega))
    have hin := nfT_in (T := T) (p := s.1) hlp
    refine WP.run (pc' := if (nI k) = 0 then 85 else 80) (L' := [.ref 271, .int (nI lo), .int (nI hi), .int (nI k)]) (st' := []) (I1 := J) 2 rfl ?_
    refine WP.br (fun h3 => ?_) (fun h3 => ?_)
    · have h3 : k = 0 := nI_eq_ (by omega) (by omega) h3
      refine WP.run (pc' := 86) (L' := [.ref 271, .int (nI lo), .int (nI hi), .int (nI k)]) (st' := [.int (nI 0)]) (I1 := J) 1 rfl ?_
      exact WP.ret rfl rfl (by
              first
              | (exfalso; omega)
              | (rw [show (rdNum T lo hi s) = (0, (s.1, 1)) by (unfold rdNum; rw [if_pos hs, hnf]; (repeat first | rw [if_pos (by first | assumption | omega | (refine inA_iff.mpr ?_; omega) | (intro q; have q2 := inA_iff.mp q; omega) | (intro q; omega) | (refine ⟨?_, ?_⟩ <;> rw [nI_int (by omega)] <;> omega) | (rw [nI_int (by omega)]; omega) | (intro q; rw [nI_int (by omega)] at q; omega) | (refine ⟨?_, ?_, ?_⟩ <;> omega) | (intro q; obtain ⟨q1, q2, q3⟩ := q; omega) | fail)] | rw [if_neg (by first | assumption | omega | (refine inA_iff.mpr ?_; omega) | (intro q; have q2 := inA_iff.mp q; omega) | (intro q; omega) | (refine ⟨?_, ?_⟩ <;> rw [nI_int (by omega)] <;> omega) | (rw [nI_int (by omega)]; omega) | (intro q; rw [nI_int (by omega)] at q; omega) | (refine ⟨?_, ?_, ?_⟩ <;> omega) | (intro q; obtain ⟨q1, q2, q3⟩ := q; omega) | fail)])) <;> rfl]
                 exact ⟨congrArg (fun z : Int32 => some (Value.int z)) (b2iF (by dsimp only; decide)).symm, ⟨fun q => absurd q (by dsimp only; decide), fun _ => ⟨j12, j13⟩⟩, fun q => absurd q (by dsimp only; decide), hO⟩))
    · have h3 : ¬ k = 0 := fun q => h3 (nI_eq_r q)
      refine WP.run (pc' := if (nI k) ≤ (nI 2) then 87 else 85) (L' := [.ref 271, .int (nI lo), .int (nI hi), .int (nI k)]) (st' := []) (I1 := J) 3 rfl ?_
      refine WP.br (fun h4 => ?_) (fun h4 => ?_)
      · have h4 : k ≤ 2 := nI_le_ (by omega) (by omega) h4
        refine WP.run (pc' := 92) (L' := [.ref 271, .int (nI lo), .int (nI hi), .int (nI k)]) (st' := [.int (J 271 11), .ref 271]) (I1 := J) 3 rfl ?_
        refine WP.cg (st' := [.int (nI s.1), .ref 271]) rfl (congrArg (fun z : Int32 => (.int z :: [.ref 271] : List Value)) ((RmB.a hJ))) rfl ?_
        refine WP.run (pc' := 94) (L' := [.ref 271, .int (nI lo), .int (nI hi), .int (nI k)]) (st' := [.int ((nI s.1) + (nI k)), .ref 271]) (I1 := J) 2 rfl ?_
        refine WP.cg (st' := [.int (nI (s.1 + k)), .ref 271]) rfl (congrArg (fun z : Int32 => (.int z :: [.ref 271] : List Value)) (nI_add s.1 k)) rfl ?_
        refine WP.run (pc' := 106) (L' := [.ref 271, .int (nI lo), .int (nI hi), .int (nI k)]) (st' := [.int (J 271 14)]) (I1 := (upN (upN J 271 11 (nI (s.1 + k))) 271 13 (nI 2))) 6 rfl ?_
        refine WP.cg (st' := [.int (nI (nvk T s.1 (min k 2)))]) rfl (congrArg (fun z : Int32 => (.int z :: [] : List Value)) (j14)) rfl ?_
        refine WP.run (pc' := 111) (L' := [.ref 271, .int (nI lo), .int (nI hi), .int (nI k)]) (st' := [.long ((nI hi).toInt64), .long ((nI lo).toInt64), .long ((nI (nvk T s.1 (min k 2))).toInt64)]) (I1 := (upN (upN J 271 11 (nI (s.1 + k))) 271 13 (nI 2))) 5 rfl ?_
        refine WP.callV (rest := []) rfl rfl (sp_inN (d := d + 1) (v := (nvk T s.1 (min k 2))) (lo := lo) (hi := hi) (by omega) (by omega) (by omega)) ?_
        exact WP.ret rfl rtn_b (by
                  have hmk : min k 2 = k := by omega
                  have hmk3 : min k 3 = k := by omega
                  rw [hmk3] at hnf
                  rw [hmk] at j14 ⊢
                  by_cases h1 : nvk T s.1 k < lo
                  · rw [show (rdNum T lo hi s) = (0, (s.1, 2)) by (unfold rdNum; rw [if_pos hs, hnf]; (repeat first | rw [if_pos (by first | assumption | omega | (refine inA_iff.mpr ?_; omega) | (intro q; have q2 := inA_iff.mp q; omega) | (intro q; omega) | (refine ⟨?_, ?_⟩ <;> rw [nI_int (by omega)] <;> omega) | (rw [nI_int (by omega)]; omega) | (intro q; rw [nI_int (by omega)] at q; omega) | (refine ⟨?_, ?_, ?_⟩ <;> omega) | (intro q; obtain ⟨q1, q2, q3⟩ := q; omega) | fail)] | rw [if_neg (by first | assumption | omega | (refine inA_iff.mpr ?_; omega) | (intro q; have q2 := inA_iff.mp q; omega) | (intro q; omega) | (refine ⟨?_, ?_⟩ <;> rw [nI_int (by omega)] <;> omega) | (rw [nI_int (by omega)]; omega) | (intro q; rw [nI_int (by omega)] at q; omega) | (refine ⟨?_, ?_, ?_⟩ <;> omega) | (intro q; obtain ⟨q1, q2, q3⟩ := q; omega) | fail)])) <;> rfl]
                    exact ⟨congrArg (fun z : Int32 => some (Value.int z)) ((b2iF (by omega)).trans (b2iF (by dsimp only; decide)).symm), ⟨fun q => absurd q (by dsimp only; decide), fun _ => ⟨by rw [upN_nk (by decide), upN_nk (by decide)]; exact j12, upN_s⟩⟩, fun q => absurd q (by dsimp only; decide), (Only.up (Only.up hO (Or.inl ⟨rfl, by decide, by decide⟩)) (Or.inl ⟨rfl, by decide, by decide⟩))⟩
                  · by_cases h2 : hi < nvk T s.1 k
                    · rw [show (rdNum T lo hi s) = (0, (s.1, 2)) by (unfold rdNum; rw [if_pos hs, hnf]; (repeat first | rw [if_pos (by first | assumption | omega | (refine inA_iff.mpr ?_; omega) | (intro q; have q2 := inA_iff.mp q; omega) | (intro q; omega) | (refine ⟨?_, ?_⟩ <;> rw [nI_int (by omega)] <;> omega) | (rw [nI_int (by omega)]; omega) | (intro q; rw [nI_int (by omega)] at q; omega) | (refine ⟨?_, ?_, ?_⟩ <;> omega) | (intro q; obtain ⟨q1, q2, q3⟩ := q; omega) | fail)] | rw [if_neg (by first | assumption | omega | (refine inA_iff.mpr ?_; omega) | (intro q; have q2 := inA_iff.mp q; omega) | (intro q; omega) | (refine ⟨?_, ?_⟩ <;> rw [nI_int (by omega)] <;> omega) | (rw [nI_int (by omega)]; omega) | (intro q; rw [nI_int (by omega)] at q; omega) | (refine ⟨?_, ?_, ?_⟩ <;> omega) | (intro q; obtain ⟨q1, q2, q3⟩ := q; omega) | fail)])) <;> rfl]
                      exact ⟨congrArg (fun z : Int32 => some (Value.int z)) ((b2iF (by omega)).trans (b2iF (by dsimp only; decide)).symm), ⟨fun q => absurd q (by dsimp only; decide), fun _ => ⟨by rw [upN_nk (by decide), upN_nk (by decide)]; exact j12, upN_s⟩⟩, fun q => absurd q (by dsimp only; decide), (Only.up (Only.up hO (Or.inl ⟨rfl, by decide, by decide⟩)) (Or.inl ⟨rfl, by decide, by decide⟩))⟩
                    · rw [show (rdNum T lo hi s) = (nvk T s.1 k, (s.1 + k, 0)) by (unfold rdNum; rw [if_pos hs, hnf]; (repeat first | rw [if_pos (by first | assumption | omega | (refine inA_iff.mpr ?_; omega) | (intro q; have q2 := inA_iff.mp q; omega) | (intro q; omega) | (refine ⟨?_, ?_⟩ <;> rw [nI_int (by omega)] <;> omega) | (rw [nI_int (by omega)]; omega) | (intro q; rw [nI_int (by omega)] at q; omega) | (refine ⟨?_, ?_, ?_⟩ <;> omega) | (intro q; obtain ⟨q1, q2, q3⟩ := q; omega) | fail)] | rw [if_neg (by first | assumption | omega | (refine inA_iff.mpr ?_; omega) | (intro q; have q2 := inA_iff.mp q; omega) | (intro q; omega) | (refine ⟨?_, ?_⟩ <;> rw [nI_int (by omega)] <;> omega) | (rw [nI_int (by omega)]; omega) | (intro q; rw [nI_int (by omega)] at q; omega) | (refine ⟨?_, ?_, ?_⟩ <;> omega) | (intro q; obtain ⟨q1, q2, q3⟩ := q; omega) | fail)])) <;> rfl]
                      exact ⟨congrArg (fun z : Int32 => some (Value.int z)) ((b2iT (by omega)).trans (b2iT rfl).symm), ⟨fun _ => (RmB.w (RmB.at_ hJ (q := s.1 + k) (by omega)) (k := 13) (by decide)), fun q => absurd rfl q⟩, fun _ => by rw [upN_nk (by decide), upN_nk (by decide)]; exact j14, (Only.up (Only.up hO (Or.inl ⟨rfl, by decide, by decide⟩)) (Or.inl ⟨rfl, by decide, by decide⟩))⟩)
      · have h4 : ¬ k ≤ 2 := fun q => h4 (nI_le_r (by omega) q)
        refine WP.run (pc' := 86) (L' := [.ref 271, .int (nI lo), .int (nI hi), .int (nI k)]) (st' := [.int (nI 0)]) (I1 := J) 1 rfl ?_
        exact WP.ret rfl rfl (by
                  first
                  | (exfalso; omega)
                  | (rw [show (rdNum T lo hi s) = (0, (s.1, 1)) by (unfold rdNum; rw [if_pos hs, hnf]; (repeat first | rw [if_pos (by first | assumption | omega | (refine inA_iff.mpr ?_; omega) | (intro q; have q2 := inA_iff.mp q; omega) | (intro q; omega) | (refine ⟨?_, ?_⟩ <;> rw [nI_int (by omega)] <;> omega) | (rw [nI_int (by omega)]; omega) | (intro q; rw [nI_int (by omega)] at q; omega) | (refine ⟨?_, ?_, ?_⟩ <;> omega) | (intro q; obtain ⟨q1, q2, q3⟩ := q; omega) | fail)] | rw [if_neg (by first | assumption | omega | (refine inA_iff.mpr ?_; omega) | (intro q; have q2 := inA_iff.mp q; omega) | (intro q; omega) | (refine ⟨?_, ?_⟩ <;> rw [nI_int (by omega)] <;> omega) | (rw [nI_int (by omega)]; omega) | (intro q; rw [nI_int (by omega)] at q; omega) | (refine ⟨?_, ?_, ?_⟩ <;> omega) | (intro q; obtain ⟨q1, q2, q3⟩ := q; omega) | fail)])) <;> rfl]
                     exact ⟨congrArg (fun z : Int32 => some (Value.int z)) (b2iF (by dsimp only; decide)).symm, ⟨fun q => absurd q (by dsimp only; decide), fun _ => ⟨j12, j13⟩⟩, fun q => absurd q (by dsimp only; decide), hO⟩))
set_option maxRecDepth 100000 in
theorem ms_tnum {d : Nat} {I : Pl} {T : TpS} {s : Nat × Nat} {M : Nat → Nat} (hB : RmB I T M s.1) (hs : s.2 = 0) {lo hi : Nat} (hlo : lo < 1000) (hhi : hi < 1000) : EvX (d + 3) 140 [.ref 271, .int (nI lo), .int (nI hi)] I (fun v K => v = some (.int (b2i ((rdNum T lo hi s).2.2 = 0))) ∧ PM K T (rdNum T lo hi s).2 M ∧ ((rdNum T lo hi s).2.2 = 0 → K 271 14 = nI (rdNum T lo hi s).1) ∧ Only I K mrP) := by
  have h120 := hB.ln
  have hlp := hB.lp
  refine EvX.enter rfl rfl rfl ?_
  refine WP.run (pc' := 5) (L' := [.ref 271, .int (nI lo), .int (nI hi), UU]) (st' := [.int (I 271 11), .ref 271]) (I1 := I) 3 rfl ?_
  refine WP.cg (st' := [.int (nI s.1), .ref 271]) rfl (congrArg (fun z : Int32 => (.int z :: [.ref 271] : List Value)) ((RmB.a hB))) rfl ?_
  refine WP.run (pc' := 20) (L' := [.ref 271, .int (nI lo), .int (nI hi), .int (nI 0)]) (st' := []) (I1 := (upN (upN (upN I 271 12 (nI s.1)) 271 13 (nI 1)) 271 14 (nI 0))) 9 rfl ?_
  refine lm_num hB hs hlo hhi 0 (Nat.zero_le _) (fun j hj => absurd hj (Nat.not_lt_zero _)) _ (RmB.w (RmB.w (RmB.w hB (k := 12) (by decide)) (k := 13) (by decide)) (k := 14) (by decide)) (by rw [upN_nk (by decide), upN_nk (by decide), upN_s]) (by rw [upN_nk (by decide), upN_s]) upN_s (Only.up (Only.up (Only.up Only.rfl_ (Or.inl ⟨rfl, by decide, by decide⟩)) (Or.inl ⟨rfl, by decide, by decide⟩)) (Or.inl ⟨rfl, by decide, by decide⟩))
set_option maxRecDepth 100000 in
theorem ms_sortOf {d : Nat} {I : Pl} {T : TpS} {p : Nat} (hlb : ∀ i, i < T.1 → T.2 i < 256) : Ev (d + 1) 143 [.int (hV T p)] (mem I) (some (.int (nI (srP T p)))) (mem I) := by
  refine Ev.only (EvX.enter rfl rfl rfl ?_)
  by_cases hp : p < T.1
  · rw [show hV T p = nI (T.2 p) from if_pos hp, show srP T p = srt (T.2 p) from if_pos hp]
    have hb := hlb p hp
    refine WP.run (pc' := if ¬ (nI (T.2 p)) = (nI 104) then 10 else 6) (L' := [.int (nI (T.2 p))]) (st' := []) (I1 := I) 3 rfl ?_
    refine WP.br (fun h1 => ?_) (fun h1 => ?_)
    · have h1 : ¬ T.2 p = 104 := fun q => h1 (nI_eq_r q)
      refine WP.run (pc' := if ¬ (nI (T.2 p)) = (nI 115) then 20 else 16) (L' := [.int (nI (T.2 p))]) (st' := []) (I1 := I) 3 rfl ?_
      refine WP.br (fun h2 => ?_) (fun h2 => ?_)
      · have h2 : ¬ T.2 p = 115 := fun q => h2 (nI_eq_r q)
        refine WP.run (pc' := if ¬ (nI (T.2 p)) = (nI 103) then 30 else 26) (L' := [.int (nI (T.2 p))]) (st' := []) (I1 := I) 3 rfl ?_
        refine WP.br (fun h3 => ?_) (fun h3 => ?_)
        · have h3 : ¬ T.2 p = 103 := fun q => h3 (nI_eq_r q)
          refine WP.run (pc' := if ¬ (nI (T.2 p)) = (nI 114) then 40 else 36) (L' := [.int (nI (T.2 p))]) (st' := []) (I1 := I) 3 rfl ?_
          refine WP.br (fun h4 => ?_) (fun h4 => ?_)
          · have h4 : ¬ T.2 p = 114 := fun q => h4 (nI_eq_r q)
            refine WP.run (pc' := if ¬ (nI (T.2 p)) = (nI 119) then 50 else 46) (L' := [.int (nI (T.2 p))]) (st' := []) (I1 := I) 3 rfl ?_
            refine WP.br (fun h5 => ?_) (fun h5 => ?_)
            · have h5 : ¬ T.2 p = 119 := fun q => h5 (nI_eq_r q)
              refine WP.run (pc' := 51) (L' := [.int (nI (T.2 p))]) (st' := [.int (nI 0)]) (I1 := I) 1 rfl ?_
              exact WP.ret rfl rfl (⟨by (unfold srt; (repeat first | rw [if_pos (by first | assumption | omega | (refine inA_iff.mpr ?_; omega) | (intro q; have q2 := inA_iff.mp q; omega) | (intro q; omega) | (refine ⟨?_, ?_⟩ <;> rw [nI_int (by omega)] <;> omega) | (rw [nI_int (by omega)]; omega) | (intro q; rw [nI_int (by omega)] at q; omega) | (refine ⟨?_, ?_, ?_⟩ <;> omega) | (intro q; obtain ⟨q1, q2, q3⟩ := q; omega) | fail)] | rw [if_neg (by first | assumption | omega | (refine inA_iff.mpr ?_; omega) | (intro q; have q2 := inA_iff.mp q; omega) | (intro q; omega) | (refine ⟨?_, ?_⟩ <;> rw [nI_int (by omega)] <;> omega) | (rw [nI_int (by omega)]; omega) | (intro q; rw [nI_int (by omega)] at q; omega) | (refine ⟨?_, ?_, ?_⟩ <;> omega) | (intro q; obtain ⟨q1, q2, q3⟩ := q; omega) | fail)])) <;> rfl, rfl⟩)
            · have h5 : T.2 p = 119 := nI_eq_ (by omega) (by omega) (Decidable.byContradiction h5)
              refine WP.run (pc' := 51) (L' := [.int (nI (T.2 p))]) (st' := [.int (nI 5)]) (I1 := I) 2 rfl ?_
              exact WP.ret rfl rfl (⟨by (unfold srt; (repeat first | rw [if_pos (by first | assumption | omega | (refine inA_iff.mpr ?_; omega) | (intro q; have q2 := inA_iff.mp q; omega) | (intro q; omega) | (refine ⟨?_, ?_⟩ <;> rw [nI_int (by omega)] <;> omega) | (rw [nI_int (by omega)]; omega) | (intro q; rw [nI_int (by omega)] at q; omega) | (refine ⟨?_, ?_, ?_⟩ <;> omega) | (intro q; obtain ⟨q1, q2, q3⟩ := q; omega) | fail)] | rw [if_neg (by first | assumption | omega | (refine inA_iff.mpr ?_; omega) | (intro q; have q2 := inA_iff.mp q; omega) | (intro q; omega) | (refine ⟨?_, ?_⟩ <;> rw [nI_int (by omega)] <;> omega) | (rw [nI_int (by omega)]; omega) | (intro q; rw [nI_int (by omega)] at q; omega) | (refine ⟨?_, ?_, ?_⟩ <;> omega) | (intro q; obtain ⟨q1, q2, q3⟩ := q; omega) | fail)])) <;> rfl, rfl⟩)
          · have h4 : T.2 p = 114 := nI_eq_ (by omega) (by omega) (Decidable.byContradiction h4)
            refine WP.run (pc' := 51) (L' := [.int (nI (T.2 p))]) (st' := [.int (nI 4)]) (I1 := I) 2 rfl ?_
            exact WP.ret rfl rfl (⟨by (unfold srt; (repeat first | rw [if_pos (by first | assumption | omega | (refine inA_iff.mpr ?_; omega) | (intro q; have q2 := inA_iff.mp q; omega) | (intro q; omega) | (refine ⟨?_, ?_⟩ <;> rw [nI_int (by omega)] <;> omega) | (rw [nI_int (by omega)]; omega) | (intro q; rw [nI_int (by omega)] at q; omega) | (refine ⟨?_, ?_, ?_⟩ <;> omega) | (intro q; obtain ⟨q1, q2, q3⟩ := q; omega) | fail)] | rw [if_neg (by first | assumption | omega | (refine inA_iff.mpr ?_; omega) | (intro q; have q2 := inA_iff.mp q; omega) | (intro q; omega) | (refine ⟨?_, ?_⟩ <;> rw [nI_int (by omega)] <;> omega) | (rw [nI_int (by omega)]; omega) | (intro q; rw [nI_int (by omega)] at q; omega) | (refine ⟨?_, ?_, ?_⟩ <;> omega) | (intro q; obtain ⟨q1, q2, q3⟩ := q; omega) | fail)])) <;> rfl, rfl⟩)
        · have h3 : T.2 p = 103 := nI_eq_ (by omega) (by omega) (Decidable.byContradiction h3)
          refine WP.run (pc' := 51) (L' := [.int (nI (T.2 p))]) (st' := [.int (nI 3)]) (I1 := I) 2 rfl ?_
          exact WP.ret rfl rfl (⟨by (unfold srt; (repeat first | rw [if_pos (by first | assumption | omega | (refine inA_iff.mpr ?_; omega) | (intro q; have q2 := inA_iff.mp q; omega) | (intro q; omega) | (refine ⟨?_, ?_⟩ <;> rw [nI_int (by omega)] <;> omega) | (rw [nI_int (by omega)]; omega) | (intro q; rw [nI_int (by omega)] at q; omega) | (refine ⟨?_, ?_, ?_⟩ <;> omega) | (intro q; obtain ⟨q1, q2, q3⟩ := q; omega) | fail)] | rw [if_neg (by first | assumption | omega | (refine inA_iff.mpr ?_; omega) | (intro q; have q2 := inA_iff.mp q; omega) | (intro q; omega) | (refine ⟨?_, ?_⟩ <;> rw [nI_int (by omega)] <;> omega) | (rw [nI_int (by omega)]; omega) | (intro q; rw [nI_int (by omega)] at q; omega) | (refine ⟨?_, ?_, ?_⟩ <;> omega) | (intro q; obtain ⟨q1, q2, q3⟩ := q; omega) | fail)])) <;> rfl, rfl⟩)
      · have h2 : T.2 p = 115 := nI_eq_ (by omega) (by omega) (Decidable.byContradiction h2)
        refine WP.run (pc' := 51) (L' := [.int (nI (T.2 p))]) (st' := [.int (nI 2)]) (I1 := I) 2 rfl ?_
        exact WP.ret rfl rfl (⟨by (unfold srt; (repeat first | rw [if_pos (by first | assumption | omega | (refine inA_iff.mpr ?_; omega) | (intro q; have q2 := inA_iff.mp q; omega) | (intro q; omega) | (refine ⟨?_, ?_⟩ <;> rw [nI_int (by omega)] <;> omega) | (rw [nI_int (by omega)]; omega) | (intro q; rw [nI_int (by omega)] at q; omega) | (refine ⟨?_, ?_, ?_⟩ <;> omega) | (intro q; obtain ⟨q1, q2, q3⟩ := q; omega) | fail)] | rw [if_neg (by first | assumption | omega | (refine inA_iff.mpr ?_; omega) | (intro q; have q2 := inA_iff.mp q; omega) | (intro q; omega) | (refine ⟨?_, ?_⟩ <;> rw [nI_int (by omega)] <;> omega) | (rw [nI_int (by omega)]; omega) | (intro q; rw [nI_int (by omega)] at q; omega) | (refine ⟨?_, ?_, ?_⟩ <;> omega) | (intro q; obtain ⟨q1, q2, q3⟩ := q; omega) | fail)])) <;> rfl, rfl⟩)
    · have h1 : T.2 p = 104 := nI_eq_ (by omega) (by omega) (Decidable.byContradiction h1)
      refine WP.run (pc' := 51) (L' := [.int (nI (T.2 p))]) (st' := [.int (nI 1)]) (I1 := I) 2 rfl ?_
      exact WP.ret rfl rfl (⟨by (unfold srt; (repeat first | rw [if_pos (by first | assumption | omega | (refine inA_iff.mpr ?_; omega) | (intro q; have q2 := inA_iff.mp q; omega) | (intro q; omega) | (refine ⟨?_, ?_⟩ <;> rw [nI_int (by omega)] <;> omega) | (rw [nI_int (by omega)]; omega) | (intro q; rw [nI_int (by omega)] at q; omega) | (refine ⟨?_, ?_, ?_⟩ <;> omega) | (intro q; obtain ⟨q1, q2, q3⟩ := q; omega) | fail)] | rw [if_neg (by first | assumption | omega | (refine inA_iff.mpr ?_; omega) | (intro q; have q2 := inA_iff.mp q; omega) | (intro q; omega) | (refine ⟨?_, ?_⟩ <;> rw [nI_int (by omega)] <;> omega) | (rw [nI_int (by omega)]; omega) | (intro q; rw [nI_int (by omega)] at q; omega) | (refine ⟨?_, ?_, ?_⟩ <;> omega) | (intro q; obtain ⟨q1, q2, q3⟩ := q; omega) | fail)])) <;> rfl, rfl⟩)
  · rw [show hV T p = -1 from if_neg hp, show srP T p = 0 from if_neg hp]
    refine WP.run (pc' := 51) (L' := [.int (-1)]) (st' := [.int (nI 0)]) (I1 := I) 16 rfl ?_
    exact WP.ret rfl rfl (⟨rfl, rfl⟩)
set_option maxRecDepth 100000 in
theorem ms_tlaw {d : Nat} {I : Pl} {T : TpS} {s : Nat × Nat} {M : Nat → Nat} (hB : RmB I T M s.1) (hs : s.2 = 0) : EvX (d + 4) 142 [.ref 271] I (fun v K => v = some (.int (b2i (((pLaw T M s).1).2 = 0))) ∧ PM K T ((pLaw T M s).1) (pLaw T M s).2 ∧ Only I K mrP) := by
  have h120 := hB.ln
  have hlp := hB.lp
  refine EvX.enter rfl rfl rfl ?_
  refine WP.run (pc' := 3) (L' := [.ref 271]) (st' := [.int (nI 116), .ref 271]) (I1 := I) 2 rfl ?_
  refine WP.callX (rest := []) rfl rfl (ms_takes (d := d + 1) (s := s) (c := 116) hB hs (by decide)) (fun v J1 hv => ?_)
  obtain ⟨rfl, hP1, hO1⟩ := hv
  by_cases hs1 : (rdSign T 116 s).2 = 0
  · refine WP.cg (st' := [.int (nI 1)]) rfl (by rw [b2iT hs1]; rfl) rfl ?_
    have hl1 := (hP1.1 hs1).lp
    refine WP.run (pc' := 13) (L' := [.ref 271]) (st' := [.int (nI 99), .int (nI 1), .ref 271]) (I1 := J1) 4 rfl ?_
    refine WP.callX (rest := []) rfl rfl (ms_tnum (d := d) (s := (rdSign T 116 s)) (lo := 1) (hi := 99) (hP1.1 hs1) hs1 (by omega) (by omega)) (fun v J2 hv => ?_)
    obtain ⟨rfl, hP2, hV2, hO2⟩ := hv
    by_cases hs2 : (rdNum T 1 99 (rdSign T 116 s)).2.2 = 0
    · refine WP.cg (st' := [.int (nI 1)]) rfl (by rw [b2iT hs2]; rfl) rfl ?_
      have hl2 := (hP2.1 hs2).lp
      refine WP.run (pc' := 32) (L' := [.ref 271]) (st' := [.int (J2 271 14), .int (nI 141), .ref 272]) (I1 := J2) 6 rfl ?_
      refine WP.cg (st' := [.int (nI ((rdNum T 1 99 (rdSign T 116 s)).1)), .int (nI 141), .ref 272]) rfl (congrArg (fun z : Int32 => (.int z :: [.int (nI 141), .ref 272] : List Value)) ((hV2 hs2))) rfl ?_
      refine WP.iast rfl rfl rfl (by omega) (by decide) ?_
      refine WP.run (pc' := 36) (L' := [.ref 271]) (st' := [.int (nI 44), .ref 271]) (I1 := (upN J2 272 141 (nI ((rdNum T 1 99 (rdSign T 116 s)).1)))) 2 rfl ?_
      refine WP.callX (rest := []) rfl rfl (ms_takes (d := d + 1) (s := (rdNum T 1 99 (rdSign T 116 s)).2) (c := 44) (RmB.set (hP2.1 hs2) (k := 0) (i := 141) (by omega) (by omega)) hs2 (by decide)) (fun v J3 hv => ?_)
      obtain ⟨rfl, hP3, hO3⟩ := hv
      by_cases hs3 : (rdSign T 44 (rdNum T 1 99 (rdSign T 116 s)).2).2 = 0
      · refine WP.cg (st' := [.int (nI 1)]) rfl (by rw [b2iT hs3]; rfl) rfl ?_
        have hl3 := (hP3.1 hs3).lp
        refine WP.run (pc' := 46) (L' := [.ref 271]) (st' := [.int (nI 99), .int (nI 1), .ref 271]) (I1 := J3) 4 rfl ?_
        refine WP.callX (rest := []) rfl rfl (ms_tnum (d := d) (s := (rdSign T 44 (rdNum T 1 99 (rdSign T 116 s)).2)) (lo := 1) (hi := 99) (hP3.1 hs3) hs3 (by omega) (by omega)) (fun v J4 hv => ?_)
        obtain ⟨rfl, hP4, hV4, hO4⟩ := hv
        by_cases hs4 : (rdNum T 1 99 (rdSign T 44 (rdNum T 1 99 (rdSign T 116 s)).2)).2.2 = 0
        · refine WP.cg (st' := [.int (nI 1)]) rfl (by rw [b2iT hs4]; rfl) rfl ?_
          have hl4 := (hP4.1 hs4).lp
          refine WP.run (pc' := 65) (L' := [.ref 271]) (st' := [.int (J4 271 14), .int (nI 142), .ref 272]) (I1 := J4) 6 rfl ?_
          refine WP.cg (st' := [.int (nI ((rdNum T 1 99 (rdSign T 44 (rdNum T 1 99 (rdSign T 116 s)).2)).1)), .int (nI 142), .ref 272]) rfl (congrArg (fun z : Int32 => (.int z :: [.int (nI 142), .ref 272] : List Value)) ((hV4 hs4))) rfl ?_
          refine WP.iast rfl rfl rfl (by omega) (by decide) ?_
          refine WP.run (pc' := 69) (L' := [.ref 271]) (st' := [.int (nI 59), .ref 271]) (I1 := (upN J4 272 142 (nI ((rdNum T 1 99 (rdSign T 44 (rdNum T 1 99 (rdSign T 116 s)).2)).1)))) 2 rfl ?_
          refine WP.callX (rest := []) rfl rfl (ms_takes (d := d + 1) (s := (rdNum T 1 99 (rdSign T 44 (rdNum T 1 99 (rdSign T 116 s)).2)).2) (c := 59) (RmB.set (hP4.1 hs4) (k := 1) (i := 142) (by omega) (by omega)) hs4 (by decide)) (fun v J5 hv => ?_)
          obtain ⟨rfl, hP5, hO5⟩ := hv
          exact WP.ret rfl rtn_b (by
                      have e1 : pLaw T M s = ((rdSign T 59 (rdNum T 1 99 (rdSign T 44 (rdNum T 1 99 (rdSign T 116 s)).2)).2), (setN (setN M 0 ((rdNum T 1 99 (rdSign T 116 s)).1)) 1 ((rdNum T 1 99 (rdSign T 44 (rdNum T 1 99 (rdSign T 116 s)).2)).1))) := rfl
                      rw [e1]
                      exact ⟨rfl, hP5, (Only.up (((Only.up ((Only.rfl_.tr hO1).tr hO2) (Or.inr ⟨rfl, by omega, by omega⟩)).tr hO3).tr hO4) (Or.inr ⟨rfl, by omega, by omega⟩)).tr hO5⟩)
        · refine WP.cg (st' := [.int (nI 0)]) rfl (by rw [b2iF hs4]; rfl) rfl ?_
          refine WP.run (pc' := 53) (L' := [.ref 271]) (st' := [.int (nI 0)]) (I1 := J4) 2 rfl ?_
          exact WP.ret rfl rfl (by
                      have e1 : (pLaw T M s).1 = (rdNum T 1 99 (rdSign T 44 (rdNum T 1 99 (rdSign T 116 s)).2)).2 := by
                        unfold pLaw
                        simp only [rdNum_f hs4, rdSign_f hs4]
                      rw [e1]
                      exact ⟨congrArg (fun z : Int32 => some (Value.int z)) (b2iF hs4).symm, PM.bad hP4 hs4, ((Only.up ((Only.rfl_.tr hO1).tr hO2) (Or.inr ⟨rfl, by omega, by omega⟩)).tr hO3).tr hO4⟩)
      · refine WP.cg (st' := [.int (nI 0)]) rfl (by rw [b2iF hs3]; rfl) rfl ?_
        refine WP.run (pc' := 53) (L' := [.ref 271]) (st' := [.int (nI 0)]) (I1 := J3) 2 rfl ?_
        exact WP.ret rfl rfl (by
                  have e1 : (pLaw T M s).1 = (rdSign T 44 (rdNum T 1 99 (rdSign T 116 s)).2) := by
                    unfold pLaw
                    simp only [rdNum_f hs3, rdSign_f hs3]
                  rw [e1]
                  exact ⟨congrArg (fun z : Int32 => some (Value.int z)) (b2iF hs3).symm, PM.bad hP3 hs3, (Only.up ((Only.rfl_.tr hO1).tr hO2) (Or.inr ⟨rfl, by omega, by omega⟩)).tr hO3⟩)
    · refine WP.cg (st' := [.int (nI 0)]) rfl (by rw [b2iF hs2]; rfl) rfl ?_
      refine WP.run (pc' := 20) (L' := [.ref 271]) (st' := [.int (nI 0)]) (I1 := J2) 2 rfl ?_
      exact WP.ret rfl rfl (by
              have e1 : (pLaw T M s).1 = (rdNum T 1 99 (rdSign T 116 s)).2 := by
                unfold pLaw
                simp only [rdNum_f hs2, rdSign_f hs2]
              rw [e1]
              exact ⟨congrArg (fun z : Int32 => some (Value.int z)) (b2iF hs2).symm, PM.bad hP2 hs2, (Only.rfl_.tr hO1).tr hO2⟩)
  · refine WP.cg (st' := [.int (nI 0)]) rfl (by rw [b2iF hs1]; rfl) rfl ?_
    refine WP.run (pc' := 20) (L' := [.ref 271]) (st' := [.int (nI 0)]) (I1 := J1) 2 rfl ?_
    exact WP.ret rfl rfl (by
          have e1 : (pLaw T M s).1 = (rdSign T 116 s) := by
            unfold pLaw
            simp only [rdNum_f hs1, rdSign_f hs1]
          rw [e1]
          exact ⟨congrArg (fun z : Int32 => some (Value.int z)) (b2iF hs1).symm, PM.bad hP1 hs1, Only.rfl_.tr hO1⟩)
set_option maxRecDepth 100000 in
theorem ms_isMore {d : Nat} {I : Pl} {T : TpS} {M : Nat → Nat} {p : Nat} (hB : RmB I T M p) (h1 : 1 ≤ p) : Ev (d + 1) 141 [.ref 271] (mem I) (some (.int (nI 0))) (mem (upN (upN I 271 12 (nI (p - 1))) 271 13 (nI 3))) := by
  have h120 := hB.ln
  have hlp := hB.lp
  refine Ev.only (EvX.enter rfl rfl rfl ?_)
  refine WP.run (pc' := 5) (L' := [.ref 271]) (st' := [.int (I 271 11), .ref 271]) (I1 := I) 3 rfl ?_
  refine WP.cg (st' := [.int (nI p), .ref 271]) rfl (congrArg (fun z : Int32 => (.int z :: [.ref 271] : List Value)) (hB.a)) rfl ?_
  refine WP.run (pc' := 7) (L' := [.ref 271]) (st' := [.int ((nI p) - (nI 1)), .ref 271]) (I1 := I) 2 rfl ?_
  refine WP.cg (st' := [.int (nI (p - 1)), .ref 271]) rfl (congrArg (fun z : Int32 => (.int z :: [.ref 271] : List Value)) (pk_sub (a := p) (b := 1) (by omega))) rfl ?_
  refine WP.run (pc' := 16) (L' := [.ref 271]) (st' := [.int (nI 0)]) (I1 := (upN (upN I 271 12 (nI (p - 1))) 271 13 (nI 3))) 5 rfl ?_
  exact WP.ret rfl rfl (⟨rfl, rfl⟩)
set_option maxRecDepth 100000 in
theorem ms_tstr {d : Nat} {I : Pl} {T : TpS} {s : Nat × Nat} {M : Nat → Nat} (hB : RmB I T M s.1) (hs : s.2 = 0) (hM : M 2 ≤ 6) (hp : s.1 < T.1) : EvX (d + 4) 144 [.ref 271] I (fun v K => v = some (.int (b2i (((pStr T M s.1).1).2 = 0))) ∧ PM K T ((pStr T M s.1).1) (pStr T M s.1).2 ∧ Only I K mrP) := by
  have h120 := hB.ln
  have hlp := hB.lp
  have hsp := srP_le (T := T) (p := s.1)
  refine EvX.enter rfl rfl rfl ?_
  refine WP.run (pc' := 5) (L' := [.ref 271, UU, UU]) (st' := [.int (I 271 11), .ref 271]) (I1 := I) 3 rfl ?_
  refine WP.cg (st' := [.int (nI s.1), .ref 271]) rfl (congrArg (fun z : Int32 => (.int z :: [.ref 271] : List Value)) ((RmB.a hB))) rfl ?_
  refine WP.callV (rest := []) rfl rfl (ms_byteAt (d := d + 2) (q := s.1) hB (by omega)) ?_
  refine WP.callV (rest := []) rfl rfl (ms_sortOf (d := d + 2) (T := T) (p := s.1) (fun i hi => RmB.lb hB hi)) ?_
  refine WP.run (pc' := 17) (L' := [.ref 271, .int (nI (srP T s.1)), UU]) (st' := [.int (I 271 11), .ref 271]) (I1 := I) 4 rfl ?_
  refine WP.cg (st' := [.int (nI s.1), .ref 271]) rfl (congrArg (fun z : Int32 => (.int z :: [.ref 271] : List Value)) ((RmB.a hB))) rfl ?_
  refine WP.run (pc' := 19) (L' := [.ref 271, .int (nI (srP T s.1)), UU]) (st' := [.int ((nI s.1) + (nI 1)), .ref 271]) (I1 := I) 2 rfl ?_
  refine WP.cg (st' := [.int (nI (s.1 + 1)), .ref 271]) rfl (congrArg (fun z : Int32 => (.int z :: [.ref 271] : List Value)) (nI_add s.1 1)) rfl ?_
  refine WP.run (pc' := 29) (L' := [.ref 271, .int (nI (srP T s.1)), UU]) (st' := [.int (nI 143), .ref 272]) (I1 := (upN I 271 11 (nI (s.1 + 1)))) 4 rfl ?_
  refine WP.iald rfl rfl rfl (by omega) (by decide) ?_
  refine WP.cg (st' := [.int (nI (M 2))]) rfl (congrArg (fun z : Int32 => (.int z :: [] : List Value)) ((RmB.m (RmB.at_ hB (q := s.1 + 1) (by omega)) 2 (by omega)))) rfl ?_
  refine WP.run (pc' := if ¬ (nI (M 2)) = (nI 6) then 42 else 37) (L' := [.ref 271, .int (nI (srP T s.1)), .int (nI (M 2))]) (st' := []) (I1 := (upN I 271 11 (nI (s.1 + 1)))) 4 rfl ?_
  refine WP.br (fun h1 => ?_) (fun h1 => ?_)
  · have h1 : ¬ M 2 = 6 := fun q => h1 (nI_eq_r q)
    refine WP.run (pc' := 51) (L' := [.ref 271, .int (nI (srP T s.1)), .int (nI (M 2))]) (st' := [.int ((nI 150) + (nI (M 2))), .ref 272]) (I1 := (upN I 271 11 (nI (s.1 + 1)))) 5 rfl ?_
    refine WP.cg (st' := [.int (nI (150 + (M 2))), .ref 272]) rfl (congrArg (fun z : Int32 => (.int z :: [.ref 272] : List Value)) (nI_add 150 (M 2))) rfl ?_
    refine WP.run (pc' := 52) (L' := [.ref 271, .int (nI (srP T s.1)), .int (nI (M 2))]) (st' := [.int (nI (srP T s.1)), .int (nI (150 + (M 2))), .ref 272]) (I1 := (upN I 271 11 (nI (s.1 + 1)))) 1 rfl ?_
    refine WP.iast rfl rfl rfl (by omega) (by decide) ?_
    refine WP.run (pc' := 57) (L' := [.ref 271, .int (nI (srP T s.1)), .int (nI (M 2))]) (st' := [.int (nI 99), .int (nI 1), .ref 271]) (I1 := (upN (upN I 271 11 (nI (s.1 + 1))) 272 (150 + (M 2)) (nI (srP T s.1)))) 3 rfl ?_
    refine WP.callX (rest := []) rfl rfl (ms_tnum (d := d) (s := (s.1 + 1, 0)) (lo := 1) (hi := 99) (RmB.set (RmB.at_ hB (q := s.1 + 1) (by omega)) (k := 9 + (M 2)) (i := 150 + (M 2)) (by omega) (by omega)) rfl (by omega) (by omega)) (fun v J1 hv => ?_)
    obtain ⟨rfl, hP1, hV1, hO1⟩ := hv
    by_cases hs1 : (rdNum T 1 99 (s.1 + 1, 0)).2.2 = 0
    · refine WP.cg (st' := [.int (nI 1)]) rfl (by rw [b2iT hs1]; rfl) rfl ?_
      have hl1 := (hP1.1 hs1).lp
      refine WP.run (pc' := 74) (L' := [.ref 271, .int (nI (srP T s.1)), .int (nI (M 2))]) (st' := [.int ((nI 156) + (nI (M 2))), .ref 272]) (I1 := J1) 6 rfl ?_
      refine WP.cg (st' := [.int (nI (156 + (M 2))), .ref 272]) rfl (congrArg (fun z : Int32 => (.int z :: [.ref 272] : List Value)) (nI_add 156 (M 2))) rfl ?_
      refine WP.run (pc' := 78) (L' := [.ref 271, .int (nI (srP T s.1)), .int (nI (M 2))]) (st' := [.int (J1 271 14), .int (nI (156 + (M 2))), .ref 272]) (I1 := J1) 2 rfl ?_
      refine WP.cg (st' := [.int (nI ((rdNum T 1 99 (s.1 + 1, 0)).1)), .int (nI (156 + (M 2))), .ref 272]) rfl (congrArg (fun z : Int32 => (.int z :: [.int (nI (156 + (M 2))), .ref 272] : List Value)) ((hV1 hs1))) rfl ?_
      refine WP.iast rfl rfl rfl (by omega) (by decide) ?_
      refine WP.run (pc' := 87) (L' := [.ref 271, .int (nI (srP T s.1)), .int (nI (M 2))]) (st' := [.int (nI 143), .ref 272, .int (nI 143), .ref 272]) (I1 := (upN J1 272 (156 + (M 2)) (nI ((rdNum T 1 99 (s.1 + 1, 0)).1)))) 4 rfl ?_
      refine WP.iald rfl rfl rfl (by omega) (by decide) ?_
      refine WP.cg (st' := [.int (nI (M 2)), .int (nI 143), .ref 272]) rfl (congrArg (fun z : Int32 => (.int z :: [.int (nI 143), .ref 272] : List Value)) ((RmB.m (RmB.set (hP1.1 hs1) (k := 15 + (M 2)) (i := 156 + (M 2)) (by omega) (by omega)) 2 (by omega)).trans (congrArg nI (by rw [setN_o (by omega), setN_o (by omega)])))) rfl ?_
      refine WP.run (pc' := 90) (L' := [.ref 271, .int (nI (srP T s.1)), .int (nI (M 2))]) (st' := [.int ((nI (M 2)) + (nI 1)), .int (nI 143), .ref 272]) (I1 := (upN J1 272 (156 + (M 2)) (nI ((rdNum T 1 99 (s.1 + 1, 0)).1)))) 2 rfl ?_
      refine WP.cg (st' := [.int (nI ((M 2) + 1)), .int (nI 143), .ref 272]) rfl (congrArg (fun z : Int32 => (.int z :: [.int (nI 143), .ref 272] : List Value)) (nI_add (M 2) 1)) rfl ?_
      refine WP.iast rfl rfl rfl (by omega) (by decide) ?_
      refine WP.run (pc' := 94) (L' := [.ref 271, .int (nI (srP T s.1)), .int (nI (M 2))]) (st' := [.int (nI 59), .ref 271]) (I1 := (upN (upN J1 272 (156 + (M 2)) (nI ((rdNum T 1 99 (s.1 + 1, 0)).1))) 272 143 (nI ((M 2) + 1)))) 2 rfl ?_
      refine WP.callX (rest := []) rfl rfl (ms_takes (d := d + 1) (s := (rdNum T 1 99 (s.1 + 1, 0)).2) (c := 59) (RmB.set (RmB.set (hP1.1 hs1) (k := 15 + (M 2)) (i := 156 + (M 2)) (by omega) (by omega)) (k := 2) (i := 143) (by omega) (by omega)) hs1 (by decide)) (fun v J2 hv => ?_)
      obtain ⟨rfl, hP2, hO2⟩ := hv
      exact WP.ret rfl rtn_b (by
              have e1 : pStr T M s.1 = ((rdSign T 59 (rdNum T 1 99 (s.1 + 1, 0)).2), (setN (setN (setN M (9 + (M 2)) (srP T s.1)) (15 + (M 2)) ((rdNum T 1 99 (s.1 + 1, 0)).1)) 2 ((M 2) + 1))) := if_pos (by omega)
              rw [e1]
              exact ⟨rfl, hP2, (Only.up (Only.up ((Only.up (Only.up Only.rfl_ (Or.inl ⟨rfl, by decide, by decide⟩)) (Or.inr ⟨rfl, by omega, by omega⟩)).tr hO1) (Or.inr ⟨rfl, by omega, by omega⟩)) (Or.inr ⟨rfl, by omega, by omega⟩)).tr hO2⟩)
    · refine WP.cg (st' := [.int (nI 0)]) rfl (by rw [b2iF hs1]; rfl) rfl ?_
      refine WP.run (pc' := 64) (L' := [.ref 271, .int (nI (srP T s.1)), .int (nI (M 2))]) (st' := [.int (nI 0)]) (I1 := J1) 2 rfl ?_
      exact WP.ret rfl rfl (by
              have e1 : (pStr T M s.1).1 = (rdNum T 1 99 (s.1 + 1, 0)).2 := by
                unfold pStr
                rw [if_pos (by omega)]; simp only [rdNum_f hs1, rdSign_f hs1]
              rw [e1]
              exact ⟨congrArg (fun z : Int32 => some (Value.int z)) (b2iF hs1).symm, PM.bad hP1 hs1, (Only.up (Only.up Only.rfl_ (Or.inl ⟨rfl, by decide, by decide⟩)) (Or.inr ⟨rfl, by omega, by omega⟩)).tr hO1⟩)
  · have h1 : M 2 = 6 := nI_eq_ (by omega) (by omega) (Decidable.byContradiction h1)
    refine WP.run (pc' := 38) (L' := [.ref 271, .int (nI (srP T s.1)), .int (nI (M 2))]) (st' := [.ref 271]) (I1 := (upN I 271 11 (nI (s.1 + 1)))) 1 rfl ?_
    refine WP.callV (rest := []) rfl rfl (ms_isMore (d := d + 2) (I := (upN I 271 11 (nI (s.1 + 1)))) (p := s.1 + 1) (RmB.at_ hB (q := s.1 + 1) (by omega)) (by omega)) ?_
    exact WP.ret rfl rfl (by
          rw [show pStr T M s.1 = ((s.1, 3), M) from if_neg (by omega)]
          exact ⟨congrArg (fun z : Int32 => some (Value.int z)) (b2iF (by dsimp only; decide)).symm, ⟨fun q => absurd q (by dsimp only; decide), fun _ => ⟨by rw [upN_nk (by decide), upN_s, Nat.add_sub_cancel], upN_s⟩⟩, Only.up (Only.up (Only.up Only.rfl_ (Or.inl ⟨rfl, by decide, by decide⟩)) (Or.inl ⟨rfl, by decide, by decide⟩)) (Or.inl ⟨rfl, by decide, by decide⟩)⟩)
set_option maxRecDepth 100000 in
theorem ms_tcl {d : Nat} {I : Pl} {T : TpS} {s : Nat × Nat} {M : Nat → Nat} (hB : RmB I T M s.1) (hs : s.2 = 0) (hM : M 3 ≤ 5) (hp : s.1 < T.1) : EvX (d + 4) 145 [.ref 271] I (fun v K => v = some (.int (b2i (((if T.2 s.1 = 99 then pCl T M s.1 else ((s.1, 1), M)).1).2 = 0))) ∧ PM K T ((if T.2 s.1 = 99 then pCl T M s.1 else ((s.1, 1), M)).1) (if T.2 s.1 = 99 then pCl T M s.1 else ((s.1, 1), M)).2 ∧ Only I K mrP) := by
  have h120 := hB.ln
  have hlp := hB.lp
  refine EvX.enter rfl rfl rfl ?_
  refine WP.run (pc' := 3) (L' := [.ref 271, UU]) (st' := [.int (nI 99), .ref 271]) (I1 := I) 2 rfl ?_
  refine WP.callX (rest := []) rfl rfl (ms_takes (d := d + 1) (s := s) (c := 99) hB hs (by decide)) (fun v J1 hv => ?_)
  obtain ⟨rfl, hP1, hO1⟩ := hv
  by_cases hs1 : (rdSign T 99 s).2 = 0
  · refine WP.cg (st' := [.int (nI 1)]) rfl (by rw [b2iT hs1]; rfl) rfl ?_
    have hl1 := (hP1.1 hs1).lp
    refine WP.run (pc' := 11) (L' := [.ref 271, UU]) (st' := []) (I1 := J1) 1 rfl ?_
    have hc99 : T.2 s.1 = 99 := by
      by_cases q : T.2 s.1 = 99
      · exact q
      · have e1 : rdSign T 99 s = (s.1, 1) := by (unfold rdSign; (repeat first | rw [if_pos (by first | assumption | omega | (refine inA_iff.mpr ?_; omega) | (intro q; have q2 := inA_iff.mp q; omega) | (intro q; omega) | (refine ⟨?_, ?_⟩ <;> rw [nI_int (by omega)] <;> omega) | (rw [nI_int (by omega)]; omega) | (intro q; rw [nI_int (by omega)] at q; omega) | (refine ⟨?_, ?_, ?_⟩ <;> omega) | (intro q; obtain ⟨q1, q2, q3⟩ := q; omega) | fail)] | rw [if_neg (by first | assumption | omega | (refine inA_iff.mpr ?_; omega) | (intro q; have q2 := inA_iff.mp q; omega) | (intro q; omega) | (refine ⟨?_, ?_⟩ <;> rw [nI_int (by omega)] <;> omega) | (rw [nI_int (by omega)]; omega) | (intro q; rw [nI_int (by omega)] at q; omega) | (refine ⟨?_, ?_, ?_⟩ <;> omega) | (intro q; obtain ⟨q1, q2, q3⟩ := q; omega) | fail)])) <;> rfl
        rw [e1] at hs1
        exact absurd hs1 (by dsimp only; decide)
    have e1 : rdSign T 99 s = (s.1 + 1, 0) := by (unfold rdSign; (repeat first | rw [if_pos (by first | assumption | omega | (refine inA_iff.mpr ?_; omega) | (intro q; have q2 := inA_iff.mp q; omega) | (intro q; omega) | (refine ⟨?_, ?_⟩ <;> rw [nI_int (by omega)] <;> omega) | (rw [nI_int (by omega)]; omega) | (intro q; rw [nI_int (by omega)] at q; omega) | (refine ⟨?_, ?_, ?_⟩ <;> omega) | (intro q; obtain ⟨q1, q2, q3⟩ := q; omega) | fail)] | rw [if_neg (by first | assumption | omega | (refine inA_iff.mpr ?_; omega) | (intro q; have q2 := inA_iff.mp q; omega) | (intro q; omega) | (refine ⟨?_, ?_⟩ <;> rw [nI_int (by omega)] <;> omega) | (rw [nI_int (by omega)]; omega) | (intro q; rw [nI_int (by omega)] at q; omega) | (refine ⟨?_, ?_, ?_⟩ <;> omega) | (intro q; obtain ⟨q1, q2, q3⟩ := q; omega) | fail)])) <;> rfl
    rw [e1] at hP1
    have hA0 := rdNum_le (T := T) (lo := 1) (hi := 99) (s := (s.1 + 1, 0)) (by show s.1 + 1 ≤ T.1; omega) (by show 0 ≤ 3; omega)
    have hA1 := rdSign_le (T := T) (c := 44) hA0.1 hA0.2.1
    have hB1 := rdNum_le (T := T) (lo := 1) (hi := 9) hA1.1 hA1.2
    have hB2 := hB1.2.2.1
    have hB3 := hB1.2.2.2
    refine WP.run (pc' := 18) (L' := [.ref 271, UU]) (st' := [.int (nI 144), .ref 272]) (I1 := J1) 3 rfl ?_
    refine WP.iald rfl rfl rfl (by omega) (by decide) ?_
    refine WP.cg (st' := [.int (nI (M 3))]) rfl (congrArg (fun z : Int32 => (.int z :: [] : List Value)) ((RmB.m (hP1.1 rfl) 3 (by omega)))) rfl ?_
    refine WP.run (pc' := if ¬ (nI (M 3)) = (nI 5) then 30 else 25) (L' := [.ref 271, .int (nI (M 3))]) (st' := []) (I1 := J1) 4 rfl ?_
    refine WP.br (fun h1 => ?_) (fun h1 => ?_)
    · have h1 : ¬ M 3 = 5 := fun q => h1 (nI_eq_r q)
      refine WP.run (pc' := 34) (L' := [.ref 271, .int (nI (M 3))]) (st' := [.int (nI 99), .int (nI 1), .ref 271]) (I1 := J1) 3 rfl ?_
      refine WP.callX (rest := []) rfl rfl (ms_tnum (d := d) (s := (s.1 + 1, 0)) (lo := 1) (hi := 99) (hP1.1 rfl) rfl (by omega) (by omega)) (fun v J2 hv => ?_)
      obtain ⟨rfl, hP2, hV2, hO2⟩ := hv
      by_cases hs2 : (rdNum T 1 99 (s.1 + 1, 0)).2.2 = 0
      · refine WP.cg (st' := [.int (nI 1)]) rfl (by rw [b2iT hs2]; rfl) rfl ?_
        have hl2 := (hP2.1 hs2).lp
        refine WP.run (pc' := 51) (L' := [.ref 271, .int (nI (M 3))]) (st' := [.int ((nI 168) + (nI (M 3))), .ref 272]) (I1 := J2) 6 rfl ?_
        refine WP.cg (st' := [.int (nI (168 + (M 3))), .ref 272]) rfl (congrArg (fun z : Int32 => (.int z :: [.ref 272] : List Value)) (nI_add 168 (M 3))) rfl ?_
        refine WP.run (pc' := 55) (L' := [.ref 271, .int (nI (M 3))]) (st' := [.int (J2 271 14), .int (nI (168 + (M 3))), .ref 272]) (I1 := J2) 2 rfl ?_
        refine WP.cg (st' := [.int (nI ((rdNum T 1 99 (s.1 + 1, 0)).1)), .int (nI (168 + (M 3))), .ref 272]) rfl (congrArg (fun z : Int32 => (.int z :: [.int (nI (168 + (M 3))), .ref 272] : List Value)) ((hV2 hs2))) rfl ?_
        refine WP.iast rfl rfl rfl (by omega) (by decide) ?_
        refine WP.run (pc' := 59) (L' := [.ref 271, .int (nI (M 3))]) (st' := [.int (nI 44), .ref 271]) (I1 := (upN J2 272 (168 + (M 3)) (nI ((rdNum T 1 99 (s.1 + 1, 0)).1)))) 2 rfl ?_
        refine WP.callX (rest := []) rfl rfl (ms_takes (d := d + 1) (s := (rdNum T 1 99 (s.1 + 1, 0)).2) (c := 44) (RmB.set (hP2.1 hs2) (k := 27 + (M 3)) (i := 168 + (M 3)) (by omega) (by omega)) hs2 (by decide)) (fun v J3 hv => ?_)
        obtain ⟨rfl, hP3, hO3⟩ := hv
        by_cases hs3 : (rdSign T 44 (rdNum T 1 99 (s.1 + 1, 0)).2).2 = 0
        · refine WP.cg (st' := [.int (nI 1)]) rfl (by rw [b2iT hs3]; rfl) rfl ?_
          have hl3 := (hP3.1 hs3).lp
          refine WP.run (pc' := 69) (L' := [.ref 271, .int (nI (M 3))]) (st' := [.int (nI 9), .int (nI 1), .ref 271]) (I1 := J3) 4 rfl ?_
          refine WP.callX (rest := []) rfl rfl (ms_tnum (d := d) (s := (rdSign T 44 (rdNum T 1 99 (s.1 + 1, 0)).2)) (lo := 1) (hi := 9) (hP3.1 hs3) hs3 (by omega) (by omega)) (fun v J4 hv => ?_)
          obtain ⟨rfl, hP4, hV4, hO4⟩ := hv
          by_cases hs4 : (rdNum T 1 9 (rdSign T 44 (rdNum T 1 99 (s.1 + 1, 0)).2)).2.2 = 0
          · refine WP.cg (st' := [.int (nI 1)]) rfl (by rw [b2iT hs4]; rfl) rfl ?_
            have hl4 := (hP4.1 hs4).lp
            refine WP.run (pc' := 86) (L' := [.ref 271, .int (nI (M 3))]) (st' := [.int ((nI 173) + (nI (M 3))), .ref 272]) (I1 := J4) 6 rfl ?_
            refine WP.cg (st' := [.int (nI (173 + (M 3))), .ref 272]) rfl (congrArg (fun z : Int32 => (.int z :: [.ref 272] : List Value)) (nI_add 173 (M 3))) rfl ?_
            refine WP.run (pc' := 90) (L' := [.ref 271, .int (nI (M 3))]) (st' := [.int (J4 271 14), .int (nI (173 + (M 3))), .ref 272]) (I1 := J4) 2 rfl ?_
            refine WP.cg (st' := [.int (nI ((rdNum T 1 9 (rdSign T 44 (rdNum T 1 99 (s.1 + 1, 0)).2)).1)), .int (nI (173 + (M 3))), .ref 272]) rfl (congrArg (fun z : Int32 => (.int z :: [.int (nI (173 + (M 3))), .ref 272] : List Value)) ((hV4 hs4))) rfl ?_
            refine WP.iast rfl rfl rfl (by omega) (by decide) ?_
            refine WP.run (pc' := 94) (L' := [.ref 271, .int (nI (M 3))]) (st' := [.int (nI 44), .ref 271]) (I1 := (upN J4 272 (173 + (M 3)) (nI ((rdNum T 1 9 (rdSign T 44 (rdNum T 1 99 (s.1 + 1, 0)).2)).1)))) 2 rfl ?_
            refine WP.callX (rest := []) rfl rfl (ms_takes (d := d + 1) (s := (rdNum T 1 9 (rdSign T 44 (rdNum T 1 99 (s.1 + 1, 0)).2)).2) (c := 44) (RmB.set (hP4.1 hs4) (k := 32 + (M 3)) (i := 173 + (M 3)) (by omega) (by omega)) hs4 (by decide)) (fun v J5 hv => ?_)
            obtain ⟨rfl, hP5, hO5⟩ := hv
            by_cases hs5 : (rdSign T 44 (rdNum T 1 9 (rdSign T 44 (rdNum T 1 99 (s.1 + 1, 0)).2)).2).2 = 0
            · refine WP.cg (st' := [.int (nI 1)]) rfl (by rw [b2iT hs5]; rfl) rfl ?_
              have hl5 := (hP5.1 hs5).lp
              refine WP.run (pc' := 100) (L' := [.ref 271, .int (nI (M 3))]) (st' := []) (I1 := J5) 1 rfl ?_
              have hB4 : 1 ≤ (rdNum T 1 9 (rdSign T 44 (rdNum T 1 99 (s.1 + 1, 0)).2)).1 := by
                exact hB3 hs4
              refine WP.run (pc' := 111) (L' := [.ref 271, .int (nI (M 3))]) (st' := [.int ((nI 173) + (nI (M 3))), .ref 272, .int (nI 0), .ref 271]) (I1 := J5) 7 rfl ?_
              refine WP.cg (st' := [.int (nI (173 + (M 3))), .ref 272, .int (nI 0), .ref 271]) rfl (congrArg (fun z : Int32 => (.int z :: [.ref 272, .int (nI 0), .ref 271] : List Value)) (nI_add 173 (M 3))) rfl ?_
              refine WP.iald rfl rfl rfl (by omega) (by decide) ?_
              refine WP.cg (st' := [.int (nI ((rdNum T 1 9 (rdSign T 44 (rdNum T 1 99 (s.1 + 1, 0)).2)).1)), .int (nI 0), .ref 271]) rfl (congrArg (fun z : Int32 => (.int z :: [.int (nI 0), .ref 271] : List Value)) (((congrArg (J5 272) (by omega)).trans (RmB.m (hP5.1 hs5) (32 + (M 3)) (by omega))).trans (congrArg nI (by rw [setN_s])))) rfl ?_
              refine WP.run (pc' := 114) (L' := [.ref 271, .int (nI (M 3))]) (st' := [.int ((nI ((rdNum T 1 9 (rdSign T 44 (rdNum T 1 99 (s.1 + 1, 0)).2)).1)) - (nI 1)), .int (nI 0), .ref 271]) (I1 := J5) 2 rfl ?_
              refine WP.cg (st' := [.int (nI (((rdNum T 1 9 (rdSign T 44 (rdNum T 1 99 (s.1 + 1, 0)).2)).1) - 1)), .int (nI 0), .ref 271]) rfl (congrArg (fun z : Int32 => (.int z :: [.int (nI 0), .ref 271] : List Value)) (pk_sub (a := (rdNum T 1 9 (rdSign T 44 (rdNum T 1 99 (s.1 + 1, 0)).2)).1) (b := 1) (by omega))) rfl ?_
              refine WP.callX (rest := []) rfl rfl (ms_tnum (d := d) (s := (rdSign T 44 (rdNum T 1 9 (rdSign T 44 (rdNum T 1 99 (s.1 + 1, 0)).2)).2)) (lo := 0) (hi := ((rdNum T 1 9 (rdSign T 44 (rdNum T 1 99 (s.1 + 1, 0)).2)).1) - 1) (hP5.1 hs5) hs5 (by omega) (by omega)) (fun v J6 hv => ?_)
              obtain ⟨rfl, hP6, hV6, hO6⟩ := hv
              by_cases hs6 : (rdNum T 0 (((rdNum T 1 9 (rdSign T 44 (rdNum T 1 99 (s.1 + 1, 0)).2)).1) - 1) (rdSign T 44 (rdNum T 1 9 (rdSign T 44 (rdNum T 1 99 (s.1 + 1, 0)).2)).2)).2.2 = 0
              · refine WP.cg (st' := [.int (nI 1)]) rfl (by rw [b2iT hs6]; rfl) rfl ?_
                have hl6 := (hP6.1 hs6).lp
                refine WP.run (pc' := 131) (L' := [.ref 271, .int (nI (M 3))]) (st' := [.int ((nI 178) + (nI (M 3))), .ref 272]) (I1 := J6) 6 rfl ?_
                refine WP.cg (st' := [.int (nI (178 + (M 3))), .ref 272]) rfl (congrArg (fun z : Int32 => (.int z :: [.ref 272] : List Value)) (nI_add 178 (M 3))) rfl ?_
                refine WP.run (pc' := 135) (L' := [.ref 271, .int (nI (M 3))]) (st' := [.int (J6 271 14), .int (nI (178 + (M 3))), .ref 272]) (I1 := J6) 2 rfl ?_
                refine WP.cg (st' := [.int (nI ((rdNum T 0 (((rdNum T 1 9 (rdSign T 44 (rdNum T 1 99 (s.1 + 1, 0)).2)).1) - 1) (rdSign T 44 (rdNum T 1 9 (rdSign T 44 (rdNum T 1 99 (s.1 + 1, 0)).2)).2)).1)), .int (nI (178 + (M 3))), .ref 272]) rfl (congrArg (fun z : Int32 => (.int z :: [.int (nI (178 + (M 3))), .ref 272] : List Value)) ((hV6 hs6))) rfl ?_
                refine WP.iast rfl rfl rfl (by omega) (by decide) ?_
                refine WP.run (pc' := 144) (L' := [.ref 271, .int (nI (M 3))]) (st' := [.int (nI 144), .ref 272, .int (nI 144), .ref 272]) (I1 := (upN J6 272 (178 + (M 3)) (nI ((rdNum T 0 (((rdNum T 1 9 (rdSign T 44 (rdNum T 1 99 (s.1 + 1, 0)).2)).1) - 1) (rdSign T 44 (rdNum T 1 9 (rdSign T 44 (rdNum T 1 99 (s.1 + 1, 0)).2)).2)).1)))) 4 rfl ?_
                refine WP.iald rfl rfl rfl (by omega) (by decide) ?_
                refine WP.cg (st' := [.int (nI (M 3)), .int (nI 144), .ref 272]) rfl (congrArg (fun z : Int32 => (.int z :: [.int (nI 144), .ref 272] : List Value)) ((RmB.m (RmB.set (hP6.1 hs6) (k := 37 + (M 3)) (i := 178 + (M 3)) (by omega) (by omega)) 3 (by omega)).trans (congrArg nI (by rw [setN_o (by omega), setN_o (by omega), setN_o (by omega)])))) rfl ?_
                refine WP.run (pc' := 147) (L' := [.ref 271, .int (nI (M 3))]) (st' := [.int ((nI (M 3)) + (nI 1)), .int (nI 144), .ref 272]) (I1 := (upN J6 272 (178 + (M 3)) (nI ((rdNum T 0 (((rdNum T 1 9 (rdSign T 44 (rdNum T 1 99 (s.1 + 1, 0)).2)).1) - 1) (rdSign T 44 (rdNum T 1 9 (rdSign T 44 (rdNum T 1 99 (s.1 + 1, 0)).2)).2)).1)))) 2 rfl ?_
                refine WP.cg (st' := [.int (nI ((M 3) + 1)), .int (nI 144), .ref 272]) rfl (congrArg (fun z : Int32 => (.int z :: [.int (nI 144), .ref 272] : List Value)) (nI_add (M 3) 1)) rfl ?_
                refine WP.iast rfl rfl rfl (by omega) (by decide) ?_
                refine WP.run (pc' := 151) (L' := [.ref 271, .int (nI (M 3))]) (st' := [.int (nI 59), .ref 271]) (I1 := (upN (upN J6 272 (178 + (M 3)) (nI ((rdNum T 0 (((rdNum T 1 9 (rdSign T 44 (rdNum T 1 99 (s.1 + 1, 0)).2)).1) - 1) (rdSign T 44 (rdNum T 1 9 (rdSign T 44 (rdNum T 1 99 (s.1 + 1, 0)).2)).2)).1))) 272 144 (nI ((M 3) + 1)))) 2 rfl ?_
                refine WP.callX (rest := []) rfl rfl (ms_takes (d := d + 1) (s := (rdNum T 0 (((rdNum T 1 9 (rdSign T 44 (rdNum T 1 99 (s.1 + 1, 0)).2)).1) - 1) (rdSign T 44 (rdNum T 1 9 (rdSign T 44 (rdNum T 1 99 (s.1 + 1, 0)).2)).2)).2) (c := 59) (RmB.set (RmB.set (hP6.1 hs6) (k := 37 + (M 3)) (i := 178 + (M 3)) (by omega) (by omega)) (k := 3) (i := 144) (by omega) (by omega)) hs6 (by decide)) (fun v J7 hv => ?_)
                obtain ⟨rfl, hP7, hO7⟩ := hv
                exact WP.ret rfl rtn_b (by
                                  rw [if_pos hc99]
                                  have e1 : pCl T M s.1 = ((rdSign T 59 (rdNum T 0 (((rdNum T 1 9 (rdSign T 44 (rdNum T 1 99 (s.1 + 1, 0)).2)).1) - 1) (rdSign T 44 (rdNum T 1 9 (rdSign T 44 (rdNum T 1 99 (s.1 + 1, 0)).2)).2)).2), (setN (setN (setN (setN M (27 + (M 3)) ((rdNum T 1 99 (s.1 + 1, 0)).1)) (32 + (M 3)) ((rdNum T 1 9 (rdSign T 44 (rdNum T 1 99 (s.1 + 1, 0)).2)).1)) (37 + (M 3)) ((rdNum T 0 (((rdNum T 1 9 (rdSign T 44 (rdNum T 1 99 (s.1 + 1, 0)).2)).1) - 1) (rdSign T 44 (rdNum T 1 9 (rdSign T 44 (rdNum T 1 99 (s.1 + 1, 0)).2)).2)).1)) 3 ((M 3) + 1))) := if_pos (by omega)
                                  rw [e1]
                                  exact ⟨rfl, hP7, (Only.up (Only.up (((Only.up (((Only.up ((Only.rfl_.tr hO1).tr hO2) (Or.inr ⟨rfl, by omega, by omega⟩)).tr hO3).tr hO4) (Or.inr ⟨rfl, by omega, by omega⟩)).tr hO5).tr hO6) (Or.inr ⟨rfl, by omega, by omega⟩)) (Or.inr ⟨rfl, by omega, by omega⟩)).tr hO7⟩)
              · refine WP.cg (st' := [.int (nI 0)]) rfl (by rw [b2iF hs6]; rfl) rfl ?_
                refine WP.run (pc' := 121) (L' := [.ref 271, .int (nI (M 3))]) (st' := [.int (nI 0)]) (I1 := J6) 2 rfl ?_
                exact WP.ret rfl rfl (by
                                  rw [if_pos hc99]
                                  have e1 : (pCl T M s.1).1 = (rdNum T 0 (((rdNum T 1 9 (rdSign T 44 (rdNum T 1 99 (s.1 + 1, 0)).2)).1) - 1) (rdSign T 44 (rdNum T 1 9 (rdSign T 44 (rdNum T 1 99 (s.1 + 1, 0)).2)).2)).2 := by
                                    unfold pCl; rw [if_pos (by omega)]; unfold pClC pClB pClA; simp only [rdNum_f hs6, rdSign_f hs6]
                                  rw [e1]
                                  exact ⟨congrArg (fun z : Int32 => some (Value.int z)) (b2iF hs6).symm, PM.bad hP6 hs6, ((Only.up (((Only.up ((Only.rfl_.tr hO1).tr hO2) (Or.inr ⟨rfl, by omega, by omega⟩)).tr hO3).tr hO4) (Or.inr ⟨rfl, by omega, by omega⟩)).tr hO5).tr hO6⟩)
            · refine WP.cg (st' := [.int (nI 0)]) rfl (by rw [b2iF hs5]; rfl) rfl ?_
              refine WP.run (pc' := 121) (L' := [.ref 271, .int (nI (M 3))]) (st' := [.int (nI 0)]) (I1 := J5) 2 rfl ?_
              exact WP.ret rfl rfl (by
                              rw [if_pos hc99]
                              have e1 : (pCl T M s.1).1 = (rdSign T 44 (rdNum T 1 9 (rdSign T 44 (rdNum T 1 99 (s.1 + 1, 0)).2)).2) := by
                                unfold pCl; rw [if_pos (by omega)]; unfold pClC pClB pClA; simp only [rdNum_f hs5, rdSign_f hs5]
                              rw [e1]
                              exact ⟨congrArg (fun z : Int32 => some (Value.int z)) (b2iF hs5).symm, PM.bad hP5 hs5, (Only.up (((Only.up ((Only.rfl_.tr hO1).tr hO2) (Or.inr ⟨rfl, by omega, by omega⟩)).tr hO3).tr hO4) (Or.inr ⟨rfl, by omega, by omega⟩)).tr hO5⟩)
          · refine WP.cg (st' := [.int (nI 0)]) rfl (by rw [b2iF hs4]; rfl) rfl ?_
            refine WP.run (pc' := 76) (L' := [.ref 271, .int (nI (M 3))]) (st' := [.int (nI 0)]) (I1 := J4) 2 rfl ?_
            exact WP.ret rfl rfl (by
                          rw [if_pos hc99]
                          have e1 : (pCl T M s.1).1 = (rdNum T 1 9 (rdSign T 44 (rdNum T 1 99 (s.1 + 1, 0)).2)).2 := by
                            unfold pCl; rw [if_pos (by omega)]; unfold pClC pClB pClA; simp only [rdNum_f hs4, rdSign_f hs4]
                          rw [e1]
                          exact ⟨congrArg (fun z : Int32 => some (Value.int z)) (b2iF hs4).symm, PM.bad hP4 hs4, ((Only.up ((Only.rfl_.tr hO1).tr hO2) (Or.inr ⟨rfl, by omega, by omega⟩)).tr hO3).tr hO4⟩)
        · refine WP.cg (st' := [.int (nI 0)]) rfl (by rw [b2iF hs3]; rfl) rfl ?_
          refine WP.run (pc' := 76) (L' := [.ref 271, .int (nI (M 3))]) (st' := [.int (nI 0)]) (I1 := J3) 2 rfl ?_
          exact WP.ret rfl rfl (by
                      rw [if_pos hc99]
                      have e1 : (pCl T M s.1).1 = (rdSign T 44 (rdNum T 1 99 (s.1 + 1, 0)).2) := by
                        unfold pCl; rw [if_pos (by omega)]; unfold pClC pClB pClA; simp only [rdNum_f hs3, rdSign_f hs3]
                      rw [e1]
                      exact ⟨congrArg (fun z : Int32 => some (Value.int z)) (b2iF hs3).symm, PM.bad hP3 hs3, (Only.up ((Only.rfl_.tr hO1).tr hO2) (Or.inr ⟨rfl, by omega, by omega⟩)).tr hO3⟩)
      · refine WP.cg (st' := [.int (nI 0)]) rfl (by rw [b2iF hs2]; rfl) rfl ?_
        refine WP.run (pc' := 41) (L' := [.ref 271, .int (nI (M 3))]) (st' := [.int (nI 0)]) (I1 := J2) 2 rfl ?_
        exact WP.ret rfl rfl (by
                  rw [if_pos hc99]
                  have e1 : (pCl T M s.1).1 = (rdNum T 1 99 (s.1 + 1, 0)).2 := by
                    unfold pCl; rw [if_pos (by omega)]; unfold pClC pClB pClA; simp only [rdNum_f hs2, rdSign_f hs2]
                  rw [e1]
                  exact ⟨congrArg (fun z : Int32 => some (Value.int z)) (b2iF hs2).symm, PM.bad hP2 hs2, (Only.rfl_.tr hO1).tr hO2⟩)
    · have h1 : M 3 = 5 := nI_eq_ (by omega) (by omega) (Decidable.byContradiction h1)
      refine WP.run (pc' := 26) (L' := [.ref 271, .int (nI (M 3))]) (st' := [.ref 271]) (I1 := J1) 1 rfl ?_
      refine WP.callV (rest := []) rfl rfl (ms_isMore (d := d + 2) (I := J1) (p := s.1 + 1) (hP1.1 rfl) (by omega)) ?_
      exact WP.ret rfl rfl (by
              rw [if_pos hc99, show pCl T M s.1 = ((s.1, 3), M) from if_neg (by omega)]
              exact ⟨congrArg (fun z : Int32 => some (Value.int z)) (b2iF (by dsimp only; decide)).symm, ⟨fun q => absurd q (by dsimp only; decide), fun _ => ⟨by rw [upN_nk (by decide), upN_s, Nat.add_sub_cancel], upN_s⟩⟩, Only.up (Only.up (Only.rfl_.tr hO1) (Or.inl ⟨rfl, by decide, by decide⟩)) (Or.inl ⟨rfl, by decide, by decide⟩)⟩)
  · refine WP.cg (st' := [.int (nI 0)]) rfl (by rw [b2iF hs1]; rfl) rfl ?_
    refine WP.run (pc' := 10) (L' := [.ref 271, UU]) (st' := [.int (nI 0)]) (I1 := J1) 2 rfl ?_
    exact WP.ret rfl rfl (by
          have hn : ¬ T.2 s.1 = 99 := fun q => hs1 (by rw [show rdSign T 99 s = (s.1 + 1, 0) by (unfold rdSign; (repeat first | rw [if_pos (by first | assumption | omega | (refine inA_iff.mpr ?_; omega) | (intro q; have q2 := inA_iff.mp q; omega) | (intro q; omega) | (refine ⟨?_, ?_⟩ <;> rw [nI_int (by omega)] <;> omega) | (rw [nI_int (by omega)]; omega) | (intro q; rw [nI_int (by omega)] at q; omega) | (refine ⟨?_, ?_, ?_⟩ <;> omega) | (intro q; obtain ⟨q1, q2, q3⟩ := q; omega) | fail)] | rw [if_neg (by first | assumption | omega | (refine inA_iff.mpr ?_; omega) | (intro q; have q2 := inA_iff.mp q; omega) | (intro q; omega) | (refine ⟨?_, ?_⟩ <;> rw [nI_int (by omega)] <;> omega) | (rw [nI_int (by omega)]; omega) | (intro q; rw [nI_int (by omega)] at q; omega) | (refine ⟨?_, ?_, ?_⟩ <;> omega) | (intro q; obtain ⟨q1, q2, q3⟩ := q; omega) | fail)])) <;> rfl])
          have e1 : rdSign T 99 s = (s.1, 1) := by (unfold rdSign; (repeat first | rw [if_pos (by first | assumption | omega | (refine inA_iff.mpr ?_; omega) | (intro q; have q2 := inA_iff.mp q; omega) | (intro q; omega) | (refine ⟨?_, ?_⟩ <;> rw [nI_int (by omega)] <;> omega) | (rw [nI_int (by omega)]; omega) | (intro q; rw [nI_int (by omega)] at q; omega) | (refine ⟨?_, ?_, ?_⟩ <;> omega) | (intro q; obtain ⟨q1, q2, q3⟩ := q; omega) | fail)] | rw [if_neg (by first | assumption | omega | (refine inA_iff.mpr ?_; omega) | (intro q; have q2 := inA_iff.mp q; omega) | (intro q; omega) | (refine ⟨?_, ?_⟩ <;> rw [nI_int (by omega)] <;> omega) | (rw [nI_int (by omega)]; omega) | (intro q; rw [nI_int (by omega)] at q; omega) | (refine ⟨?_, ?_, ?_⟩ <;> omega) | (intro q; obtain ⟨q1, q2, q3⟩ := q; omega) | fail)])) <;> rfl
          rw [if_neg hn]
          rw [e1] at hP1
          exact ⟨congrArg (fun z : Int32 => some (Value.int z)) (b2iF (by dsimp only; decide)).symm, hP1, Only.rfl_.tr hO1⟩)
