/-! how a tower is read: the tape (how many, bytes), where one is and the fault, the numbers -/
def rdSign (T : TpS) (c : Nat) (s : Nat × Nat) : Nat × Nat := if s.2 = 0 then (if s.1 < T.1 then (if T.2 s.1 = c then (s.1 + 1, 0) else (s.1, 1)) else (s.1, 1)) else s
def fgB (T : TpS) (p j : Nat) : Bool := Nat.blt (p + j) T.1 && (Nat.ble 48 (T.2 (p + j)) && Nat.ble (T.2 (p + j)) 57)
def nfT (T : TpS) (p : Nat) : Nat := bif fgB T p 0 then (bif fgB T p 1 then (bif fgB T p 2 then 3 else 2) else 1) else 0
def nvk (T : TpS) (p : Nat) : Nat → Nat
  | 0 => 0
  | k + 1 => 10 * nvk T p k + T.2 (p + k) - 48
def rdNum (T : TpS) (lo hi : Nat) (s : Nat × Nat) : Nat × (Nat × Nat) := if s.2 = 0 then (if nfT T s.1 = 0 then (0, (s.1, 1)) else if 2 < nfT T s.1 then (0, (s.1, 1)) else if nvk T s.1 (nfT T s.1) < lo then (0, (s.1, 2)) else if hi < nvk T s.1 (nfT T s.1) then (0, (s.1, 2)) else (nvk T s.1 (nfT T s.1), (s.1 + nfT T s.1, 0))) else (0, s)
theorem rdSign_f {T : TpS} {c : Nat} {s : Nat × Nat} (h : ¬ s.2 = 0) : rdSign T c s = s := if_neg h
theorem rdNum_f {T : TpS} {lo hi : Nat} {s : Nat × Nat} (h : ¬ s.2 = 0) : rdNum T lo hi s = (0, s) := if_neg h
theorem fgB_t {T : TpS} {p j : Nat} (h1 : p + j < T.1) (h2 : 48 ≤ T.2 (p + j)) (h3 : T.2 (p + j) ≤ 57) : fgB T p j = true := by
  unfold fgB
  rw [Nat.blt_eq.mpr h1, Nat.ble_eq.mpr h2, Nat.ble_eq.mpr h3]
  rfl
theorem fgB_i {T : TpS} {p j : Nat} (h : fgB T p j = true) : p + j < T.1 ∧ 48 ≤ T.2 (p + j) ∧ T.2 (p + j) ≤ 57 := by
  unfold fgB at h
  simp only [Bool.and_eq_true, Nat.blt_eq, Nat.ble_eq] at h
  exact h
theorem fgB_f {T : TpS} {p j : Nat} (h : ¬ (p + j < T.1 ∧ 48 ≤ T.2 (p + j) ∧ T.2 (p + j) ≤ 57)) : fgB T p j = false := by
  cases e : fgB T p j
  · rfl
  · exact absurd (fgB_i e) h
theorem nfT_le {T : TpS} {p : Nat} : nfT T p ≤ 3 := by
  unfold nfT
  cases fgB T p 0 <;> cases fgB T p 1 <;> cases fgB T p 2 <;> decide
theorem nfT_all {T : TpS} {p : Nat} : ∀ j, j < nfT T p → fgB T p j = true := by
  intro j hj
  unfold nfT at hj
  revert hj
  cases e0 : fgB T p 0 <;> cases e1 : fgB T p 1 <;> cases e2 : fgB T p 2 <;> (intro hj; simp only [cond_true, cond_false] at hj) <;>
    (match j, hj with
     | 0, _ => first | exact e0 | omega
     | 1, _ => first | exact e1 | omega
     | 2, _ => first | exact e2 | omega
     | j + 3, hj => omega)
theorem nfT_eq {T : TpS} {p k : Nat} (hk : k ≤ 3) (h : ∀ j, j < k → fgB T p j = true) (h2 : k = 3 ∨ fgB T p k = false) : nfT T p = k := by
  unfold nfT
  match k, hk with
  | 0, _ =>
    rw [h2.resolve_left (by decide)]
    rfl
  | 1, _ =>
    rw [h 0 (by decide), h2.resolve_left (by decide)]
    rfl
  | 2, _ =>
    rw [h 0 (by decide), h 1 (by decide), h2.resolve_left (by decide)]
    rfl
  | 3, _ =>
    rw [h 0 (by decide), h 1 (by decide), h 2 (by decide)]
    rfl
theorem nfT_in {T : TpS} {p : Nat} (hp : p ≤ T.1) : p + nfT T p ≤ T.1 := by
  have h := nfT_all (T := T) (p := p)
  rcases Nat.eq_zero_or_pos (nfT T p) with q | q
  · omega
  · have := (fgB_i (h (nfT T p - 1) (by omega))).1
    omega
theorem nvk_le {T : TpS} {p : Nat} : ∀ k, k ≤ 3 → (∀ j, j < k → fgB T p j = true) → nvk T p k ≤ 999 ∧ (k ≤ 1 → nvk T p k ≤ 9) ∧ (k ≤ 2 → nvk T p k ≤ 99) := by
  intro k hk h
  match k, hk with
  | 0, _ =>
    show 0 ≤ 999 ∧ _
    exact ⟨by omega, fun _ => by show 0 ≤ 9; omega, fun _ => by show 0 ≤ 99; omega⟩
  | 1, _ =>
    have a0 := fgB_i (h 0 (by decide))
    show 10 * 0 + T.2 (p + 0) - 48 ≤ 999 ∧ (_ → 10 * 0 + T.2 (p + 0) - 48 ≤ 9) ∧ (_ → 10 * 0 + T.2 (p + 0) - 48 ≤ 99)
    omega
  | 2, _ =>
    have a0 := fgB_i (h 0 (by decide))
    have a1 := fgB_i (h 1 (by decide))
    show 10 * (10 * 0 + T.2 (p + 0) - 48) + T.2 (p + 1) - 48 ≤ 999 ∧ (2 ≤ 1 → _) ∧ (_ → 10 * (10 * 0 + T.2 (p + 0) - 48) + T.2 (p + 1) - 48 ≤ 99)
    exact ⟨by omega, fun q => by omega, fun _ => by omega⟩
  | 3, _ =>
    have a0 := fgB_i (h 0 (by decide))
    have a1 := fgB_i (h 1 (by decide))
    have a2 := fgB_i (h 2 (by decide))
    show 10 * (10 * (10 * 0 + T.2 (p + 0) - 48) + T.2 (p + 1) - 48) + T.2 (p + 2) - 48 ≤ 999 ∧ (3 ≤ 1 → _) ∧ (3 ≤ 2 → _)
    exact ⟨by omega, fun q => by omega, fun q => by omega⟩
theorem rdSign_le {T : TpS} {c : Nat} {s : Nat × Nat} (h : s.1 ≤ T.1) (h2 : s.2 ≤ 3) : (rdSign T c s).1 ≤ T.1 ∧ (rdSign T c s).2 ≤ 3 := by
  unfold rdSign
  split
  · split
    · split
      · exact ⟨by show s.1 + 1 ≤ T.1; omega, by dsimp only; decide⟩
      · exact ⟨h, by dsimp only; decide⟩
    · exact ⟨h, by dsimp only; decide⟩
  · exact ⟨h, h2⟩
theorem rdNum_le {T : TpS} {lo hi : Nat} {s : Nat × Nat} (h : s.1 ≤ T.1) (h2 : s.2 ≤ 3) : (rdNum T lo hi s).2.1 ≤ T.1 ∧ (rdNum T lo hi s).2.2 ≤ 3 ∧ (rdNum T lo hi s).1 ≤ hi ∧ ((rdNum T lo hi s).2.2 = 0 → lo ≤ (rdNum T lo hi s).1) := by
  have hn := nfT_in h
  unfold rdNum
  split
  · split
    · exact ⟨h, (by dsimp only; decide), Nat.zero_le _, fun q => absurd q (by dsimp only; decide)⟩
    · split
      · exact ⟨h, (by dsimp only; decide), Nat.zero_le _, fun q => absurd q (by dsimp only; decide)⟩
      · split
        · exact ⟨h, (by dsimp only; decide), Nat.zero_le _, fun q => absurd q (by dsimp only; decide)⟩
        · split
          · exact ⟨h, (by dsimp only; decide), Nat.zero_le _, fun q => absurd q (by dsimp only; decide)⟩
          · refine ⟨hn, (by dsimp only; decide), ?_, fun _ => ?_⟩
            · show nvk T s.1 (nfT T s.1) ≤ hi
              omega
            · show lo ≤ nvk T s.1 (nfT T s.1)
              omega
  · rename_i q
    exact ⟨h, h2, Nat.zero_le _, fun z => absurd z q⟩
def srt (b : Nat) : Nat := if b = 104 then 1 else if b = 115 then 2 else if b = 103 then 3 else if b = 114 then 4 else if b = 119 then 5 else 0
theorem srt_le (b : Nat) : srt b ≤ 5 := by
  unfold srt
  repeat first | split | decide
def srP (T : TpS) (p : Nat) : Nat := if p < T.1 then srt (T.2 p) else 0
theorem srP_le {T : TpS} {p : Nat} : srP T p ≤ 5 := by
  unfold srP
  split
  · exact srt_le _
  · decide
/-- the law, a strand, a climber -/
def pLaw (T : TpS) (M : Nat → Nat) (s : Nat × Nat) : (Nat × Nat) × (Nat → Nat) := (rdSign T 59 (rdNum T 1 99 (rdSign T 44 (rdNum T 1 99 (rdSign T 116 s)).2)).2, setN (setN M 0 (rdNum T 1 99 (rdSign T 116 s)).1) 1 (rdNum T 1 99 (rdSign T 44 (rdNum T 1 99 (rdSign T 116 s)).2)).1)
def pStr (T : TpS) (M : Nat → Nat) (p : Nat) : (Nat × Nat) × (Nat → Nat) := if M 2 < 6 then (rdSign T 59 (rdNum T 1 99 (p + 1, 0)).2, setN (setN (setN M (9 + M 2) (srP T p)) (15 + M 2) (rdNum T 1 99 (p + 1, 0)).1) 2 (M 2 + 1)) else ((p, 3), M)
def pClA (T : TpS) (p : Nat) : Nat × (Nat × Nat) := rdNum T 1 99 (p + 1, 0)
def pClB (T : TpS) (p : Nat) : Nat × (Nat × Nat) := rdNum T 1 9 (rdSign T 44 (pClA T p).2)
def pClC (T : TpS) (p : Nat) : Nat × (Nat × Nat) := rdNum T 0 ((pClB T p).1 - 1) (rdSign T 44 (pClB T p).2)
def pCl (T : TpS) (M : Nat → Nat) (p : Nat) : (Nat × Nat) × (Nat → Nat) := if M 3 < 5 then (rdSign T 59 (pClC T p).2, setN (setN (setN (setN M (27 + M 3) (pClA T p).1) (32 + M 3) (pClB T p).1) (37 + M 3) (pClC T p).1) 3 (M 3 + 1)) else ((p, 3), M)
abbrev PS : Type := (Nat × Nat) × (Nat → Nat)
abbrev cS (T : TpS) (x : PS) : Prop := x.1.2 = 0 ∧ ¬ srP T x.1.1 = 0
abbrev cC (T : TpS) (x : PS) : Prop := x.1.2 = 0 ∧ x.1.1 < T.1 ∧ T.2 x.1.1 = 99
def itS (T : TpS) (x : PS) : Nat → PS
  | 0 => x
  | t + 1 => if cS T (itS T x t) then pStr T (itS T x t).2 (itS T x t).1.1 else itS T x t
def itC (T : TpS) (x : PS) : Nat → PS
  | 0 => x
  | t + 1 => if cC T (itC T x t) then pCl T (itC T x t).2 (itC T x t).1.1 else itC T x t
theorem itS_e {T : TpS} {x : PS} {t : Nat} : itS T x (t + 1) = if cS T (itS T x t) then pStr T (itS T x t).2 (itS T x t).1.1 else itS T x t := rfl
theorem itC_e {T : TpS} {x : PS} {t : Nat} : itC T x (t + 1) = if cC T (itC T x t) then pCl T (itC T x t).2 (itC T x t).1.1 else itC T x t := rfl
theorem itS_stay {T : TpS} {x : PS} {t : Nat} (h : ¬ cS T (itS T x t)) : ∀ j, itS T x (t + j) = itS T x t := by
  intro j
  induction j with
  | zero => rfl
  | succ j ih => rw [show t + (j + 1) = (t + j) + 1 from rfl, itS_e, ih, if_neg h]
theorem itC_stay {T : TpS} {x : PS} {t : Nat} (h : ¬ cC T (itC T x t)) : ∀ j, itC T x (t + j) = itC T x t := by
  intro j
  induction j with
  | zero => rfl
  | succ j ih => rw [show t + (j + 1) = (t + j) + 1 from rfl, itC_e, ih, if_neg h]
theorem itS_end {T : TpS} {x : PS} {t : Nat} (ht : t ≤ 120) (h : ¬ cS T (itS T x t)) : itS T x 120 = itS T x t := by
  have := itS_stay h (120 - t)
  rw [show t + (120 - t) = 120 by omega] at this
  exact this
theorem itC_end {T : TpS} {x : PS} {t : Nat} (ht : t ≤ 120) (h : ¬ cC T (itC T x t)) : itC T x 120 = itC T x t := by
  have := itC_stay h (120 - t)
  rw [show t + (120 - t) = 120 by omega] at this
  exact this
theorem pStr_2 {T : TpS} {M : Nat → Nat} {p : Nat} (h : M 2 < 6) : (pStr T M p).2 2 = M 2 + 1 := by
  unfold pStr
  rw [if_pos h]
  dsimp only
  exact setN_s
theorem pCl_3 {T : TpS} {M : Nat → Nat} {p : Nat} (h : M 3 < 5) : (pCl T M p).2 3 = M 3 + 1 := by
  unfold pCl
  rw [if_pos h]
  dsimp only
  exact setN_s
theorem itS_cnt {T : TpS} {x : PS} (h2 : x.2 2 = 0) : ∀ t, ¬ cS T (itS T x t) ∨ ((itS T x t).2 2 = t ∧ t ≤ 6) := by
  intro t
  induction t with
  | zero => exact Or.inr ⟨h2, by decide⟩
  | succ t ih =>
    by_cases hc : cS T (itS T x t)
    · obtain ⟨i1, i2⟩ := ih.resolve_left (fun q => q hc)
      rw [itS_e, if_pos hc]
      rcases Nat.lt_or_ge t 6 with q | q
      · exact Or.inr ⟨by rw [pStr_2 (by omega), i1], by omega⟩
      · left
        unfold pStr
        rw [if_neg (by omega)]
        intro z
        exact absurd z.1 (by dsimp only; decide)
    · left
      rw [itS_e, if_neg hc]
      exact hc
theorem itC_cnt {T : TpS} {x : PS} (h2 : x.2 3 = 0) : ∀ t, ¬ cC T (itC T x t) ∨ ((itC T x t).2 3 = t ∧ t ≤ 5) := by
  intro t
  induction t with
  | zero => exact Or.inr ⟨h2, by decide⟩
  | succ t ih =>
    by_cases hc : cC T (itC T x t)
    · obtain ⟨i1, i2⟩ := ih.resolve_left (fun q => q hc)
      rw [itC_e, if_pos hc]
      rcases Nat.lt_or_ge t 5 with q | q
      · exact Or.inr ⟨by rw [pCl_3 (by omega), i1], by omega⟩
      · left
        unfold pCl
        rw [if_neg (by omega)]
        intro z
        exact absurd z.1 (by dsimp only; decide)
    · left
      rw [itC_e, if_neg hc]
      exact hc
theorem itS_120 {T : TpS} {x : PS} (h2 : x.2 2 = 0) : ¬ cS T (itS T x 120) := (itS_cnt h2 120).resolve_right (fun q => absurd q.2 (by decide))
theorem itC_120 {T : TpS} {x : PS} (h2 : x.2 3 = 0) : ¬ cC T (itC T x 120) := (itC_cnt h2 120).resolve_right (fun q => absurd q.2 (by decide))
/-- bounds that hold while one reads -/
def PI (T : TpS) (x : PS) : Prop := x.1.1 ≤ T.1 ∧ x.1.2 ≤ 3 ∧ x.2 2 ≤ 6 ∧ x.2 3 ≤ 5 ∧ (∀ k, k < 47 → x.2 k ≤ 99) ∧ (x.1.2 = 0 → TI (setN x.2 8 1))
def Z0 : Nat → Nat := fun _ => 0
theorem TI.nums {N : Nat → Nat} (h1 : N 0 ≤ 99) (h2 : N 1 ≤ 99) : N 2 = 0 → N 3 = 0 → N 4 = 0 → N 5 = 0 → N 6 = 0 → N 7 = 0 → N 8 = 1 → (∀ k, k < 6 → N (9 + k) ≤ 5 ∧ N (15 + k) ≤ 99 ∧ N (21 + k) ≤ 198) → (∀ c, c < 5 → N (27 + c) ≤ 99 ∧ N (32 + c) ≤ 9 ∧ N (37 + c) ≤ 8) → TI N := by
  intro e2 e3 e4 e5 e6 e7 e8 hS hC
  refine ⟨h1, h2, by omega, by omega, by omega, by omega, ?_, ?_, by omega, hS, hC, fun k hk => by omega, fun c hc => by omega, fun q => by omega, ?_⟩
  · rw [e6]
    exact Nat.two_pow_pos _
  · rw [e7]
    exact Nat.two_pow_pos _
  · rw [e6, Nat.zero_and]
theorem PI_law {T : TpS} : PI T (pLaw T Z0 (0, 0)) := by
  have a1 := rdSign_le (T := T) (c := 116) (s := (0, 0)) (Nat.zero_le _) (by decide)
  have a2 := rdNum_le (T := T) (lo := 1) (hi := 99) a1.1 a1.2
  have a3 := rdSign_le (T := T) (c := 44) a2.1 a2.2.1
  have a4 := rdNum_le (T := T) (lo := 1) (hi := 99) a3.1 a3.2
  have a5 := rdSign_le (T := T) (c := 59) a4.1 a4.2.1
  have b1 := a2.2.2.1
  have b2 := a4.2.2.1
  unfold pLaw
  generalize (rdNum T 1 99 (rdSign T 44 (rdNum T 1 99 (rdSign T 116 (0, 0))).2)).1 = v2 at b2 ⊢
  generalize (rdNum T 1 99 (rdSign T 116 (0, 0))).1 = v1 at b1 ⊢
  have e : ∀ i, 2 ≤ i → setN (setN Z0 0 v1) 1 v2 i = 0 := fun i hi => by
    rw [setN_o (by omega), setN_o (by omega)]
    rfl
  refine ⟨a5.1, a5.2, (by dsimp only; rw [e 2 (by decide)]; decide), (by dsimp only; rw [e 3 (by decide)]; decide), fun k hk => ?_, fun _ => ?_⟩
  · show setN (setN Z0 0 v1) 1 v2 k ≤ 99
    by_cases q1 : k = 1
    · rw [q1, setN_s]
      exact b2
    · rw [setN_o q1]
      by_cases q0 : k = 0
      · rw [q0, setN_s]
        exact b1
      · rw [setN_o q0]
        exact Nat.zero_le _
  · have e8 : ∀ i, 2 ≤ i → ¬ i = 8 → setN (setN (setN Z0 0 v1) 1 v2) 8 1 i = 0 := fun i hi h8 => by rw [setN_o h8, e i hi]
    refine TI.nums ?_ ?_ (e8 2 (by decide) (by decide)) (e8 3 (by decide) (by decide)) (e8 4 (by decide) (by decide)) (e8 5 (by decide) (by decide)) (e8 6 (by decide) (by decide)) (e8 7 (by decide) (by decide)) setN_s (fun k hk => ?_) (fun c hc => ?_)
    · show setN (setN (setN Z0 0 v1) 1 v2) 8 1 0 ≤ 99
      rw [setN_o (by decide), setN_o (by decide), setN_s]
      exact b1
    · show setN (setN (setN Z0 0 v1) 1 v2) 8 1 1 ≤ 99
      rw [setN_o (by decide), setN_s]
      exact b2
    · rw [e8 _ (by omega) (by omega), e8 _ (by omega) (by omega), e8 _ (by omega) (by omega)]
      omega
    · rw [e8 _ (by omega) (by omega), e8 _ (by omega) (by omega), e8 _ (by omega) (by omega)]
      omega
theorem PI_str {T : TpS} {x : PS} (h : PI T x) (hc : cS T x) : PI T (pStr T x.2 x.1.1) := by
  obtain ⟨h1, h2, h3, h4, h5, h6⟩ := h
  obtain ⟨c1, c2⟩ := hc
  have hp : x.1.1 < T.1 := by
    rcases Nat.lt_or_ge x.1.1 T.1 with q | q
    · exact q
    · exact absurd (show srP T x.1.1 = 0 from if_neg (by omega)) c2
  have a2 := rdNum_le (T := T) (lo := 1) (hi := 99) (s := (x.1.1 + 1, 0)) (by show x.1.1 + 1 ≤ T.1; omega) (by dsimp only; decide)
  have a5 := rdSign_le (T := T) (c := 59) a2.1 a2.2.1
  have hs := srP_le (T := T) (p := x.1.1)
  have hT := h6 c1
  unfold pStr
  split
  · rename_i hlt
    have hf : (rdSign T 59 (rdNum T 1 99 (x.1.1 + 1, 0)).2).2 = 0 → 1 ≤ (rdNum T 1 99 (x.1.1 + 1, 0)).1 := by
      intro q
      by_cases z : (rdNum T 1 99 (x.1.1 + 1, 0)).2.2 = 0
      · exact a2.2.2.2 z
      · rw [rdSign_f z] at q
        exact absurd q z
    have b1 := a2.2.2.1
    generalize (rdNum T 1 99 (x.1.1 + 1, 0)).1 = v at b1 hf ⊢
    generalize hk : x.2 2 = k at *
    generalize srP T x.1.1 = sv at *
    refine ⟨a5.1, a5.2, ?_, ?_, fun i hi => ?_, fun q => ?_⟩
    · show setN (setN (setN x.2 (9 + k) sv) (15 + k) v) 2 (k + 1) 2 ≤ 6
      rw [setN_s]
      omega
    · show setN (setN (setN x.2 (9 + k) sv) (15 + k) v) 2 (k + 1) 3 ≤ 5
      rw [setN_o (by omega), setN_o (by omega), setN_o (by omega)]
      exact h4
    · show setN (setN (setN x.2 (9 + k) sv) (15 + k) v) 2 (k + 1) i ≤ 99
      unfold setN
      have := h5 i hi
      repeat first | split | omega
    · have hv := hf q
      have e : ∀ i, ¬ i = 2 → ¬ i = 9 + k → ¬ i = 15 + k → setN (setN (setN (setN x.2 (9 + k) sv) (15 + k) v) 2 (k + 1)) 8 1 i = setN x.2 8 1 i := by
        intro i q1 q2 q3
        by_cases q8 : i = 8
        · rw [q8, setN_s, setN_s]
        · rw [setN_o q8, setN_o q1, setN_o q3, setN_o q2, setN_o q8]
      have f2 : setN (setN (setN (setN x.2 (9 + k) sv) (15 + k) v) 2 (k + 1)) 8 1 2 = k + 1 := by rw [setN_o (by decide), setN_s]
      have f9 : setN (setN (setN (setN x.2 (9 + k) sv) (15 + k) v) 2 (k + 1)) 8 1 (9 + k) = sv := by rw [setN_o (by omega), setN_o (by omega), setN_o (by omega), setN_s]
      have f15 : setN (setN (setN (setN x.2 (9 + k) sv) (15 + k) v) 2 (k + 1)) 8 1 (15 + k) = v := by rw [setN_o (by omega), setN_o (by omega), setN_s]
      have g2 : setN x.2 8 1 2 = k := by rw [setN_o (by decide), hk]
      obtain ⟨t0, t1, t2, t3, t4, t5, t6, t7, t8, tS, tC, tS1, tC1, tZ, tG⟩ := hT
      rw [g2] at t6 t7 tS1
      have hpw : 2 ^ k ≤ 2 ^ (k + 1) := Nat.pow_le_pow_right (by decide) (Nat.le_succ k)
      refine ⟨?_, ?_, ?_, ?_, ?_, ?_, ?_, ?_, ?_, fun j hj => ?_, fun c hc => ?_, fun j hj => ?_, fun c hc => ?_, fun z => ?_, ?_⟩
      · rw [e 0 (by omega) (by omega) (by omega)]; exact t0
      · rw [e 1 (by omega) (by omega) (by omega)]; exact t1
      · rw [f2]; omega
      · rw [e 3 (by omega) (by omega) (by omega)]; exact t3
      · rw [e 4 (by omega) (by omega) (by omega)]; exact t4
      · rw [e 5 (by omega) (by omega) (by omega)]; exact t5
      · rw [e 6 (by omega) (by omega) (by omega), f2]; omega
      · rw [e 7 (by omega) (by omega) (by omega), f2]; omega
      · rw [e 8 (by omega) (by omega) (by omega)]; exact t8
      · rw [e (21 + j) (by omega) (by omega) (by omega)]
        obtain ⟨z1, z2, z3⟩ := tS j hj
        by_cases qj : j = k
        · rw [qj, f9, f15]
          rw [qj] at z3
          exact ⟨hs, b1, z3⟩
        · rw [e (9 + j) (by omega) (by omega) (by omega), e (15 + j) (by omega) (by omega) (by omega)]
          exact ⟨z1, z2, z3⟩
      · rw [e (27 + c) (by omega) (by omega) (by omega), e (32 + c) (by omega) (by omega) (by omega), e (37 + c) (by omega) (by omega) (by omega)]
        exact tC c hc
      · rw [f2] at hj
        by_cases qj : j = k
        · rw [qj, f9, f15]
          omega
        · rw [e (9 + j) (by omega) (by omega) (by omega), e (15 + j) (by omega) (by omega) (by omega)]
          exact tS1 j (by omega)
      · rw [e 3 (by omega) (by omega) (by omega)] at hc
        have h35 := t3
        rw [e (27 + c) (by omega) (by omega) (by omega), e (32 + c) (by omega) (by omega) (by omega), e (37 + c) (by omega) (by omega) (by omega)]
        exact tC1 c hc
      · rw [setN_s] at z
        exact absurd z (by decide)
      · rw [e 6 (by omega) (by omega) (by omega), e 7 (by omega) (by omega) (by omega)]
        exact tG
  · exact ⟨h1, (by dsimp only; decide), h3, h4, h5, fun q => absurd q (by dsimp only; decide)⟩
theorem PI_cl {T : TpS} {x : PS} (h : PI T x) (hc : cC T x) : PI T (pCl T x.2 x.1.1) := by
  obtain ⟨h1, h2, h3, h4, h5, h6⟩ := h
  obtain ⟨c1, hp, c2⟩ := hc
  have a2 := rdNum_le (T := T) (lo := 1) (hi := 99) (s := (x.1.1 + 1, 0)) (by show x.1.1 + 1 ≤ T.1; omega) (by dsimp only; decide)
  have a3 := rdSign_le (T := T) (c := 44) a2.1 a2.2.1
  have a4 := rdNum_le (T := T) (lo := 1) (hi := 9) a3.1 a3.2
  have a5 := rdSign_le (T := T) (c := 44) a4.1 a4.2.1
  have a6 := rdNum_le (T := T) (lo := 0) (hi := (pClB T x.1.1).1 - 1) a5.1 a5.2
  have a7 := rdSign_le (T := T) (c := 59) a6.1 a6.2.1
  have hT := h6 c1
  unfold pCl
  split
  · rename_i hlt
    have hf : (rdSign T 59 (pClC T x.1.1).2).2 = 0 → 1 ≤ (pClA T x.1.1).1 ∧ 1 ≤ (pClB T x.1.1).1 := by
      intro q
      have z3 : (pClC T x.1.1).2.2 = 0 := by
        by_cases z : (pClC T x.1.1).2.2 = 0
        · exact z
        · rw [rdSign_f z] at q
          exact absurd q z
      have z2 : (rdSign T 44 (pClB T x.1.1).2).2 = 0 := by
        by_cases z : (rdSign T 44 (pClB T x.1.1).2).2 = 0
        · exact z
        · unfold pClC at z3
          rw [rdNum_f z] at z3
          exact absurd z3 z
      have z1 : (pClB T x.1.1).2.2 = 0 := by
        by_cases z : (pClB T x.1.1).2.2 = 0
        · exact z
        · rw [rdSign_f z] at z2
          exact absurd z2 z
      have y2 : (rdSign T 44 (pClA T x.1.1).2).2 = 0 := by
        by_cases z : (rdSign T 44 (pClA T x.1.1).2).2 = 0
        · exact z
        · unfold pClB at z1
          rw [rdNum_f z] at z1
          exact absurd z1 z
      have y1 : (pClA T x.1.1).2.2 = 0 := by
        by_cases z : (pClA T x.1.1).2.2 = 0
        · exact z
        · rw [rdSign_f z] at y2
          exact absurd y2 z
      exact ⟨a2.2.2.2 y1, a4.2.2.2 z1⟩
    have b1 : (pClA T x.1.1).1 ≤ 99 := a2.2.2.1
    have b2 : (pClB T x.1.1).1 ≤ 9 := a4.2.2.1
    have b3 : (pClC T x.1.1).1 ≤ (pClB T x.1.1).1 - 1 := a6.2.2.1
    generalize (pClA T x.1.1).1 = v1 at b1 hf ⊢
    generalize (pClB T x.1.1).1 = v2 at b2 b3 hf ⊢
    generalize (pClC T x.1.1).1 = v3 at b3 ⊢
    generalize hk : x.2 3 = k at *
    refine ⟨a7.1, a7.2, ?_, ?_, fun i hi => ?_, fun q => ?_⟩
    · show setN (setN (setN (setN x.2 (27 + k) v1) (32 + k) v2) (37 + k) v3) 3 (k + 1) 2 ≤ 6
      rw [setN_o (by omega), setN_o (by omega), setN_o (by omega), setN_o (by omega)]
      exact h3
    · show setN (setN (setN (setN x.2 (27 + k) v1) (32 + k) v2) (37 + k) v3) 3 (k + 1) 3 ≤ 5
      rw [setN_s]
      omega
    · show setN (setN (setN (setN x.2 (27 + k) v1) (32 + k) v2) (37 + k) v3) 3 (k + 1) i ≤ 99
      unfold setN
      have := h5 i hi
      repeat first | split | omega
    · obtain ⟨hv1, hv2⟩ := hf q
      have e : ∀ i, ¬ i = 3 → ¬ i = 27 + k → ¬ i = 32 + k → ¬ i = 37 + k → setN (setN (setN (setN (setN x.2 (27 + k) v1) (32 + k) v2) (37 + k) v3) 3 (k + 1)) 8 1 i = setN x.2 8 1 i := by
        intro i q1 q2 q3 q4
        by_cases q8 : i = 8
        · rw [q8, setN_s, setN_s]
        · rw [setN_o q8, setN_o q1, setN_o q4, setN_o q3, setN_o q2, setN_o q8]
      have f3 : setN (setN (setN (setN (setN x.2 (27 + k) v1) (32 + k) v2) (37 + k) v3) 3 (k + 1)) 8 1 3 = k + 1 := by rw [setN_o (by decide), setN_s]
      have f27 : setN (setN (setN (setN (setN x.2 (27 + k) v1) (32 + k) v2) (37 + k) v3) 3 (k + 1)) 8 1 (27 + k) = v1 := by rw [setN_o (by omega), setN_o (by omega), setN_o (by omega), setN_o (by omega), setN_s]
      have f32 : setN (setN (setN (setN (setN x.2 (27 + k) v1) (32 + k) v2) (37 + k) v3) 3 (k + 1)) 8 1 (32 + k) = v2 := by rw [setN_o (by omega), setN_o (by omega), setN_o (by omega), setN_s]
      have f37 : setN (setN (setN (setN (setN x.2 (27 + k) v1) (32 + k) v2) (37 + k) v3) 3 (k + 1)) 8 1 (37 + k) = v3 := by rw [setN_o (by omega), setN_o (by omega), setN_s]
      have g3 : setN x.2 8 1 3 = k := by rw [setN_o (by decide), hk]
      obtain ⟨t0, t1, t2, t3, t4, t5, t6, t7, t8, tS, tC, tS1, tC1, tZ, tG⟩ := hT
      rw [g3] at tC1
      refine ⟨?_, ?_, ?_, ?_, ?_, ?_, ?_, ?_, ?_, fun j hj => ?_, fun c hc => ?_, fun j hj => ?_, fun c hc => ?_, fun z => ?_, ?_⟩
      · rw [e 0 (by omega) (by omega) (by omega) (by omega)]; exact t0
      · rw [e 1 (by omega) (by omega) (by omega) (by omega)]; exact t1
      · rw [e 2 (by omega) (by omega) (by omega) (by omega)]; exact t2
      · rw [f3]; omega
      · rw [e 4 (by omega) (by omega) (by omega) (by omega)]; exact t4
      · rw [e 5 (by omega) (by omega) (by omega) (by omega)]; exact t5
      · rw [e 6 (by omega) (by omega) (by omega) (by omega), e 2 (by omega) (by omega) (by omega) (by omega)]; exact t6
      · rw [e 7 (by omega) (by omega) (by omega) (by omega), e 2 (by omega) (by omega) (by omega) (by omega)]; exact t7
      · rw [e 8 (by omega) (by omega) (by omega) (by omega)]; exact t8
      · rw [e (9 + j) (by omega) (by omega) (by omega) (by omega), e (15 + j) (by omega) (by omega) (by omega) (by omega), e (21 + j) (by omega) (by omega) (by omega) (by omega)]
        exact tS j hj
      · by_cases qj : c = k
        · rw [qj, f27, f32, f37]
          omega
        · rw [e (27 + c) (by omega) (by omega) (by omega) (by omega), e (32 + c) (by omega) (by omega) (by omega) (by omega), e (37 + c) (by omega) (by omega) (by omega) (by omega)]
          exact tC c hc
      · rw [e 2 (by omega) (by omega) (by omega) (by omega)] at hj
        rw [e (9 + j) (by omega) (by omega) (by omega) (by omega), e (15 + j) (by omega) (by omega) (by omega) (by omega)]
        exact tS1 j hj
      · rw [f3] at hc
        by_cases qj : c = k
        · rw [qj, f27, f32, f37]
          omega
        · rw [e (27 + c) (by omega) (by omega) (by omega) (by omega), e (32 + c) (by omega) (by omega) (by omega) (by omega), e (37 + c) (by omega) (by omega) (by omega) (by omega)]
          exact tC1 c (by omega)
      · rw [setN_s] at z
        exact absurd z (by decide)
      · rw [e 6 (by omega) (by omega) (by omega) (by omega), e 7 (by omega) (by omega) (by omega) (by omega)]
        exact tG
  · exact ⟨h1, (by dsimp only; decide), h3, h4, h5, fun q => absurd q (by dsimp only; decide)⟩
theorem PI_itS {T : TpS} {x : PS} (h : PI T x) : ∀ t, PI T (itS T x t) := by
  intro t
  induction t with
  | zero => exact h
  | succ t ih =>
    rw [itS_e]
    split
    · exact PI_str ih (by assumption)
    · exact ih
theorem PI_itC {T : TpS} {x : PS} (h : PI T x) : ∀ t, PI T (itC T x t) := by
  intro t
  induction t with
  | zero => exact h
  | succ t ih =>
    rw [itC_e]
    split
    · exact PI_cl ih (by assumption)
    · exact ih
/-- a whole tower -/
def pAll (T : TpS) : PS := itC T (itS T (pLaw T Z0 (0, 0)) 120) 120
def pTow (T : TpS) : PS := if (pAll T).1.2 = 0 ∧ (pAll T).1.1 < T.1 then (((pAll T).1.1, 1), (pAll T).2) else pAll T
theorem PI_all {T : TpS} : PI T (pAll T) := PI_itC (PI_itS PI_law 120) 120
theorem PI_tow {T : TpS} : PI T (pTow T) := by
  have h := PI_all (T := T)
  unfold pTow
  generalize pAll T = x at h ⊢
  obtain ⟨h1, h2, h3, h4, h5, h6⟩ := h
  split
  · exact ⟨h1, (by dsimp only; decide), h3, h4, h5, fun q => absurd q (by dsimp only; decide)⟩
  · exact ⟨h1, h2, h3, h4, h5, h6⟩
