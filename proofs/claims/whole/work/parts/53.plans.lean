/-! plans: who climbs in a day, how much is worn, the search -/
def sumW (N : Nat → Nat) : Nat := N 21 + N 22 + N 23 + N 24 + N 25 + N 26
theorem sumW_set {N : Nat → Nat} {v : Nat} : ∀ k, k < 6 → sumW (setN N (21 + k) v) + N (21 + k) = sumW N + v := by
  intro k hk
  unfold sumW setN
  match k, hk with
  | 0, _ => show v + N 22 + N 23 + N 24 + N 25 + N 26 + N 21 = _; omega
  | 1, _ => show N 21 + v + N 23 + N 24 + N 25 + N 26 + N 22 = _; omega
  | 2, _ => show N 21 + N 22 + v + N 24 + N 25 + N 26 + N 23 = _; omega
  | 3, _ => show N 21 + N 22 + N 23 + v + N 25 + N 26 + N 24 = _; omega
  | 4, _ => show N 21 + N 22 + N 23 + N 24 + v + N 26 + N 25 = _; omega
  | 5, _ => show N 21 + N 22 + N 23 + N 24 + N 25 + v + N 26 = _; omega
theorem sumW_pt {X Y A B : Nat → Nat} (h : ∀ k, k < 6 → A (21 + k) + X (21 + k) = B (21 + k) + Y (21 + k)) : sumW A + sumW X = sumW B + sumW Y := by
  have h0 := h 0 (by decide)
  have h1 := h 1 (by decide)
  have h2 := h 2 (by decide)
  have h3 := h 3 (by decide)
  have h4 := h 4 (by decide)
  have h5 := h 5 (by decide)
  simp only [Nat.reduceAdd] at h0 h1 h2 h3 h4 h5
  unfold sumW
  omega
theorem sumW_le {N : Nat → Nat} (hN : TI N) : sumW N ≤ 1188 := by
  have h := hN.2.2.2.2.2.2.2.2.2.1
  have h0 := (h 0 (by decide)).2.2
  have h1 := (h 1 (by decide)).2.2
  have h2 := (h 2 (by decide)).2.2
  have h3 := (h 3 (by decide)).2.2
  have h4 := (h 4 (by decide)).2.2
  have h5 := (h 5 (by decide)).2.2
  simp only [Nat.reduceAdd] at h0 h1 h2 h3 h4 h5
  unfold sumW
  omega
theorem sumW_mono {X Y : Nat → Nat} (h : ∀ k, k < 6 → X (21 + k) ≤ Y (21 + k)) : sumW X ≤ sumW Y := by
  have h0 := h 0 (by decide)
  have h1 := h 1 (by decide)
  have h2 := h 2 (by decide)
  have h3 := h 3 (by decide)
  have h4 := h 4 (by decide)
  have h5 := h 5 (by decide)
  simp only [Nat.reduceAdd] at h0 h1 h2 h3 h4 h5
  unfold sumW
  omega
/-- the same, the worn strands apart -/
def same (X N : Nat → Nat) : Prop := ∀ i, ¬ (21 ≤ i ∧ i < 27) → X i = N i
theorem same.rfl_ {N : Nat → Nat} : same N N := fun _ _ => rfl
theorem same.tr {X Y Z : Nat → Nat} (h : same X Y) (g : same Y Z) : same X Z := fun i hi => (h i hi).trans (g i hi)
theorem wN_same {N : Nat → Nat} {m sh : Nat} : ∀ k, k ≤ 6 → same (wN N m sh k) N := by
  intro k hk i hi
  rcases Nat.lt_or_ge i 21 with q | q
  · exact wN_o k i hk (Or.inl q)
  · exact wN_o k i hk (Or.inr (by omega))
theorem wN_at {N : Nat → Nat} {m sh : Nat} : ∀ n, n ≤ 6 → ∀ k, k < 6 → wN N m sh n (21 + k) = N (21 + k) + (if k < n ∧ bitN m k = 1 then wearN (N (9 + k)) sh else 0) := by
  intro n
  induction n with
  | zero =>
    intro _ k _
    rw [if_neg (fun q => absurd q.1 (Nat.not_lt_zero _))]
    rfl
  | succ n ih =>
    intro hn k hk
    have h := ih (by omega) k hk
    unfold wN
    by_cases hb : bitN m n = 1
    · rw [if_pos hb]
      by_cases q : k = n
      · subst q
        rw [setN_s, if_pos ⟨Nat.lt_succ_self _, hb⟩, h, if_neg (fun z => absurd z.1 (Nat.lt_irrefl _)), wN_o k (9 + k) (by omega) (by omega), Nat.add_zero]
      · rw [setN_o (by omega), h]
        by_cases z : k < n ∧ bitN m k = 1
        · rw [if_pos z, if_pos ⟨by omega, z.2⟩]
        · rw [if_neg z, if_neg (fun w => z ⟨by omega, w.2⟩)]
    · rw [if_neg hb, h]
      by_cases z : k < n ∧ bitN m k = 1
      · rw [if_pos z, if_pos ⟨by omega, z.2⟩]
      · rw [if_neg z, if_neg (fun w => z ⟨by
          have : ¬ k = n := fun e => hb (e ▸ w.2)
          omega, w.2⟩)]
theorem brkP_zero {N : Nat → Nat} {m sh : Nat} : ∀ e, (∀ k, k < e → bitN m k = 1 → sh + N (21 + k) ≤ capN N k (popc m)) → brkP N m sh e = 0 := by
  intro e
  induction e with
  | zero => intro _; rfl
  | succ e ih =>
    intro h
    have h1 := ih (fun k hk hb => h k (by omega) hb)
    show brkP N m sh e + (if _ then _ else _) = 0
    rw [h1, if_neg (fun q => by have := h e (Nat.lt_succ_self _) q.1; have := q.2; omega)]
theorem same_cap {X N : Nat → Nat} (h : same X N) {k many : Nat} (hk : k < 6) : capN X k many = capN N k many := by
  unfold capN
  rw [h (9 + k) (by omega), h (15 + k) (by omega)]
theorem same_pull {X N : Nat → Nat} (h : same X N) {w : Nat} : pullN X w = pullN N w := by
  unfold pullN
  rw [h 5 (by omega)]
theorem same_dueP {X N : Nat → Nat} (h : same X N) {day : Nat} : ∀ c, dueP X day c = dueP N day c := by
  intro c
  induction c with
  | zero => rfl
  | succ c ih =>
    unfold dueP
    rw [ih, h (32 + c) (by omega), h (37 + c) (by omega)]
theorem same_due {X N : Nat → Nat} (h : same X N) {day : Nat} : dueN X day = dueN N day := by
  unfold dueN
  rw [h 3 (by omega)]
  exact same_dueP h _
theorem wear_ok2 {X : Nat → Nat} {m sh : Nat} (hX : TI X) (h1 : 1 ≤ sh) (hb : brkN X m sh = 0) : ∀ s, s < X 2 → bitN m s = 1 → X (21 + s) + wearN (X (9 + s)) sh ≤ 198 := by
  intro s hs hbit
  have h2 : X 2 ≤ 6 := hX.2.2.1
  have ha := brkP_z _ hb s hs hbit
  have hc := capN_le (k := s) (many := popc m) hX (by omega)
  have hw := wearN_le (s := X (9 + s)) h1
  omega
/-- the climbers under c that are due climb by m -/
def shA (X : Nat → Nat) (m c : Nat) : Nat := shareN (pullN X (X (27 + c))) m
def clA (X : Nat → Nat) (due m : Nat) : Nat → (Nat → Nat) × Bool
  | 0 => (X, true)
  | c + 1 => bif (clA X due m c).2 then (if bitN due c = 1 then (bif bornN (clA X due m c).1 ((clA X due m c).1 (27 + c)) m then (wN (clA X due m c).1 m (shA (clA X due m c).1 m c) ((clA X due m c).1 2), true) else ((clA X due m c).1, false)) else clA X due m c) else clA X due m c
theorem clA_e {X : Nat → Nat} {due m c : Nat} : clA X due m (c + 1) = bif (clA X due m c).2 then (if bitN due c = 1 then (bif bornN (clA X due m c).1 ((clA X due m c).1 (27 + c)) m then (wN (clA X due m c).1 m (shA (clA X due m c).1 m c) ((clA X due m c).1 2), true) else ((clA X due m c).1, false)) else clA X due m c) else clA X due m c := rfl
theorem clA_n {X : Nat → Nat} {due m c : Nat} (h : (clA X due m c).2 = true) (hb : ¬ bitN due c = 1) : clA X due m (c + 1) = clA X due m c := by
  rw [clA_e, h, cond_true, if_neg hb]
theorem clA_y {X : Nat → Nat} {due m c : Nat} (h : (clA X due m c).2 = true) (hb : bitN due c = 1) (hw : bornN (clA X due m c).1 ((clA X due m c).1 (27 + c)) m = true) : clA X due m (c + 1) = (wN (clA X due m c).1 m (shA (clA X due m c).1 m c) ((clA X due m c).1 2), true) := by
  rw [clA_e, h, cond_true, if_pos hb, hw, cond_true]
theorem clA_f {X : Nat → Nat} {due m c : Nat} (h : (clA X due m c).2 = true) (hb : bitN due c = 1) (hw : ¬ bornN (clA X due m c).1 ((clA X due m c).1 (27 + c)) m = true) : (clA X due m (c + 1)).2 = false := by
  rw [clA_e, h, cond_true, if_pos hb, Bool.eq_false_iff.mpr hw, cond_false]
theorem clA_stay {X : Nat → Nat} {due m c : Nat} (h : (clA X due m c).2 = false) : ∀ j, (clA X due m (c + j)).2 = false := by
  intro j
  induction j with
  | zero => exact h
  | succ j ih =>
    rw [show c + (j + 1) = (c + j) + 1 from rfl, clA_e, ih, cond_false]
    exact ih
theorem clA_pre {X : Nat → Nat} {due m c e : Nat} (hc : c ≤ e) (h : (clA X due m e).2 = true) : (clA X due m c).2 = true := by
  cases q : (clA X due m c).2
  · have := clA_stay q (e - c)
    rw [show c + (e - c) = e by omega, h] at this
    cases this
  · rfl
theorem clA_I {X : Nat → Nat} {due m : Nat} (hX : TI X) (hm : m < 64) : ∀ c, c ≤ X 3 → TI (clA X due m c).1 ∧ same (clA X due m c).1 X ∧ ∀ k, k < 6 → X (21 + k) ≤ (clA X due m c).1 (21 + k) := by
  have h2 : X 2 ≤ 6 := hX.2.2.1
  intro c
  induction c with
  | zero => intro _; exact ⟨hX, same.rfl_, fun k hk => Nat.le_refl _⟩
  | succ c ih =>
    intro hc
    obtain ⟨i1, i2, i3⟩ := ih (by omega)
    rw [clA_e]
    cases hok : (clA X due m c).2
    · exact ⟨i1, i2, i3⟩
    · rw [cond_true]
      split
      · cases hb : bornN (clA X due m c).1 ((clA X due m c).1 (27 + c)) m
        · exact ⟨i1, i2, i3⟩
        · rw [cond_true]
          have hm0 : ¬ m = 0 := fun q => bornF1 q hb
          have hbk : brkN (clA X due m c).1 m (shA (clA X due m c).1 m c) = 0 := by
            by_cases q : brkN (clA X due m c).1 m (shA (clA X due m c).1 m c) = 0
            · exact q
            · exact absurd hb (bornF2 q)
          have hw1 : 1 ≤ (clA X due m c).1 (27 + c) := (i1.2.2.2.2.2.2.2.2.2.2.2.2.1 c (by rw [i2 3 (by omega)]; omega)).1
          have hs1 : 1 ≤ shA (clA X due m c).1 m c := shareN_pos hm hm0 (pullN_pos hw1)
          have e2 : (clA X due m c).1 2 ≤ 6 := i1.2.2.1
          refine ⟨wN_TI i1 (wear_ok2 i1 hs1 hbk) _ (Nat.le_refl _), (wN_same _ e2).tr i2, fun k hk => ?_⟩
          dsimp only
          rw [wN_at _ e2 k hk]
          have := i3 k hk
          omega
      · exact ⟨i1, i2, i3⟩
theorem born_same {X Y : Nat → Nat} {w m : Nat} (hs : same X Y) (h2 : Y 2 ≤ 6) (hle : ∀ k, k < 6 → X (21 + k) ≤ Y (21 + k)) (h : bornN Y w m = true) : bornN X w m = true := by
  have hm0 : ¬ m = 0 := fun q => bornF1 q h
  have hb : brkN Y m (shareN (pullN Y w) m) = 0 := by
    by_cases q : brkN Y m (shareN (pullN Y w) m) = 0
    · exact q
    · exact absurd h (bornF2 q)
  refine bornT hm0 ?_
  rw [same_pull hs]
  unfold brkN
  rw [hs 2 (by omega)]
  refine brkP_zero _ (fun k hk hbit => ?_)
  have := brkP_z _ hb k hk hbit
  rw [same_cap hs (by omega)]
  have := hle k (by omega)
  omega
theorem clA_mono {X Y : Nat → Nat} {due m : Nat} (hX : TI X) (hY : TI Y) (hm : m < 64) (hs : same X Y) (hle : ∀ k, k < 6 → X (21 + k) ≤ Y (21 + k)) : ∀ c, c ≤ Y 3 → (clA Y due m c).2 = true → (clA X due m c).2 = true ∧ ∀ k, k < 6 → (clA Y due m c).1 (21 + k) + X (21 + k) = (clA X due m c).1 (21 + k) + Y (21 + k) := by
  have e3 : X 3 = Y 3 := hs 3 (by omega)
  intro c
  induction c with
  | zero => intro _ _; exact ⟨rfl, fun k _ => Nat.add_comm _ _⟩
  | succ c ih =>
    intro hc hok
    have hokc := clA_pre (Nat.le_succ c) hok
    obtain ⟨i1, i2⟩ := ih (by omega) hokc
    obtain ⟨x1, x2, x3⟩ := clA_I (due := due) hX hm c (by omega)
    obtain ⟨y1, y2, y3⟩ := clA_I (due := due) hY hm c (by omega)
    have hsXY : same (clA X due m c).1 (clA Y due m c).1 := x2.tr (hs.tr (fun i hi => (y2 i hi).symm))
    have hleXY : ∀ k, k < 6 → (clA X due m c).1 (21 + k) ≤ (clA Y due m c).1 (21 + k) := fun k hk => by
      have := i2 k hk
      have := hle k hk
      omega
    by_cases hb : bitN due c = 1
    · by_cases hw : bornN (clA Y due m c).1 ((clA Y due m c).1 (27 + c)) m = true
      · have hwX : bornN (clA X due m c).1 ((clA X due m c).1 (27 + c)) m = true := by
          rw [hsXY (27 + c) (by omega)]
          exact born_same hsXY y1.2.2.1 hleXY hw
        rw [clA_y hokc hb hw, clA_y i1 hb hwX]
        refine ⟨rfl, fun k hk => ?_⟩
        dsimp only
        have e2 : (clA X due m c).1 2 = (clA Y due m c).1 2 := hsXY 2 (by omega)
        have hsh : shA (clA X due m c).1 m c = shA (clA Y due m c).1 m c := by
          unfold shA
          rw [same_pull hsXY, hsXY (27 + c) (by omega)]
        have y6 : (clA Y due m c).1 2 ≤ 6 := y1.2.2.1
        rw [wN_at _ y6 k hk, wN_at _ (by rw [e2]; exact y6) k hk, e2, hsh, hsXY (9 + k) (by omega)]
        have := i2 k hk
        omega
      · rw [clA_f hokc hb hw] at hok
        cases hok
    · rw [clA_n hokc hb, clA_n i1 hb]
      exact ⟨i1, i2⟩
/-- a day's sets: does it go, and what is worn then -/
def gd (N : Nat → Nat) (day m : Nat) : (Nat → Nat) × Bool := if dueN N (N 4 + day) = 0 then (N, Nat.beq m 0) else if m &&& N 7 = 0 ∧ N 0 ≤ min 99 (N 1 + day) then clA N (dueN N (N 4 + day)) m (N 3) else (N, false)
theorem gd_I {N : Nat → Nat} {day m : Nat} (hN : TI N) (hm : m < 64) : TI (gd N day m).1 ∧ same (gd N day m).1 N ∧ ∀ k, k < 6 → N (21 + k) ≤ (gd N day m).1 (21 + k) := by
  unfold gd
  split
  · exact ⟨hN, same.rfl_, fun k hk => Nat.le_refl _⟩
  · split
    · exact clA_I hN hm _ (Nat.le_refl _)
    · exact ⟨hN, same.rfl_, fun k hk => Nat.le_refl _⟩
theorem gd_mono {X Y : Nat → Nat} {day m : Nat} (hX : TI X) (hY : TI Y) (hm : m < 64) (hs : same X Y) (hle : ∀ k, k < 6 → X (21 + k) ≤ Y (21 + k)) (h : (gd Y day m).2 = true) : (gd X day m).2 = true ∧ sumW (gd Y day m).1 + sumW X = sumW (gd X day m).1 + sumW Y := by
  unfold gd at h ⊢
  rw [hs 4 (by omega), same_due hs, hs 7 (by omega), hs 0 (by omega), hs 1 (by omega), hs 3 (by omega)]
  by_cases q1 : dueN Y (Y 4 + day) = 0
  · rw [if_pos q1] at h ⊢
    rw [if_pos q1]
    exact ⟨h, Nat.add_comm _ _⟩
  · rw [if_neg q1] at h ⊢
    rw [if_neg q1]
    by_cases q2 : m &&& Y 7 = 0 ∧ Y 0 ≤ min 99 (Y 1 + day)
    · rw [if_pos q2] at h ⊢
      rw [if_pos q2]
      obtain ⟨h1, h2⟩ := clA_mono hX hY hm hs hle (Y 3) (Nat.le_refl _) h
      exact ⟨h1, sumW_pt h2⟩
    · rw [if_neg q2] at h
      cases h
/-- by how much a set is worn on a day, as the tower is now -/
def wv (N : Nat → Nat) (day m : Nat) : Nat := if m < 2 ^ N 2 then (bif (gd N day m).2 then sumW (gd N day m).1 - sumW N else 1000000) else 1000000
def loP (N : Nat → Nat) (day : Nat) : Nat → Nat
  | 0 => 1000000
  | k + 1 => min (loP N day k) (wv N day k)
def laN (N : Nat → Nat) : Nat → Nat → Nat
  | 0, _ => 0
  | j + 1, day => laN N j (day + 1) + loP N day 64
theorem wv_le {N : Nat → Nat} {day m : Nat} (hN : TI N) : wv N day m ≤ 1000000 := by
  have h64 := hN.set64
  unfold wv
  split
  · cases h : (gd N day m).2
    · exact Nat.le_refl _
    · rw [cond_true]
      have := sumW_le (gd_I (day := day) (m := m) hN (by omega)).1
      omega
  · exact Nat.le_refl _
theorem loP_le {N : Nat → Nat} {day : Nat} : ∀ k, loP N day k ≤ 1000000 := by
  intro k
  induction k with
  | zero => exact Nat.le_refl _
  | succ k ih => exact Nat.le_trans (Nat.min_le_left _ _) ih
theorem loP_wv {N : Nat → Nat} {day : Nat} : ∀ k m, m < k → loP N day k ≤ wv N day m := by
  intro k
  induction k with
  | zero => intro m h; omega
  | succ k ih =>
    intro m h
    by_cases q : m = k
    · subst q
      exact Nat.min_le_right _ _
    · exact Nat.le_trans (Nat.min_le_left _ _) (ih m (by omega))
theorem laN_le {N : Nat → Nat} : ∀ j day, laN N j day ≤ j * 1000000 := by
  intro j
  induction j with
  | zero => intro _; exact Nat.zero_le _
  | succ j ih =>
    intro day
    rw [Nat.succ_mul]
    exact Nat.add_le_add (ih _) (loP_le 64)
abbrev Bst : Type := Nat × (Nat → Nat)
def foldN (f : Nat → Bst → Bst) : Nat → Bst → Bst
  | 0, x => x
  | k + 1, x => f k (foldN f k x)
/-- the search: s0 is worn at the start; j days are left -/
def srch (s0 : Nat) : Nat → Nat → (Nat → Nat) → (Nat → Nat) → Bst → Bst
  | 0, _, N, P, _ => (sumW N - s0, P)
  | j + 1, day, N, P, x => foldN (fun m x => bif (gd N day m).2 && Nat.blt (sumW (gd N day m).1 - s0) x.1 then srch s0 j (day + 1) (gd N day m).1 (updF P day m) x else x) (2 ^ N 2) x
def stpS (s0 j day : Nat) (N P : Nat → Nat) (m : Nat) (x : Bst) : Bst := bif (gd N day m).2 && Nat.blt (sumW (gd N day m).1 - s0) x.1 then srch s0 j (day + 1) (gd N day m).1 (updF P day m) x else x
theorem stpS_e {s0 j day m : Nat} {N P : Nat → Nat} {x : Bst} : stpS s0 j day N P m x = bif (gd N day m).2 && Nat.blt (sumW (gd N day m).1 - s0) x.1 then srch s0 j (day + 1) (gd N day m).1 (updF P day m) x else x := rfl
theorem srch_e {s0 j day : Nat} {N P : Nat → Nat} {x : Bst} : srch s0 (j + 1) day N P x = foldN (stpS s0 j day N P) (2 ^ N 2) x := rfl
theorem foldN_id {f : Nat → Bst → Bst} {x : Bst} : ∀ k, (∀ m, m < k → f m x = x) → foldN f k x = x := by
  intro k
  induction k with
  | zero => intro _; rfl
  | succ k ih =>
    intro h
    show f k (foldN f k x) = x
    rw [ih (fun m hm => h m (by omega)), h k (Nat.lt_succ_self _)]
/-- a beginning that cannot become the least changes nothing -/
theorem srch_cut {N0 : Nat → Nat} (hN0 : TI N0) {x : Bst} : ∀ j day N P, TI N → same N N0 → (∀ k, k < 6 → N0 (21 + k) ≤ N (21 + k)) → x.1 ≤ sumW N - sumW N0 + laN N0 (j + 1) day → srch (sumW N0) (j + 1) day N P x = x := by
  intro j
  induction j with
  | zero =>
    intro day N P hN hs hle hl
    have h64 := hN.set64
    have hmn := sumW_mono hle
    rw [srch_e]
    refine foldN_id _ (fun m hm => ?_)
    unfold stpS
    cases hg : (gd N day m).2
    · rfl
    · obtain ⟨g1, g2, g3⟩ := gd_I (day := day) (m := m) hN (by omega)
      obtain ⟨m1, m2⟩ := gd_mono hN0 hN (by omega) (fun i hi => (hs i hi).symm) hle hg
      have e2 : N 2 = N0 2 := hs 2 (by omega)
      have hwv : wv N0 day m = sumW (gd N0 day m).1 - sumW N0 := by
        unfold wv
        rw [if_pos (by rw [← e2]; exact hm), m1, cond_true]
      have hlo := loP_wv (N := N0) (day := day) 64 m (by omega)
      have hmn2 := sumW_mono (gd_I (day := day) (m := m) hN0 (by omega)).2.2
      have hlan : laN N0 (0 + 1) day = 0 + loP N0 day 64 := rfl
      have : Nat.blt (sumW (gd N day m).1 - sumW N0) x.1 = false := by
        rw [← Bool.not_eq_true, Nat.blt_eq]
        omega
      rw [this]
      rfl
  | succ j ih =>
    intro day N P hN hs hle hl
    have h64 := hN.set64
    have hmn := sumW_mono hle
    rw [srch_e]
    refine foldN_id _ (fun m hm => ?_)
    unfold stpS
    cases hg : (gd N day m).2
    · rfl
    · obtain ⟨g1, g2, g3⟩ := gd_I (day := day) (m := m) hN (by omega)
      obtain ⟨m1, m2⟩ := gd_mono hN0 hN (by omega) (fun i hi => (hs i hi).symm) hle hg
      have e2 : N 2 = N0 2 := hs 2 (by omega)
      have hwv : wv N0 day m = sumW (gd N0 day m).1 - sumW N0 := by
        unfold wv
        rw [if_pos (by rw [← e2]; exact hm), m1, cond_true]
      have hlo := loP_wv (N := N0) (day := day) 64 m (by omega)
      have hmn2 := sumW_mono (gd_I (day := day) (m := m) hN0 (by omega)).2.2
      have hlan : laN N0 (j + 1 + 1) day = laN N0 (j + 1) (day + 1) + loP N0 day 64 := rfl
      cases hb : Nat.blt (sumW (gd N day m).1 - sumW N0) x.1
      · rfl
      · show srch (sumW N0) (j + 1) (day + 1) (gd N day m).1 (updF P day m) x = x
        exact ih (day + 1) (gd N day m).1 (updF P day m) g1 (g2.tr hs) (fun k hk => Nat.le_trans (hle k hk) (g3 k hk)) (by omega)
/-- a plan for d days -/
def planN (N : Nat → Nat) (d : Nat) : Bst := srch (sumW N) d 0 N Z0 (1000000, Z0)
theorem srch_lt {s0 : Nat} {B : Nat} : ∀ j day N P x, TI N → (x.1 ≤ B ∧ 1188 ≤ B) → (srch s0 j day N P x).1 ≤ B := by
  intro j
  induction j with
  | zero =>
    intro day N P x hN hx
    have := sumW_le hN
    show sumW N - s0 ≤ B
    omega
  | succ j ih =>
    intro day N P x hN hx
    have h64 := hN.set64
    rw [srch_e]
    have key : ∀ k, k ≤ 64 → (foldN (stpS s0 j day N P) k x).1 ≤ B := by
      intro k
      induction k with
      | zero => intro _; exact hx.1
      | succ k ihk =>
        intro hk
        have h := ihk (by omega)
        show (stpS s0 j day N P k (foldN (stpS s0 j day N P) k x)).1 ≤ B
        rw [stpS_e]
        cases (gd N day k).2 && Nat.blt (sumW (gd N day k).1 - s0) (foldN (stpS s0 j day N P) k x).1
        · exact h
        · exact ih (day + 1) _ _ _ (gd_I (m := k) hN (by omega)).1 ⟨h, hx.2⟩
    exact key _ h64.2.2
