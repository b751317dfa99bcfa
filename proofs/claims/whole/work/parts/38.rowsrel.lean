/-! rows on both sides: lane (3: missing), size, items, the latest finding -/
abbrev RS : Type := (Nat → Nat) × (Nat → Nat) × (Nat → Nat → Int32) × Int32
def RowsC (I : Pl) (R : RS) : Prop := I 0 9 = R.2.2.2 ∧ ∀ r, r < 8 → R.1 r ≤ 3 ∧ (R.1 r = 3 → I 12 r = -1) ∧ (R.1 r < 3 → I 11 r = nI (R.1 r) ∧ I 12 r = nI (R.2.1 r) ∧ R.2.1 r ≤ 40 ∧ ∀ i, i < 40 → I (3 + r) i = R.2.2.1 r i)
def RowsM (I : Pl) (R : RS) : Prop := I 271 7 = R.2.2.2 ∧ ∀ r, r < 8 → R.1 r ≤ 3 ∧ (R.1 r = 3 → I 274 r = -1) ∧ (R.1 r < 3 → I 274 r = nI (R.1 r) ∧ I 275 r = nI (R.2.1 r) ∧ R.2.1 r ≤ 40 ∧ ∀ i, i < 40 → I 276 (40 * r + i) = R.2.2.1 r i)
def updF {α : Type} (f : Nat → α) (i : Nat) (v : α) : Nat → α := fun j => if j = i then v else f j
theorem updF_s {α : Type} {f : Nat → α} {i : Nat} {v : α} : updF f i v i = v := if_pos rfl
theorem updF_o {α : Type} {f : Nat → α} {i j : Nat} {v : α} (h : ¬ j = i) : updF f i v j = f j := if_neg h
def rcP (o k : Nat) : Prop := (o = 0 ∧ k = 9) ∨ (3 ≤ o ∧ o ≤ 12)
def rmP (o k : Nat) : Prop := (o = 271 ∧ k = 7) ∨ (274 ≤ o ∧ o ≤ 277)
def stR (R : RS) (v : Int32) : RS := (R.1, R.2.1, R.2.2.1, v)
theorem RowsC.cg {I J : Pl} {R : RS} (h : RowsC I R) (hJ : ∀ o k, rcP o k → J o k = I o k) : RowsC J R := by
  obtain ⟨h0, h⟩ := h
  refine ⟨by rw [hJ 0 9 (Or.inl ⟨rfl, rfl⟩), h0], fun r hr => ?_⟩
  obtain ⟨h1, h2, h3⟩ := h r hr
  refine ⟨h1, fun q => by rw [hJ 12 r (Or.inr ⟨by omega, by omega⟩), h2 q], fun q => ?_⟩
  obtain ⟨a, b, c, e⟩ := h3 q
  exact ⟨by rw [hJ 11 r (Or.inr ⟨by omega, by omega⟩), a], by rw [hJ 12 r (Or.inr ⟨by omega, by omega⟩), b], c, fun i hi => by rw [hJ (3 + r) i (Or.inr ⟨by omega, by omega⟩), e i hi]⟩
theorem RowsM.cg {I J : Pl} {R : RS} (h : RowsM I R) (hJ : ∀ o k, rmP o k → J o k = I o k) : RowsM J R := by
  obtain ⟨h0, h⟩ := h
  refine ⟨by rw [hJ 271 7 (Or.inl ⟨rfl, rfl⟩), h0], fun r hr => ?_⟩
  obtain ⟨h1, h2, h3⟩ := h r hr
  refine ⟨h1, fun q => by rw [hJ 274 r (Or.inr ⟨by omega, by omega⟩), h2 q], fun q => ?_⟩
  obtain ⟨a, b, c, e⟩ := h3 q
  exact ⟨by rw [hJ 274 r (Or.inr ⟨by omega, by omega⟩), a], by rw [hJ 275 r (Or.inr ⟨by omega, by omega⟩), b], c, fun i hi => by rw [hJ 276 (40 * r + i) (Or.inr ⟨by omega, by omega⟩), e i hi]⟩
theorem RowsC.stat {I : Pl} {R : RS} {v : Int32} (h : RowsC I R) : RowsC (upN I 0 9 v) (stR R v) := by
  obtain ⟨h0, h⟩ := h
  refine ⟨upN_s, fun r hr => ?_⟩
  obtain ⟨h1, h2, h3⟩ := h r hr
  refine ⟨h1, fun q => by rw [upN_no (by omega)]; exact h2 q, fun q => ?_⟩
  obtain ⟨a, b, c, e⟩ := h3 q
  exact ⟨by rw [upN_no (by omega)]; exact a, by rw [upN_no (by omega)]; exact b, c, fun i hi => by rw [upN_no (by omega)]; exact e i hi⟩
theorem RowsM.stat {I : Pl} {R : RS} {v : Int32} (h : RowsM I R) : RowsM (upN I 271 7 v) (stR R v) := by
  obtain ⟨h0, h⟩ := h
  refine ⟨upN_s, fun r hr => ?_⟩
  obtain ⟨h1, h2, h3⟩ := h r hr
  refine ⟨h1, fun q => by rw [upN_no (by omega)]; exact h2 q, fun q => ?_⟩
  obtain ⟨a, b, c, e⟩ := h3 q
  exact ⟨by rw [upN_no (by omega)]; exact a, by rw [upN_no (by omega)]; exact b, c, fun i hi => by rw [upN_no (by omega)]; exact e i hi⟩
def putR (R : RS) (r i : Nat) (v : Int32) : RS := (R.1, R.2.1, updF R.2.2.1 r (updF (R.2.2.1 r) i v), R.2.2.2)
theorem RowsC.put {I : Pl} {R : RS} {r i : Nat} {v : Int32} (h : RowsC I R) (hr : r < 8) : RowsC (upN I (3 + r) i v) (putR R r i v) := by
  obtain ⟨h0, h⟩ := h
  refine ⟨by rw [upN_no (by omega)]; exact h0, fun s hs => ?_⟩
  obtain ⟨h1, h2, h3⟩ := h s hs
  refine ⟨h1, fun q => by rw [upN_no (by omega)]; exact h2 q, fun q => ?_⟩
  obtain ⟨a, b, c, e⟩ := h3 q
  refine ⟨by rw [upN_no (by omega)]; exact a, by rw [upN_no (by omega)]; exact b, c, fun j hj => ?_⟩
  show _ = updF R.2.2.1 r (updF (R.2.2.1 r) i v) s j
  by_cases q1 : s = r
  · subst q1
    rw [updF_s]
    by_cases q2 : j = i
    · subst q2
      rw [updF_s, upN_s]
    · rw [updF_o q2, upN_nk q2]
      exact e j hj
  · rw [updF_o q1, upN_no (by omega)]
    exact e j hj
theorem RowsM.put {I : Pl} {R : RS} {r i : Nat} {v : Int32} (h : RowsM I R) (hr : r < 8) (hi : i < 40) : RowsM (upN I 276 (40 * r + i) v) (putR R r i v) := by
  obtain ⟨h0, h⟩ := h
  refine ⟨by rw [upN_no (by omega)]; exact h0, fun s hs => ?_⟩
  obtain ⟨h1, h2, h3⟩ := h s hs
  refine ⟨h1, fun q => by rw [upN_no (by omega)]; exact h2 q, fun q => ?_⟩
  obtain ⟨a, b, c, e⟩ := h3 q
  refine ⟨by rw [upN_no (by omega)]; exact a, by rw [upN_no (by omega)]; exact b, c, fun j hj => ?_⟩
  show _ = updF R.2.2.1 r (updF (R.2.2.1 r) i v) s j
  by_cases q1 : s = r
  · subst q1
    rw [updF_s]
    by_cases q2 : j = i
    · subst q2
      rw [updF_s, upN_s]
    · rw [updF_o q2, upN_nk (by omega)]
      exact e j hj
  · rw [updF_o q1, upN_nk (by omega)]
    exact e j hj
def loseR (R : RS) (r : Nat) : RS := (updF R.1 r 3, R.2.1, R.2.2.1, R.2.2.2)
theorem RowsC.lose {I : Pl} {R : RS} {r : Nat} (h : RowsC I R) : RowsC (upN I 12 r (-1)) (loseR R r) := by
  obtain ⟨h0, h⟩ := h
  refine ⟨by rw [upN_no (by omega)]; exact h0, fun s hs => ?_⟩
  obtain ⟨h1, h2, h3⟩ := h s hs
  show updF R.1 r 3 s ≤ 3 ∧ (updF R.1 r 3 s = 3 → _) ∧ (updF R.1 r 3 s < 3 → upN I 12 r (-1) 11 s = nI (updF R.1 r 3 s) ∧ _)
  by_cases q1 : s = r
  · subst q1
    rw [updF_s]
    exact ⟨Nat.le_refl _, fun _ => upN_s, fun q => absurd q (by decide)⟩
  · rw [updF_o q1]
    refine ⟨h1, fun q => by rw [upN_nk q1]; exact h2 q, fun q => ?_⟩
    obtain ⟨a, b, c, e⟩ := h3 q
    exact ⟨by rw [upN_no (by omega)]; exact a, by rw [upN_nk q1]; exact b, c, fun j hj => by rw [upN_no (by omega)]; exact e j hj⟩
theorem RowsM.lose {I : Pl} {R : RS} {r : Nat} (h : RowsM I R) : RowsM (upN I 274 r (-1)) (loseR R r) := by
  obtain ⟨h0, h⟩ := h
  refine ⟨by rw [upN_no (by omega)]; exact h0, fun s hs => ?_⟩
  obtain ⟨h1, h2, h3⟩ := h s hs
  show updF R.1 r 3 s ≤ 3 ∧ (updF R.1 r 3 s = 3 → _) ∧ (updF R.1 r 3 s < 3 → upN I 274 r (-1) 274 s = nI (updF R.1 r 3 s) ∧ _)
  by_cases q1 : s = r
  · subst q1
    rw [updF_s]
    exact ⟨Nat.le_refl _, fun _ => upN_s, fun q => absurd q (by decide)⟩
  · rw [updF_o q1]
    refine ⟨h1, fun q => by rw [upN_nk q1]; exact h2 q, fun q => ?_⟩
    obtain ⟨a, b, c, e⟩ := h3 q
    exact ⟨by rw [upN_nk q1]; exact a, by rw [upN_no (by omega)]; exact b, c, fun j hj => by rw [upN_no (by omega)]; exact e j hj⟩
def makeR (R : RS) (r l n : Nat) : RS := (updF R.1 r l, updF R.2.1 r n, updF R.2.2.1 r (fun _ => nI 0), R.2.2.2)
theorem zrN_v {I : Pl} {r : Nat} : ∀ k o i, zrN I r k o i = if o = 3 + r ∧ i < k then nI 0 else I o i := by
  intro k
  induction k with
  | zero =>
    intro o i
    rw [if_neg (fun q => by omega)]
    rfl
  | succ k ih =>
    intro o i
    unfold zrN
    by_cases q1 : o = 3 + r
    · subst q1
      by_cases q2 : i = k
      · subst q2
        rw [upN_s, if_pos ⟨rfl, Nat.lt_succ_self _⟩]
      · rw [upN_nk q2, ih]
        by_cases q3 : i < k
        · rw [if_pos ⟨rfl, q3⟩, if_pos ⟨rfl, by omega⟩]
        · rw [if_neg (fun q => q3 q.2), if_neg (fun q => by omega)]
    · rw [upN_no q1, ih, if_neg (fun q => q1 q.1), if_neg (fun q => q1 q.1)]
theorem RowsC.make {I : Pl} {R : RS} {r l n : Nat} (h : RowsC I R) (hr : r < 8) (hl : l < 3) (hn : n ≤ 40) : RowsC (zrN (upN (upN I 11 r (nI l)) 12 r (nI n)) r 40) (makeR R r l n) := by
  obtain ⟨h0, h⟩ := h
  refine ⟨by rw [zrN_v, if_neg (by omega), upN_no (by omega), upN_no (by omega)]; exact h0, fun s hs => ?_⟩
  obtain ⟨h1, h2, h3⟩ := h s hs
  show updF R.1 r l s ≤ 3 ∧ (updF R.1 r l s = 3 → _) ∧ (updF R.1 r l s < 3 → zrN _ r 40 11 s = nI (updF R.1 r l s) ∧ zrN _ r 40 12 s = nI (updF R.2.1 r n s) ∧ updF R.2.1 r n s ≤ 40 ∧ ∀ i, i < 40 → zrN _ r 40 (3 + s) i = updF R.2.2.1 r (fun _ => nI 0) s i)
  by_cases q1 : s = r
  · subst q1
    rw [updF_s, updF_s, updF_s]
    refine ⟨by omega, fun q => by omega, fun _ => ⟨?_, ?_, hn, fun i hi => ?_⟩⟩
    · rw [zrN_v, if_neg (by omega), upN_no (by omega), upN_s]
    · rw [zrN_v, if_neg (by omega), upN_s]
    · rw [zrN_v, if_pos ⟨rfl, hi⟩]
  · rw [updF_o q1, updF_o q1, updF_o q1]
    refine ⟨h1, fun q => ?_, fun q => ?_⟩
    · rw [zrN_v, if_neg (by omega), upN_nk q1, upN_no (by omega)]
      exact h2 q
    · obtain ⟨a, b, c, e⟩ := h3 q
      refine ⟨?_, ?_, c, fun i hi => ?_⟩
      · rw [zrN_v, if_neg (by omega), upN_no (by omega), upN_nk q1]
        exact a
      · rw [zrN_v, if_neg (by omega), upN_nk q1, upN_no (by omega)]
        exact b
      · rw [zrN_v, if_neg (by omega), upN_no (by omega), upN_no (by omega)]
        exact e i hi
/-- the first k items of the reference's row r nought -/
def zmN (I : Pl) (r : Nat) : Nat → Pl
  | 0 => I
  | k + 1 => upN (zmN I r k) 276 (40 * r + k) (nI 0)
theorem zmN_v {I : Pl} {r : Nat} : ∀ k o i, zmN I r k o i = if o = 276 ∧ 40 * r ≤ i ∧ i < 40 * r + k then nI 0 else I o i := by
  intro k
  induction k with
  | zero =>
    intro o i
    rw [if_neg (fun q => by omega)]
    rfl
  | succ k ih =>
    intro o i
    unfold zmN
    by_cases q1 : o = 276
    · subst q1
      by_cases q2 : i = 40 * r + k
      · subst q2
        rw [upN_s, if_pos ⟨rfl, by omega, by omega⟩]
      · rw [upN_nk q2, ih]
        by_cases q3 : 40 * r ≤ i ∧ i < 40 * r + k
        · rw [if_pos ⟨rfl, q3⟩, if_pos ⟨rfl, q3.1, by omega⟩]
        · rw [if_neg (fun q => q3 q.2), if_neg (fun q => by omega)]
    · rw [upN_no q1, ih, if_neg (fun q => q1 q.1), if_neg (fun q => q1 q.1)]
theorem RowsM.make {I : Pl} {R : RS} {r l n : Nat} (h : RowsM I R) (hr : r < 8) (hl : l < 3) (hn : n ≤ 40) : RowsM (zmN (upN (upN I 274 r (nI l)) 275 r (nI n)) r 40) (makeR R r l n) := by
  obtain ⟨h0, h⟩ := h
  refine ⟨by rw [zmN_v, if_neg (by omega), upN_no (by omega), upN_no (by omega)]; exact h0, fun s hs => ?_⟩
  obtain ⟨h1, h2, h3⟩ := h s hs
  show updF R.1 r l s ≤ 3 ∧ (updF R.1 r l s = 3 → _) ∧ (updF R.1 r l s < 3 → zmN _ r 40 274 s = nI (updF R.1 r l s) ∧ zmN _ r 40 275 s = nI (updF R.2.1 r n s) ∧ updF R.2.1 r n s ≤ 40 ∧ ∀ i, i < 40 → zmN _ r 40 276 (40 * s + i) = updF R.2.2.1 r (fun _ => nI 0) s i)
  by_cases q1 : s = r
  · subst q1
    rw [updF_s, updF_s, updF_s]
    refine ⟨by omega, fun q => by omega, fun _ => ⟨?_, ?_, hn, fun i hi => ?_⟩⟩
    · rw [zmN_v, if_neg (by omega), upN_no (by omega), upN_s]
    · rw [zmN_v, if_neg (by omega), upN_s]
    · rw [zmN_v, if_pos ⟨rfl, by omega, by omega⟩]
  · rw [updF_o q1, updF_o q1, updF_o q1]
    refine ⟨h1, fun q => ?_, fun q => ?_⟩
    · rw [zmN_v, if_neg (by omega), upN_no (by omega), upN_nk q1]
      exact h2 q
    · obtain ⟨a, b, c, e⟩ := h3 q
      refine ⟨?_, ?_, c, fun i hi => ?_⟩
      · rw [zmN_v, if_neg (by omega), upN_no (by omega), upN_nk q1]
        exact a
      · rw [zmN_v, if_neg (by omega), upN_nk q1, upN_no (by omega)]
        exact b
      · rw [zmN_v, if_neg (by omega), upN_no (by omega), upN_no (by omega)]
        exact e i hi
def moveR (R : RS) (a i b j n : Nat) : RS := (R.1, R.2.1, updF R.2.2.1 b (fun k => if j ≤ k ∧ k < j + n then R.2.2.1 a (i + (k - j)) else R.2.2.1 b k), R.2.2.2)
theorem RowsC.move {I : Pl} {R : RS} {a i b j n : Nat} (h : RowsC I R) (ha : a < 8) (hb : b < 8) (hla : R.1 a < 3) (hi : i + n ≤ 40) (hj : j + n ≤ 40) : RowsC (cpy I (3 + a) (3 + b) i j n) (moveR R a i b j n) := by
  obtain ⟨h0, h⟩ := h
  refine ⟨by rw [cpy_o (by omega)]; exact h0, fun s hs => ?_⟩
  obtain ⟨h1, h2, h3⟩ := h s hs
  refine ⟨h1, fun q => by rw [cpy_o (by omega)]; exact h2 q, fun q => ?_⟩
  obtain ⟨x, y, z, e⟩ := h3 q
  refine ⟨by rw [cpy_o (by omega)]; exact x, by rw [cpy_o (by omega)]; exact y, z, fun k hk => ?_⟩
  show _ = updF R.2.2.1 b _ s k
  by_cases q1 : s = b
  · subst q1
    rw [updF_s]
    unfold cpy
    rw [Nat.beq_refl, cond_true]
    by_cases q2 : j ≤ k ∧ k < j + n
    · rw [if_pos q2, if_pos q2]
      exact ((h a ha).2.2 hla).2.2.2 _ (by omega)
    · rw [if_neg q2, if_neg q2]
      exact e k hk
  · rw [updF_o q1, cpy_o (by omega)]
    exact e k hk
/-- k held, then laid down, in the reference -/
def hdN (I : Pl) (a i : Nat) : Nat → Pl
  | 0 => I
  | k + 1 => upN (hdN I a i k) 277 k (hdN I a i k 276 (40 * a + i + k))
def lyN (I : Pl) (b j : Nat) : Nat → Pl
  | 0 => I
  | k + 1 => upN (lyN I b j k) 276 (40 * b + j + k) (lyN I b j k 277 k)
theorem hdN_o {I : Pl} {a i : Nat} : ∀ k o x, ¬ o = 277 → hdN I a i k o x = I o x := by
  intro k
  induction k with
  | zero => intro o x _; rfl
  | succ k ih =>
    intro o x ho
    unfold hdN
    rw [upN_no ho, ih o x ho]
theorem hdN_v {I : Pl} {a i : Nat} : ∀ k x, x < k → hdN I a i k 277 x = I 276 (40 * a + i + x) := by
  intro k
  induction k with
  | zero => intro x hx; omega
  | succ k ih =>
    intro x hx
    unfold hdN
    by_cases q : x = k
    · subst q
      rw [upN_s, hdN_o _ _ _ (by decide)]
    · rw [upN_nk q, ih x (by omega)]
theorem lyN_o {I : Pl} {b j : Nat} : ∀ k o x, ¬ o = 276 → lyN I b j k o x = I o x := by
  intro k
  induction k with
  | zero => intro o x _; rfl
  | succ k ih =>
    intro o x ho
    unfold lyN
    rw [upN_no ho, ih o x ho]
theorem lyN_v {I : Pl} {b j : Nat} : ∀ k x, lyN I b j k 276 x = if 40 * b + j ≤ x ∧ x < 40 * b + j + k then I 277 (x - (40 * b + j)) else I 276 x := by
  intro k
  induction k with
  | zero =>
    intro x
    rw [if_neg (by omega)]
    rfl
  | succ k ih =>
    intro x
    unfold lyN
    by_cases q : x = 40 * b + j + k
    · subst q
      rw [upN_s, if_pos ⟨by omega, by omega⟩, lyN_o _ _ _ (by decide), show 40 * b + j + k - (40 * b + j) = k by omega]
    · rw [upN_nk q, ih]
      by_cases q3 : 40 * b + j ≤ x ∧ x < 40 * b + j + k
      · rw [if_pos q3, if_pos ⟨q3.1, by omega⟩]
      · rw [if_neg q3, if_neg (by omega)]
theorem RowsM.move {I : Pl} {R : RS} {a i b j n : Nat} (h : RowsM I R) (ha : a < 8) (hb : b < 8) (hla : R.1 a < 3) (hi : i + n ≤ 40) (hj : j + n ≤ 40) : RowsM (lyN (hdN I a i n) b j n) (moveR R a i b j n) := by
  obtain ⟨h0, h⟩ := h
  have e : ∀ o x, ¬ o = 276 → ¬ o = 277 → lyN (hdN I a i n) b j n o x = I o x := fun o x q1 q2 => by rw [lyN_o _ _ _ q1, hdN_o _ _ _ q2]
  refine ⟨by rw [e _ _ (by decide) (by decide)]; exact h0, fun s hs => ?_⟩
  obtain ⟨h1, h2, h3⟩ := h s hs
  refine ⟨h1, fun q => by rw [e _ _ (by decide) (by decide)]; exact h2 q, fun q => ?_⟩
  obtain ⟨x, y, z, f⟩ := h3 q
  refine ⟨by rw [e _ _ (by decide) (by decide)]; exact x, by rw [e _ _ (by decide) (by decide)]; exact y, z, fun k hk => ?_⟩
  show _ = updF R.2.2.1 b _ s k
  rw [lyN_v]
  by_cases q1 : s = b
  · subst q1
    rw [updF_s]
    by_cases q2 : j ≤ k ∧ k < j + n
    · rw [if_pos (by omega), if_pos q2, show 40 * s + k - (40 * s + j) = k - j by omega, hdN_v n _ (by omega), show 40 * a + i + (k - j) = 40 * a + (i + (k - j)) by omega]
      exact ((h a ha).2.2 hla).2.2.2 _ (by omega)
    · rw [if_neg (by omega), if_neg q2, hdN_o _ _ _ (by decide)]
      exact f k hk
  · rw [updF_o q1, if_neg (by omega), hdN_o _ _ _ (by decide)]
    exact f k hk
/-! what rows answer -/
abbrev plP (i n : Int32) (s : Nat) : Prop := 0 ≤ i.toInt ∧ 0 ≤ n.toInt ∧ i.toInt + n.toInt ≤ (s : Int)
def nRow (R : RS) (x l n : Int32) : Int32 × RS :=
  if inA x 8 then (if inA l 3 then (if (n.toInt ≤ 40) then (if n.toInt < 0 then (-1000010 - nI 4, stR R (nI 4)) else (n, stR (makeR R (nOf x) (nOf l) (nOf n)) (nI 0))) else (-1000001, R)) else (-1000001, R)) else (-1000001, R)
def nSet (R : RS) (x i v : Int32) : Int32 × RS :=
  if inA x 8 then (if R.1 (nOf x) = 3 then (-1000010 - nI 1, stR R (nI 1)) else if plP i (nI 1) (R.2.1 (nOf x)) then (laneV (R.1 (nOf x)) v, stR (putR R (nOf x) (nOf i) (laneV (R.1 (nOf x)) v)) (nI 0)) else (-1000010 - nI 2, stR R (nI 2))) else (-1000001, R)
def nCopy (R : RS) (a i b j n : Int32) : Int32 × RS :=
  if inA a 8 then (if inA b 8 then (if R.1 (nOf a) = 3 then (-1000010 - nI 1, stR R (nI 1)) else if R.1 (nOf b) = 3 then (-1000010 - nI 1, stR R (nI 1)) else if R.1 (nOf a) = R.1 (nOf b) then (if plP i n (R.2.1 (nOf a)) then (if plP j n (R.2.1 (nOf b)) then (n, stR (moveR R (nOf a) (nOf i) (nOf b) (nOf j) (nOf n)) (nI 0)) else (-1000010 - nI 2, stR R (nI 2))) else (-1000010 - nI 2, stR R (nI 2))) else (-1000010 - nI 5, stR R (nI 5))) else (-1000001, R)) else (-1000001, R)
def nDrop (R : RS) (x : Int32) : Int32 × RS :=
  if inA x 8 then (if R.1 (nOf x) = 3 then (-1000010 - nI 1, stR R (nI 1)) else (nI (R.2.1 (nOf x)), stR (loseR R (nOf x)) (nI 0))) else (-1000001, R)
def nAs (N : Nat → Nat) (R : RS) (x k : Int32) : Int32 × RS :=
  if inA x (N 2) then (if inA k 6 then (if ofN (N (9 + nOf x)) (nOf k) = true then (x, stR R (nI 0)) else (-1000010 - nI 3, stR R (nI 3))) else (-1000001, R)) else (-1000001, R)
/-- the pairs under k of strains that are looked at: is one bad; who strains so -/
def clB (N : Nat → Nat) (f : Nat → Int32) : Nat → Bool
  | 0 => true
  | k + 1 => clB N f k && (decide (inA (f (2 * k)) (2 ^ N 2)) && !decide (f (2 * k) = 0) && decide (inA (f (2 * k + 1)) 100))
def clW (N : Nat → Nat) (f : Nat → Int32) : Nat → Nat
  | 0 => 2 ^ N 3 - 1
  | k + 1 => clW N f k &&& whoN N (nOf (f (2 * k))) (nOf (f (2 * k + 1)))
def nClimbers (N : Nat → Nat) (R : RS) (x i n : Int32) : Int32 × RS :=
  if N 8 = 0 then (-1000002, R) else if inA x 8 then (if inR n 1 8 then (if R.1 (nOf x) = 3 then (-1000010 - nI 1, stR R (nI 1)) else if plP i (nI (2 * nOf n)) (R.2.1 (nOf x)) then (if clB N (fun k => R.2.2.1 (nOf x) (nOf i + k)) (nOf n) = true then (nI (clW N (fun k => R.2.2.1 (nOf x) (nOf i + k)) (nOf n)), stR R (nI 0)) else (-1000001, R)) else (-1000010 - nI 2, stR R (nI 2))) else (-1000001, R)) else (-1000001, R)
