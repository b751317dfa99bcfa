/-! a tower as 47 numbers: 0 high, 1 long, 2 strands, 3 climbers, 4 day, 5 peg, 6 plait, 7 gone, 8 there, 9.. sorts, 15.. bears, 21.. worn, 27.. weights, 32.. every, 37.. off, 42.. fell -/
def Tw (I : Pl) (t : Nat) (N : Nat → Nat) : Prop :=
  (I t 0 = nI (N 8) ∧ I t 1 = nI (N 0) ∧ I t 2 = nI (N 1) ∧ I t 3 = nI (N 4) ∧ I t 4 = nI (N 5) ∧ I t 5 = nI (N 6) ∧ I t 6 = nI (N 7) ∧ I t 7 = nI (N 2) ∧ I t 8 = nI (N 3)) ∧
  (∀ k, k < 6 → I (t + 1) k = nI (N (9 + k)) ∧ I (t + 2) k = nI (N (15 + k)) ∧ I (t + 3) k = nI (N (21 + k))) ∧
  (∀ k, k < 5 → I (t + 4) k = nI (N (27 + k)) ∧ I (t + 5) k = nI (N (32 + k)) ∧ I (t + 6) k = nI (N (37 + k)) ∧ I (t + 7) k = nI (N (42 + k)))
/-- the same in the reference's row, from the place o on -/
def Tm (I : Pl) (o : Nat) (N : Nat → Nat) : Prop := ∀ k, k < 47 → I 272 (o + k) = nI (N k)
def TI (N : Nat → Nat) : Prop :=
  N 0 ≤ 99 ∧ N 1 ≤ 99 ∧ N 2 ≤ 6 ∧ N 3 ≤ 5 ∧ N 4 ≤ 999 ∧ N 5 ≤ 1 ∧ N 6 < 2 ^ N 2 ∧ N 7 < 2 ^ N 2 ∧ N 8 ≤ 1 ∧
  (∀ k, k < 6 → N (9 + k) ≤ 5 ∧ N (15 + k) ≤ 99 ∧ N (21 + k) ≤ 198) ∧ (∀ c, c < 5 → N (27 + c) ≤ 99 ∧ N (32 + c) ≤ 9 ∧ N (37 + c) ≤ 8) ∧
  (∀ k, k < N 2 → 1 ≤ N (9 + k) ∧ 1 ≤ N (15 + k)) ∧ (∀ c, c < N 3 → 1 ≤ N (27 + c) ∧ 1 ≤ N (32 + c) ∧ N (37 + c) < N (32 + c)) ∧
  (N 8 = 0 → N 2 = 0 ∧ N 3 = 0) ∧ (N 6 &&& N 7 = 0)
section TW
variable {I : Pl} {t k o : Nat} {N : Nat → Nat}
theorem Tw.f0 (h : Tw I t N) : I t 0 = nI (N 8) := h.1.1
theorem Tw.f1 (h : Tw I t N) : I t 1 = nI (N 0) := h.1.2.1
theorem Tw.f2 (h : Tw I t N) : I t 2 = nI (N 1) := h.1.2.2.1
theorem Tw.f3 (h : Tw I t N) : I t 3 = nI (N 4) := h.1.2.2.2.1
theorem Tw.f4 (h : Tw I t N) : I t 4 = nI (N 5) := h.1.2.2.2.2.1
theorem Tw.f5 (h : Tw I t N) : I t 5 = nI (N 6) := h.1.2.2.2.2.2.1
theorem Tw.f6 (h : Tw I t N) : I t 6 = nI (N 7) := h.1.2.2.2.2.2.2.1
theorem Tw.f7 (h : Tw I t N) : I t 7 = nI (N 2) := h.1.2.2.2.2.2.2.2.1
theorem Tw.f8 (h : Tw I t N) : I t 8 = nI (N 3) := h.1.2.2.2.2.2.2.2.2
theorem Tw.a1 (h : Tw I t N) (hk : k < 6) : I (t + 1) k = nI (N (9 + k)) := (h.2.1 k hk).1
theorem Tw.a2 (h : Tw I t N) (hk : k < 6) : I (t + 2) k = nI (N (15 + k)) := (h.2.1 k hk).2.1
theorem Tw.a3 (h : Tw I t N) (hk : k < 6) : I (t + 3) k = nI (N (21 + k)) := (h.2.1 k hk).2.2
theorem Tw.a4 (h : Tw I t N) (hk : k < 5) : I (t + 4) k = nI (N (27 + k)) := (h.2.2 k hk).1
theorem Tw.a5 (h : Tw I t N) (hk : k < 5) : I (t + 5) k = nI (N (32 + k)) := (h.2.2 k hk).2.1
theorem Tw.a6 (h : Tw I t N) (hk : k < 5) : I (t + 6) k = nI (N (37 + k)) := (h.2.2 k hk).2.2.1
theorem Tw.a7 (h : Tw I t N) (hk : k < 5) : I (t + 7) k = nI (N (42 + k)) := (h.2.2 k hk).2.2.2
theorem TI.set64 (h : TI N) : N 6 < 64 ∧ N 7 < 64 ∧ 2 ^ N 2 ≤ 64 := by
  obtain ⟨-, -, h2, -, -, -, h6, h7, -⟩ := h
  have : 2 ^ N 2 ≤ 2 ^ 6 := Nat.pow_le_pow_right (by decide) h2
  omega
end TW
/-! what the two sides answer, in these numbers -/
def capN (N : Nat → Nat) (k many : Nat) : Nat := if N (9 + k) = 5 ∧ many = 1 then 2 * N (15 + k) else N (15 + k)
def pullN (N : Nat → Nat) (wt : Nat) : Nat := if N 5 = 1 then (wt + 1) / 2 else wt
def shareN (pull m : Nat) : Nat := if popc m = 0 then 0 else (pull + popc m - 1) / popc m
/-- the strands under k that break -/
def brkP (N : Nat → Nat) (m sh : Nat) : Nat → Nat
  | 0 => 0
  | k + 1 => brkP N m sh k + if bitN m k = 1 ∧ capN N k (popc m) < sh + N (21 + k) then 2 ^ k else 0
def brkN (N : Nat → Nat) (m sh : Nat) : Nat := brkP N m sh (N 2)
theorem brkP_lt (N : Nat → Nat) (m sh : Nat) : ∀ k, brkP N m sh k < 2 ^ k := by
  intro k
  induction k with
  | zero => exact Nat.zero_lt_one
  | succ k ih =>
    unfold brkP
    rw [Nat.pow_succ]
    split <;> omega
def bornN (N : Nat → Nat) (wt m : Nat) : Bool := !Nat.beq m 0 && Nat.beq (brkN N m (shareN (pullN N wt) m)) 0
theorem bornT {N : Nat → Nat} {wt m : Nat} (h1 : ¬ m = 0) (h2 : brkN N m (shareN (pullN N wt) m) = 0) : bornN N wt m = true := by
  unfold bornN
  rw [beqF h1, h2]
  rfl
theorem bornF1 {N : Nat → Nat} {wt m : Nat} (h1 : m = 0) : ¬ bornN N wt m = true := by
  unfold bornN
  rw [h1]
  intro h
  cases h
theorem bornF2 {N : Nat → Nat} {wt m : Nat} (h2 : ¬ brkN N m (shareN (pullN N wt) m) = 0) : ¬ bornN N wt m = true := by
  unfold bornN
  rw [beqF h2, Bool.and_false]
  intro h
  cases h
def wearN (srt sh : Nat) : Nat := if srt = 1 then sh / 10 else if srt = 3 then 2 * (sh / 10) else if srt = 4 then 1 else if srt = 5 then 1 + sh / 20 else 0
/-- who is due on a day: the climbers under c -/
def dueP (N : Nat → Nat) (day : Nat) : Nat → Nat
  | 0 => 0
  | c + 1 => dueP N day c + if day % N (32 + c) = N (37 + c) then 2 ^ c else 0
def dueN (N : Nat → Nat) (day : Nat) : Nat := dueP N day (N 3)
theorem dueP_lt (N : Nat → Nat) (day : Nat) : ∀ c, dueP N day c < 2 ^ c := by
  intro c
  induction c with
  | zero => exact Nat.zero_lt_one
  | succ c ih =>
    unfold dueP
    rw [Nat.pow_succ]
    split <;> omega
/-- who makes the strain x by the set m -/
def whoP (N : Nat → Nat) (m x : Nat) : Nat → Nat
  | 0 => 0
  | c + 1 => whoP N m x c + if shareN (pullN N (N (27 + c))) m = x then 2 ^ c else 0
def whoN (N : Nat → Nat) (m x : Nat) : Nat := whoP N m x (N 3)
theorem whoP_lt (N : Nat → Nat) (m x : Nat) : ∀ c, whoP N m x c < 2 ^ c := by
  intro c
  induction c with
  | zero => exact Nat.zero_lt_one
  | succ c ih =>
    unfold whoP
    rw [Nat.pow_succ]
    split <;> omega
/-- the most weight up to w that is borne -/
def sbP (N : Nat → Nat) (m : Nat) : Nat → Nat
  | 0 => 0
  | w + 1 => if bornN N (w + 1) m = true then w + 1 else sbP N m w
def sbN (N : Nat → Nat) (m : Nat) : Nat := sbP N m 99
