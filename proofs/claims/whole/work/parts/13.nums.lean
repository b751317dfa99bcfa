/-! numbers, sets of bits -/
theorem nI_lt_r {a b : Nat} (hb : b < 2 ^ 31) (h : a < b) : nI a < nI b := nI_lt h hb
theorem nI_le_r {a b : Nat} (hb : b < 2 ^ 31) (h : a ≤ b) : nI a ≤ nI b := nI_le h hb
theorem sh31 : ∀ k : Nat, k < 32 → ((nI k &&& 31).toBitVec.smod 32).toNat = k := by decide +kernel
theorem nI_shl (a k : Nat) (hk : k < 32) (h : a * 2 ^ k < 2 ^ 32) : nI a <<< (nI k &&& 31) = nI (a * 2 ^ k) := pk_shlN _ k (sh31 k hk) h
theorem nI_shr (a k : Nat) (hk : k < 32) (h : a < 2 ^ 31) : nI a >>> (nI k &&& 31) = nI (a / 2 ^ k) := pk_shrN h _ k (sh31 k hk)
theorem nI_shl1 (k : Nat) (hk : k < 32) : nI 1 <<< (nI k &&& 31) = nI (2 ^ k) := by
  have h : 2 ^ k ≤ 2 ^ 31 := Nat.pow_le_pow_right (by decide) (by omega)
  rw [nI_shl 1 k hk (by omega), Nat.one_mul]
theorem nI_xor (a b : Nat) : nI a ^^^ nI b = nI (a ^^^ b) := by
  unfold nI
  apply Int32.toBitVec_inj.mp
  simp [BitVec.ofNat_xor]
/-- bit k of the set m -/
def bitN (m k : Nat) : Nat := m / 2 ^ k % 2
theorem bitN_lt (m k : Nat) : bitN m k < 2 := Nat.mod_lt _ (by decide)
/-- how many of six bits -/
def popc (m : Nat) : Nat := m % 2 + m / 2 % 2 + m / 4 % 2 + m / 8 % 2 + m / 16 % 2 + m / 32 % 2
theorem popc_le (m : Nat) : popc m ≤ 6 := by
  unfold popc
  omega
theorem nI_bit (m i : Nat) : nI (m / 2 ^ i) &&& nI 1 = nI (bitN m i) := by
  rw [nI_and, Nat.and_one_is_mod]
  rfl
/-- a without b, of 64 -/
def sdf (a b : Nat) : Nat := a &&& (b ^^^ 63)
theorem m1_ : (-1 : Int32) = nI 4294967295 := by decide
theorem nI_not (a b : Nat) (ha : a < 64) (hb : b < 64) : nI a &&& (nI b ^^^ (-1)) = nI (sdf a b) := by
  rw [m1_, nI_xor, nI_and]
  refine congrArg nI ?_
  unfold sdf
  apply Nat.eq_of_testBit_eq
  intro i
  rw [Nat.testBit_and, Nat.testBit_and, Nat.testBit_xor, Nat.testBit_xor]
  by_cases hi : i < 6
  · have h1 : ∀ i, i < 6 → Nat.testBit 4294967295 i = true := by decide
    have h2 : ∀ i, i < 6 → Nat.testBit 63 i = true := by decide
    rw [h1 i hi, h2 i hi]
  · have : Nat.testBit a i = false := Nat.testBit_lt_two_pow (Nat.lt_of_lt_of_le ha (by
      have : 2 ^ 6 ≤ 2 ^ i := Nat.pow_le_pow_right (by decide) (by omega)
      omega))
    rw [this]
    rfl
theorem inA_f1 {x : Int32} {n : Nat} (h : x < 0) : ¬ inA x n := fun q => q (Or.inl h)
theorem nI_int {n : Nat} (h : n < 2 ^ 31) : (nI n).toInt = (n : Int) := nI_toInt h
theorem inA_f2 {x : Int32} {n : Nat} (hn : n < 2 ^ 31) (h : nI n ≤ x) : ¬ inA x n := by
  rw [inA_iff]
  rw [le_iff_, nI_int hn] at h
  omega
theorem inA_t {x : Int32} {n : Nat} (hn : n < 2 ^ 31) (h1 : ¬ x < 0) (h2 : ¬ nI n ≤ x) : inA x n := by
  rw [inA_iff]
  rw [lt_iff_] at h1
  rw [le_iff_, nI_int hn] at h2
  have : (0 : Int32).toInt = 0 := rfl
  omega
theorem inA_nI {j n : Nat} (hj : j < 2 ^ 31) : inA (nI j) n ↔ j < n := by
  rw [inA_iff, nI_int hj]
  omega
theorem b2i_cg {c e : Prop} [Decidable c] [Decidable e] (h : c ↔ e) : b2i c = b2i e := by
  by_cases hc : c
  · rw [b2iT hc, b2iT (h.mp hc)]
  · rw [b2iF hc, b2iF (fun q => hc (h.mpr q))]
theorem inA_f99 {x : Int32} (h : nI 99 < x) : ¬ inA x 100 := by
  rw [inA_iff]
  rw [lt_iff_, nI_int (by decide)] at h
  omega
theorem inA_t99 {x : Int32} (h1 : ¬ x < 0) (h2 : ¬ nI 99 < x) : inA x 100 := by
  rw [inA_iff]
  rw [lt_iff_] at h1
  rw [lt_iff_, nI_int (by decide)] at h2
  have : (0 : Int32).toInt = 0 := rfl
  omega
theorem loopUp {P : Nat → Prop} {e : Nat} (h : ∀ k, k ≤ e → (k < e → P (k + 1)) → P k) : ∀ k, k ≤ e → P k := by
  have key : ∀ n k, k ≤ e → e ≤ k + n → P k := by
    intro n
    induction n with
    | zero =>
      intro k h1 h2
      exact h k h1 (fun q => absurd q (by omega))
    | succ n ih =>
      intro k h1 h2
      exact h k h1 (fun q => ih (k + 1) (by omega) (by omega))
  intro k hk
  exact key e k hk (by omega)
theorem le_sub_ {a b c : Nat} (ha : a < 2 ^ 30) (hb : b < 2 ^ 30) (hc : c < 2 ^ 30) : nI a ≤ nI b - nI c ↔ a + c ≤ b := by
  rw [le_iff_, nI_int (by omega), pk_sub_toInt hb hc]
  omega
theorem lt_sub_ {a b c : Nat} (ha : a < 2 ^ 30) (hb : b < 2 ^ 30) (hc : c < 2 ^ 30) : nI b - nI c < nI a ↔ b < a + c := by
  rw [lt_iff_, nI_int (by omega), pk_sub_toInt hb hc]
  omega
theorem or_pow {a k : Nat} (h : a < 2 ^ k) : a ||| 2 ^ k = a + 2 ^ k := by
  rw [Nat.or_comm, Nat.add_comm]
  exact (Nat.two_pow_add_eq_or_of_lt h 1 |> fun q => by simpa using q.symm)
