/-! the day of coming -/
def fmN (a b e : Nat) : Nat := (a + (e - b % e)) % e
theorem fm_ge {a b e : Nat} (h : b ≤ a) (he : 0 < e) : (a - b) % e = fmN a b e := by
  unfold fmN
  have h1 : b % e < e := Nat.mod_lt _ he
  have h2 : b = b % e + e * (b / e) := (Nat.mod_add_div b e).symm
  have h3 : a + (e - b % e) = (a - b) + e * (b / e + 1) := by
    rw [Nat.mul_add, Nat.mul_one]
    omega
  rw [h3, Nat.add_mul_mod_self_left]
theorem fm_lt {a b e : Nat} (h : a ≤ b) (he : 0 < e) : (if (b - a) % e = 0 then 0 else e - (b - a) % e) = fmN a b e := by
  unfold fmN
  have h1 : b % e < e := Nat.mod_lt _ he
  have h2 : (b - a) % e < e := Nat.mod_lt _ he
  have h4 : b % e + e * (b / e) = b := Nat.mod_add_div b e
  have h5 : (b - a) % e + e * ((b - a) / e) = b - a := Nat.mod_add_div (b - a) e
  have hle : (b - a) / e ≤ b / e := Nat.div_le_div_right (by omega)
  by_cases hz : (b - a) % e = 0
  · rw [if_pos hz]
    have h6 : a + (e - b % e) = e * (b / e - (b - a) / e + 1) := by
      rw [Nat.mul_add, Nat.mul_one, Nat.mul_sub]
      have : e * ((b - a) / e) ≤ e * (b / e) := Nat.mul_le_mul_left e hle
      omega
    rw [h6, Nat.mul_mod_right]
  · rw [if_neg hz]
    have h6 : a + (e - b % e) = (e - (b - a) % e) + e * (b / e - (b - a) / e) := by
      rw [Nat.mul_sub]
      have : e * ((b - a) / e) ≤ e * (b / e) := Nat.mul_le_mul_left e hle
      omega
    rw [h6, Nat.add_mul_mod_self_left]
    exact (Nat.mod_eq_of_lt (by omega)).symm
theorem sub_neg {a b : Nat} (h : a ≤ b) : nI a - nI b = -(nI (b - a)) := by
  have : nI b = nI a + nI (b - a) := by rw [nI_add, Nat.add_comm a, Nat.sub_add_cancel h]
  rw [this, Int32.sub_eq_add_neg, Int32.neg_add, Int32.sub_eq_add_neg, ← Int32.add_assoc, Int32.add_right_neg, Int32.zero_add]
theorem neg_rem : ∀ k, k < 1000 → ∀ e, e < 10 → (-(nI k)) - (-(nI k)) / nI e * nI e = -(nI (if e = 0 then k else k % e)) := by decide +kernel
theorem neg_xor : ∀ k, k < 1000 → ∀ e, e < 10 → k = 0 ∨ e = 0 ∨ ¬ 0 ≤ (-(nI k)) ^^^ nI e := by decide +kernel
theorem neg_z : ∀ k, k < 10 → (-(nI k) = 0 ↔ k = 0) := by decide +kernel
theorem neg_ad : ∀ z, z < 10 → ∀ e, e < 10 → z ≤ e → -(nI z) + nI e = nI (e - z) := by decide +kernel
