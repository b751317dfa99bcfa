/-! the most weight and the stoutest set, by both ways of looking -/
theorem brk_sh {N : Nat → Nat} {m sh : Nat} (hN : TI N) (hs : sh ≤ 99) : ∀ k, k ≤ 6 → (brkP N m sh k = 0 ↔ sh + 200 ≤ shP N m k) := by
  intro k
  induction k with
  | zero =>
    intro _
    show (0 = 0 ↔ sh + 200 ≤ 299)
    omega
  | succ k ih =>
    intro hk
    have h := ih (by omega)
    obtain ⟨z1, z2, z3⟩ := hN.2.2.2.2.2.2.2.2.2.1 k (by omega)
    have hp := Nat.two_pow_pos k
    show (brkP N m sh k + (if bitN m k = 1 ∧ capN N k (popc m) < sh + N (21 + k) then 2 ^ k else 0) = 0 ↔ sh + 200 ≤ (if bitN m k = 1 then min (shP N m k) (capN N k (popc m) + 200 - N (21 + k)) else shP N m k))
    by_cases hb : bitN m k = 1
    · rw [if_pos hb]
      by_cases hc : capN N k (popc m) < sh + N (21 + k)
      · rw [if_pos ⟨hb, hc⟩]
        omega
      · rw [if_neg (fun q => hc q.2)]
        omega
    · rw [if_neg hb, if_neg (fun q => hb q.1)]
      omega
theorem ceil_le {p q s : Nat} (hq : 0 < q) : (p + q - 1) / q ≤ s ↔ p ≤ s * q := by
  rw [← Nat.lt_succ_iff, Nat.div_lt_iff_lt_mul hq, Nat.succ_mul]
  omega
def bearB (N : Nat → Nat) (m : Nat) : Nat := if N 5 = 1 then 2 * ((shP N m (N 2) - 200) * popc m) else (shP N m (N 2) - 200) * popc m
theorem born_B {N : Nat → Nat} {m w : Nat} (hN : TI N) (hm : m < 64) (h1 : 1 ≤ w) (h2 : w ≤ 99) : bornN N w m = true ↔ w ≤ bearB N m := by
  have hp2 : N 2 ≤ 6 := hN.2.2.1
  by_cases h0 : m = 0
  · subst h0
    constructor
    · intro h
      exact absurd h (bornF1 rfl)
    · intro h
      exfalso
      have : bearB N 0 = 0 := by
        unfold bearB
        rw [show popc 0 = 0 from rfl, Nat.mul_zero]
        split <;> rfl
      omega
  · have hpc := popc_nz m hm h0
    have hpl := pullN_le (N := N) h2
    have hsl := shareN_le (p := pullN N w) (m := m)
    have hsp : 1 ≤ shareN (pullN N w) m := shareN_pos hm h0 (pullN_pos h1)
    have hb : bornN N w m = true ↔ shareN (pullN N w) m + 200 ≤ shP N m (N 2) := by
      rw [← brk_sh hN (by omega) (N 2) hp2]
      constructor
      · intro h
        by_cases q : brkN N m (shareN (pullN N w) m) = 0
        · exact q
        · exact absurd h (bornF2 q)
      · intro h
        exact bornT h0 h
    rw [hb]
    have hc : shareN (pullN N w) m + 200 ≤ shP N m (N 2) ↔ pullN N w ≤ (shP N m (N 2) - 200) * popc m := by
      have e : shareN (pullN N w) m = (pullN N w + popc m - 1) / popc m := by
        unfold shareN
        rw [if_neg (by omega)]
      rw [← ceil_le (by omega), ← e]
      omega
    rw [hc]
    unfold pullN bearB
    split <;> omega
theorem sbP_B {N : Nat → Nat} {m : Nat} (hN : TI N) (hm : m < 64) : ∀ w, w ≤ 99 → sbP N m w = min w (bearB N m) := by
  intro w
  induction w with
  | zero => intro _; exact (Nat.zero_min _).symm
  | succ w ih =>
    intro hw
    have h := ih (by omega)
    have hb := born_B (w := w + 1) hN hm (by omega) hw
    show (if bornN N (w + 1) m = true then w + 1 else sbP N m w) = _
    by_cases q : w + 1 ≤ bearB N m
    · rw [if_pos (hb.mpr q)]
      omega
    · rw [if_neg (fun z => q (hb.mp z)), h]
      omega
theorem mw_sb {N : Nat → Nat} {m : Nat} (hN : TI N) (hm : m < 64) : sbN N m = mwN N m := sbP_B hN hm 99 (Nat.le_refl _)
/-- the reference's stoutest of the sets under k, and one more than it bears -/
def vM (N : Nat → Nat) (k : Nat) : Nat := if k &&& N 7 = 0 then sbN N k + 1 else 0
def stM (N : Nat → Nat) : Nat → Nat × Nat
  | 0 => (0, 0)
  | k + 1 => if vM N k ≤ (stM N k).2 then stM N k else (k, vM N k)
theorem stM_e {N : Nat → Nat} {k : Nat} : stM N (k + 1) = if vM N k ≤ (stM N k).2 then stM N k else (k, vM N k) := rfl
theorem sb_zero {N : Nat → Nat} (hN : TI N) : sbN N 0 = 0 := by
  have h : bearB N 0 = 0 := by
    unfold bearB
    rw [show popc 0 = 0 from rfl, Nat.mul_zero]
    split <;> rfl
  show sbP N 0 99 = 0
  rw [sbP_B hN (by decide) 99 (Nat.le_refl _), h]
  rfl
theorem stM_P {N : Nat → Nat} (hN : TI N) : ∀ k, k + 1 ≤ 2 ^ N 2 → stM N (k + 1) = ((stP N k).1, (stP N k).2 + 1) := by
  have h64 := hN.set64
  intro k
  induction k with
  | zero =>
    intro _
    rw [stM_e]
    have : vM N 0 = 1 := by
      unfold vM
      rw [Nat.zero_and, if_pos rfl, sb_zero hN]
    rw [this]
    rfl
  | succ k ih =>
    intro hk
    have h := ih (by omega)
    rw [stM_e, h]
    have e := mw_sb (m := k + 1) hN (by omega)
    unfold vM
    rw [e]
    by_cases hg : (k + 1) &&& N 7 = 0
    · rw [if_pos hg]
      by_cases hl : (stP N k).2 < mwN N (k + 1)
      · rw [stP_t ⟨by omega, hg⟩ hl]
        exact if_neg (show ¬ mwN N (k + 1) + 1 ≤ (stP N k).2 + 1 by omega)
      · rw [stP_f2 hl]
        exact if_pos (show mwN N (k + 1) + 1 ≤ (stP N k).2 + 1 by omega)
    · rw [if_neg hg, stP_f1 (fun q => hg q.2)]
      exact if_pos (Nat.zero_le _)
theorem stP_out {N : Nat → Nat} : ∀ j k, 2 ^ N 2 ≤ k + 1 → stP N (k + j) = stP N k := by
  intro j
  induction j with
  | zero => intro k _; rfl
  | succ j ih =>
    intro k hk
    rw [show k + (j + 1) = (k + j) + 1 from rfl, stP_f1 (fun q => absurd q.1 (by omega)), ih k hk]
theorem stM_end {N : Nat → Nat} (hN : TI N) : (stM N (2 ^ N 2)).1 = stN N ∧ (stM N (2 ^ N 2)).2 = mwN N (stN N) + 1 := by
  have h64 := hN.set64
  have hp := Nat.two_pow_pos (N 2)
  have h := stM_P hN (2 ^ N 2 - 1) (by omega)
  rw [show 2 ^ N 2 - 1 + 1 = 2 ^ N 2 by omega] at h
  have ho := stP_out (N := N) (63 - (2 ^ N 2 - 1)) (2 ^ N 2 - 1) (by omega)
  rw [show 2 ^ N 2 - 1 + (63 - (2 ^ N 2 - 1)) = 63 by omega] at ho
  have hv : ∀ k, (stP N k).2 = mwN N (stP N k).1 := by
    intro k
    induction k with
    | zero =>
      show 0 = mwN N 0
      rw [← mw_sb hN (by decide), sb_zero hN]
    | succ k ih =>
      show (if (k + 1 < 2 ^ N 2 ∧ (k + 1) &&& N 7 = 0) ∧ (stP N k).2 < mwN N (k + 1) then (k + 1, mwN N (k + 1)) else stP N k).2 = mwN N (if (k + 1 < 2 ^ N 2 ∧ (k + 1) &&& N 7 = 0) ∧ (stP N k).2 < mwN N (k + 1) then (k + 1, mwN N (k + 1)) else stP N k).1
      split
      · rfl
      · exact ih
  rw [h]
  unfold stN
  rw [ho]
  exact ⟨rfl, by rw [← hv]⟩
/-! what is to spare -/
theorem cmP_or {N : Nat → Nat} (hN : TI N) : ∀ k, k ≤ 9 → cmP N k = 1000000000 ∨ cmP N k ≤ 400 := by
  have h1 : N 1 ≤ 99 := hN.2.1
  intro k
  induction k with
  | zero => intro _; exact Or.inl rfl
  | succ k ih =>
    intro hk
    have h := ih (by omega)
    unfold cmP
    split
    · exact h
    · right
      exact Nat.le_trans (Nat.min_le_right _ _) (by omega)
theorem dueP_ge {N : Nat → Nat} {day c : Nat} : ∀ e, c < e → day % N (32 + c) = N (37 + c) → 2 ^ c ≤ dueP N day e := by
  intro e
  induction e with
  | zero => intro h; omega
  | succ e ih =>
    intro h hd
    unfold dueP
    by_cases q : c = e
    · subst q
      rw [if_pos hd]
      omega
    · have := ih (by omega) hd
      omega
theorem cmP_no {N : Nat → Nat} (h3 : N 3 = 0) : ∀ k, cmP N k = 1000000000 := by
  intro k
  induction k with
  | zero => rfl
  | succ k ih =>
    unfold cmP
    have : dueN N (N 4 + k) = 0 := by
      unfold dueN
      rw [h3]
      rfl
    rw [if_pos this, ih]
theorem cmP_yes {N : Nat → Nat} (hN : TI N) (h3 : ¬ N 3 = 0) : cmP N 9 ≤ 400 := by
  obtain ⟨b0, b1, b2, b3, b4, b5, b6, b7, b8, bS, bC, bS1, bC1, bZ, bG⟩ := id hN
  obtain ⟨c1, c2, c3⟩ := bC1 0 (by omega)
  obtain ⟨d1, d2, d3⟩ := bC 0 (by omega)
  have hf := fm_lt_e (a := N (37 + 0)) (b := N 4) (e := N (32 + 0)) (by omega)
  have hh := fm_hit (a := N (37 + 0)) (b := N 4) (e := N (32 + 0)) (by omega) c3
  generalize fmN (N (37 + 0)) (N 4) (N (32 + 0)) = t at hf hh
  have hd : ¬ dueN N (N 4 + t) = 0 := by
    have := dueP_ge (N := N) (day := N 4 + t) (c := 0) (N 3) (by omega) hh
    unfold dueN
    omega
  have mono : ∀ j, cmP N (t + 1 + j) ≤ 400 := by
    intro j
    induction j with
    | zero =>
      show cmP N (t + 1) ≤ 400
      unfold cmP
      rw [if_neg hd]
      exact Nat.le_trans (Nat.min_le_right _ _) (by omega)
    | succ j ih =>
      show cmP N ((t + 1 + j) + 1) ≤ 400
      unfold cmP
      split
      · exact ih
      · exact Nat.le_trans (Nat.min_le_left _ _) ih
  have := mono (9 - (t + 1))
  rw [show t + 1 + (9 - (t + 1)) = 9 by omega] at this
  exact this
def mvC (p : Nat) : Int32 := if p = 1000000000 then nI 1000000000 else nI p - nI 200
theorem mvC_int {p : Nat} (h : p = 1000000000 ∨ p ≤ 400) : (mvC p).toInt = if p = 1000000000 then 1000000000 else (p : Int) - 200 := by
  unfold mvC
  split
  · rfl
  · rw [pk_sub_toInt (by omega) (by omega)]
    rfl
theorem mvC_le {p a b : Nat} (h : p = 1000000000 ∨ p ≤ 400) (ha : a ≤ 200) (hb : b ≤ 99) : mvC p ≤ nI a - nI b ↔ p ≤ a + 200 - b := by
  rw [le_iff_, mvC_int h, pk_sub_toInt (by omega) (by omega)]
  split <;> omega
theorem mvC_d {a b : Nat} (ha : a ≤ 200) (hb : b ≤ 99) : nI a - nI b = mvC (a + 200 - b) := by
  rw [eq_iff_, mvC_int (by omega), pk_sub_toInt (by omega) (by omega), if_neg (by omega)]
  omega
theorem mvC_far {p : Nat} (h : p = 1000000000 ∨ p ≤ 400) : mvC p = nI 1000000000 ↔ p = 1000000000 := by
  rw [eq_iff_, mvC_int h, nI_int (by decide)]
  split <;> omega
theorem mvC_neg {p : Nat} (h : p ≤ 400) : (0 : Int32) ≤ mvC p ↔ 200 ≤ p := by
  rw [le_iff_, mvC_int (Or.inr h), if_neg (by omega), z_toInt]
  omega
theorem mvC_long {p a : Nat} (h : p ≤ 400) (ha : a ≤ 99) : mvC p ≤ nI a ↔ p ≤ a + 200 := by
  rw [le_iff_, mvC_int (Or.inr h), if_neg (by omega), nI_int (by omega)]
  omega
theorem mvC_val {p : Nat} (h : p ≤ 400) (h2 : 200 ≤ p) : mvC p = nI (p - 200) := by
  rw [eq_iff_, mvC_int (Or.inr h), if_neg (by omega), nI_int (by omega)]
  omega
/-! the ways of a storm -/
def wyF (p set c k : Nat) : Nat := if bitN p k = 1 then (if bitN set k = 1 then 10 - c else c) else 1
def wyP (p set c : Nat) : Nat → Nat
  | 0 => 1
  | k + 1 => wyP p set c k * wyF p set c k
def ctA (p set : Nat) : Nat → Nat
  | 0 => 0
  | k + 1 => ctA p set k + (if bitN p k = 1 ∧ bitN set k = 1 then 1 else 0)
def ctB (p set : Nat) : Nat → Nat
  | 0 => 0
  | k + 1 => ctB p set k + (if bitN p k = 1 ∧ ¬ bitN set k = 1 then 1 else 0)
theorem wy_pow {p set c : Nat} : ∀ k, wyP p set c k = (10 - c) ^ ctA p set k * c ^ ctB p set k := by
  intro k
  induction k with
  | zero => rfl
  | succ k ih =>
    unfold wyP ctA ctB wyF
    rw [ih]
    by_cases h1 : bitN p k = 1
    · rw [if_pos h1]
      by_cases h2 : bitN set k = 1
      · rw [if_pos h2, if_pos ⟨h1, h2⟩, if_neg (fun q => q.2 h2), Nat.add_zero, Nat.pow_succ, Nat.mul_right_comm]; rfl
      · rw [if_neg h2, if_neg (fun q => h2 q.2), if_pos ⟨h1, h2⟩, Nat.add_zero, Nat.pow_succ, Nat.mul_assoc]
    · rw [if_neg h1, if_neg (fun q => h1 q.1), if_neg (fun q => h1 q.1), Nat.mul_one]
      rfl
theorem ct_popc : ∀ p, p < 64 → ∀ set, set < 64 → sdf set p = 0 → ctA p set 6 = popc set ∧ ctB p set 6 = popc p - popc set := by decide +kernel
theorem bit_out {m k : Nat} (h : m < 2 ^ k) : bitN m k = 0 := by
  unfold bitN
  rw [Nat.div_eq_of_lt h]
theorem wyP_out {p set c : Nat} : ∀ j k, p < 2 ^ k → wyP p set c (k + j) = wyP p set c k := by
  intro j
  induction j with
  | zero => intro k _; rfl
  | succ j ih =>
    intro k hk
    show wyP p set c (k + j) * wyF p set c (k + j) = _
    have hb : bitN p (k + j) = 0 := bit_out (Nat.lt_of_lt_of_le hk (Nat.pow_le_pow_right (by decide) (by omega)))
    unfold wyF
    rw [hb, if_neg (by decide), Nat.mul_one, ih k hk]
theorem wy_end {p set c n : Nat} (hn : n ≤ 6) (hp : p < 2 ^ n) (hs : set < 64) (hd : sdf set p = 0) : wyP p set c n = (10 - c) ^ popc set * c ^ (popc p - popc set) := by
  have h6 : 2 ^ n ≤ 2 ^ 6 := Nat.pow_le_pow_right (by decide) hn
  have h := wyP_out (set := set) (c := c) (6 - n) n hp
  rw [show n + (6 - n) = 6 by omega, wy_pow] at h
  obtain ⟨h1, h2⟩ := ct_popc p (by omega) set hs hd
  rw [h1, h2] at h
  exact h.symm
theorem wyF_le {p set c k : Nat} (hc : c ≤ 10) : wyF p set c k ≤ 10 := by
  unfold wyF
  split
  · split <;> omega
  · omega
theorem wyP_le {p set c : Nat} (hc : c ≤ 10) : ∀ k, wyP p set c k ≤ 10 ^ k := by
  intro k
  induction k with
  | zero => exact Nat.le_refl _
  | succ k ih =>
    unfold wyP
    rw [Nat.pow_succ]
    exact Nat.mul_le_mul ih (wyF_le hc)
/-- the reference's parts, of the sets under k -/
def stoM (N : Nat → Nat) (c p : Nat) : Nat → Nat
  | 0 => 0
  | k + 1 => if sdf k (N 6) = 0 ∧ bornN N (N (27 + c)) k = true then stoM N c p k + (10 - p) ^ popc k * p ^ (popc (N 6) - popc k) else stoM N c p k
theorem stoM_P {N : Nat → Nat} {c p : Nat} : ∀ k, stoM N c p (k + 1) = stoP N c p k := by
  intro k
  induction k with
  | zero =>
    show (if _ ∧ bornN N (N (27 + c)) 0 = true then _ else _) = _
    rw [if_neg (fun q => bornF1 rfl q.2)]
    rfl
  | succ k ih =>
    show (if _ ∧ _ then stoM N c p (k + 1) + _ else stoM N c p (k + 1)) = (if _ ∧ _ then stoP N c p k + _ else stoP N c p k)
    rw [ih]
theorem sdf_out : ∀ n, n ≤ 6 → ∀ p, p < 2 ^ n → ∀ set, set < 64 → 2 ^ n ≤ set → ¬ sdf set p = 0 := by decide +kernel
theorem stoP_out {N : Nat → Nat} {c p : Nat} (hN : TI N) : ∀ j k, 2 ^ N 2 ≤ k + 1 → k + j ≤ 63 → stoP N c p (k + j) = stoP N c p k := by
  obtain ⟨b0, b1, b2, b3, b4, b5, b6, -⟩ := id hN
  intro j
  induction j with
  | zero => intro k _ _; rfl
  | succ j ih =>
    intro k hk hj
    show (if sdf (k + j + 1) (N 6) = 0 ∧ _ then _ else stoP N c p (k + j)) = _
    rw [if_neg (fun q => sdf_out (N 2) b2 (N 6) b6 (k + j + 1) (by omega) (by omega) q.1)]
    exact ih k hk (by omega)
theorem stoM_end {N : Nat → Nat} {c p : Nat} (hN : TI N) : stoM N c p (2 ^ N 2) = stoN N c p := by
  have h64 := hN.set64
  have hp := Nat.two_pow_pos (N 2)
  have h := stoM_P (N := N) (c := c) (p := p) (2 ^ N 2 - 1)
  rw [show 2 ^ N 2 - 1 + 1 = 2 ^ N 2 by omega] at h
  have ho := stoP_out (c := c) (p := p) hN (63 - (2 ^ N 2 - 1)) (2 ^ N 2 - 1) (by omega) (by omega)
  rw [show 2 ^ N 2 - 1 + (63 - (2 ^ N 2 - 1)) = 63 by omega] at ho
  rw [h, ← ho]
  rfl
