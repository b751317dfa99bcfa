theorem law_run (L : Nat) (xs : Nat → Int32) (hL : L ≤ 3072) : LawRun L xs := by
  sorry
