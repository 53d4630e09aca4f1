theorem law_pure (xs : Nat → Int32) (L : Nat) (hL : L ≤ 2048) : ∃ K n : Nat, gL xs L K n 0 x_zero m_zero = some 1 := by
  sorry
