theorem law_pure (L : Nat) (xs : Nat → Int32) (hL : L ≤ 2048) : ∃ n, wl_L_law_18 L xs n (nI 0) σ0 := by
  sorry
