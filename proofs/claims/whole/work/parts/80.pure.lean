theorem law_true (L : Nat) (sc : Nat → Int) (hL : L ≤ 384) (hsc : ∀ i, -2 ^ 31 ≤ sc i ∧ sc i < 2 ^ 31) : ∃ μ, f_L_law_L18 L sc 100000 0 mu0 = some (1, μ) := sorry
