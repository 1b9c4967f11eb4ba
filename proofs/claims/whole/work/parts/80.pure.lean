theorem law_pure (L : Nat) (hL : L ≤ 2560) (xs : Nat → Int32) (σ : Sto) (h0 : Init σ) : ∃ σ2 : Sto, f_law L xs σ = some (σ2, 1) := by
  sorry
