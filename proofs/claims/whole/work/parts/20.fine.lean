theorem px_okA : ∀ k, k ≤ px_law → px_ok k := by
  sorry
