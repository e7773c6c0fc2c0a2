/-! a bit of a set -/
theorem and_bit : ∀ m, m < 1024 → ∀ k, k < 10 → decide (nI m &&& nI (2 ^ k) = nI (2 ^ k)) = bt (nI m) (nI k) := by decide +kernel
