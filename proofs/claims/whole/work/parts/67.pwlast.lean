/-! the last permutation is the only one without a next -/
theorem pw_last6 : ∀ n, n ≤ 6 → 1 ≤ n → ∀ j, j < fac n → decide (pvt (pw n j) (n - 1) = 0) = decide (j + 1 = fac n) := by decide +kernel
