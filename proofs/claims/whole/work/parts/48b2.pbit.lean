/-! ===== the pure claim: bits ===== -/
theorem b_step : ∀ s, s < 256 → ∀ j, j < 8 → (nI s >>> (nI j &&& 31)) &&& nI 1 = nI (s / 2 ^ j % 2) := by decide +kernel
