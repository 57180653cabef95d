/-! ===== the pure claim: bits ===== -/
/-- how many of eight bits are set -/
def bc (s : Nat) : Nat := s / 2 ^ 0 % 2 + s / 2 ^ 1 % 2 + s / 2 ^ 2 % 2 + s / 2 ^ 3 % 2 + s / 2 ^ 4 % 2 + s / 2 ^ 5 % 2 + s / 2 ^ 6 % 2 + s / 2 ^ 7 % 2
theorem b_cnt : ∀ s, s < 256 → P_J6_bitCount_0f7a4 (nI s) = some (nI (bc s)) := by decide +kernel
