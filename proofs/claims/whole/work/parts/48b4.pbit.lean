/-! ===== the pure claim: bits ===== -/
theorem x4_bits {s : Nat} (hs : s < 256) : P_X4_bits (nI s) = some (nI (bc s)) := by
  have z := l_bits hs 8 0 0 lc_FU (by omega) (q_FUn (by omega))
  rw [bsm_8, Nat.zero_add] at z
  exact z
