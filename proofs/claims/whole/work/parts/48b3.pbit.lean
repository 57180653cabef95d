/-! ===== the pure claim: bits ===== -/
def bsm (s j : Nat) : Nat → Nat
  | 0 => 0
  | k + 1 => s / 2 ^ j % 2 + bsm s (j + 1) k
theorem bsm_8 (s : Nat) : bsm s 0 8 = bc s := by
  simp only [bsm, bc, Nat.zero_add, Nat.reduceAdd, Nat.add_zero, Nat.add_assoc]
theorem l_bits {s : Nat} (hs : s < 256) : ∀ k j a n, j + k = 8 → k < n → P_X4_bits_4 n (nI s) (nI a) (nI j) = some (nI (a + bsm s j k)) := by
  intro k
  induction k with
  | zero =>
    intro j a n hj hn
    obtain ⟨n, rfl⟩ : ∃ q, n = q + 1 := ⟨n - 1, by omega⟩
    have : j = 8 := by omega
    subst this
    rw [P_X4_bits_4]
    simp only [q_0, q_1, q_2, q_3, q_4, q_5, q_6, q_7, q_8, q_10, q_12, q_14, q_20, q_47, q_50, q_99, q_100, q_107, q_120, q_792]
    rw [if_pos (nI_le (Nat.le_refl _) (by omega))]; rfl
  | succ k ih =>
    intro j a n hj hn
    obtain ⟨n, rfl⟩ : ∃ q, n = q + 1 := ⟨n - 1, by omega⟩
    rw [P_X4_bits_4]
    simp only [q_0, q_1, q_2, q_3, q_4, q_5, q_6, q_7, q_8, q_10, q_12, q_14, q_20, q_47, q_50, q_99, q_100, q_107, q_120, q_792, lc_let]
    rw [if_neg (by rw [nI_leI (by omega) (by omega)]; omega), b_step s hs j (by omega), nI_add, nI_add, ih (j + 1) _ n (by omega) (by omega), Nat.add_assoc]
    rfl
