/-! ===== the pure claim: bits ===== -/
theorem bc_or {a b : Nat} (h : ∀ j, a.testBit j = true → b.testBit j = true → False) : bc (a ||| b) = bc a + bc b := by
  have e : ∀ j, (a ||| b) / 2 ^ j % 2 = a / 2 ^ j % 2 + b / 2 ^ j % 2 := fun j => by
    rw [← Nat.toNat_testBit, ← Nat.toNat_testBit, ← Nat.toNat_testBit, Nat.testBit_or]
    have hj := h j
    cases ha : a.testBit j <;> cases hb : b.testBit j <;> first | rfl | exact (hj ha hb).elim
  unfold bc
  rw [e 0, e 1, e 2, e 3, e 4, e 5, e 6, e 7]
  clear e h
  generalize a / 2 ^ 0 % 2 = x0
  generalize b / 2 ^ 0 % 2 = y0
  generalize a / 2 ^ 1 % 2 = x1
  generalize b / 2 ^ 1 % 2 = y1
  generalize a / 2 ^ 2 % 2 = x2
  generalize b / 2 ^ 2 % 2 = y2
  generalize a / 2 ^ 3 % 2 = x3
  generalize b / 2 ^ 3 % 2 = y3
  generalize a / 2 ^ 4 % 2 = x4
  generalize b / 2 ^ 4 % 2 = y4
  generalize a / 2 ^ 5 % 2 = x5
  generalize b / 2 ^ 5 % 2 = y5
  generalize a / 2 ^ 6 % 2 = x6
  generalize b / 2 ^ 6 % 2 = y6
  generalize a / 2 ^ 7 % 2 = x7
  generalize b / 2 ^ 7 % 2 = y7
  omega
theorem or_256 {a b : Nat} (ha : a < 256) (hb : b < 256) : a ||| b < 256 := Nat.or_lt_two_pow (n := 8) ha hb
