/-! ===== the pure claim: what holds of a battery, and how the law's rows lie to it ===== -/
def Iv (g : Nat → Nat → Nat) : Prop := g 0 0 ≤ 8 ∧ g 0 1 ≤ 12 ∧ (∀ c, c < g 0 0 → 10 ≤ g 1 c ∧ g 1 c ≤ 99 ∧ g 2 c ≤ g 1 c ∧ g 3 c ≤ 3 ∧ g 4 c ≤ 3) ∧ (∀ i, i < g 0 1 → g 5 i < g 0 0 ∧ g 6 i < g 0 0 ∧ g 5 i ≠ g 6 i ∧ 1 ≤ g 7 i ∧ g 7 i ≤ 99 ∧ g 8 i ≤ 50)
/-- the law's numbers: a: the counts, c: the cells (e: the cell whose flag is being set; 8: none), l: the loans, z: the rest is 0 -/
def QMa (m : lc_St) (g : Nat → Nat → Nat) : Prop := m 0 0 = nI (g 0 2) ∧ m 0 1 = nI (g 0 0) ∧ m 0 2 = nI (g 0 1) ∧ m 0 3 = nI (g 0 3) ∧ m 0 4 = nI (g 0 4) ∧ m 0 5 = nI (g 0 5) ∧ m 0 6 = nI (g 0 6)
def QMc (e : Nat) (m : lc_St) (g : Nat → Nat → Nat) : Prop := ∀ c, c < g 0 0 → m 1 (5 * c) = nI (g 1 c) ∧ m 1 (5 * c + 1) = nI (g 2 c) ∧ m 1 (5 * c + 2) = nI (g 3 c) ∧ m 1 (5 * c + 3) = nI (g 4 c) ∧ (c ≠ e → m 1 (5 * c + 4) = nI (if g 4 c < 3 then 0 else 1))
def QMl (m : lc_St) (g : Nat → Nat → Nat) : Prop := ∀ i, i < g 0 1 → m 2 (5 * i) = nI (g 5 i) ∧ m 2 (5 * i + 1) = nI (g 6 i) ∧ m 2 (5 * i + 2) = nI (g 7 i) ∧ m 2 (5 * i + 3) = nI (g 8 i) ∧ m 2 (5 * i + 4) = nI (g 9 i)
def QMz (m : lc_St) (g : Nat → Nat → Nat) : Prop := ∀ k, 5 * g 0 0 ≤ k → k < 30 → m 1 k = nI 0
def QM (e : Nat) (m : lc_St) (g : Nat → Nat → Nat) : Prop := QMa m g ∧ QMc e m g ∧ QMl m g ∧ QMz m g ∧ g 0 0 ≤ 6
variable {e : Nat} {m : lc_St} {g : Nat → Nat → Nat}
theorem qm_nc (h : QM e m g) : m 0 1 = nI (g 0 0) := h.1.2.1
theorem qm_nl (h : QM e m g) : m 0 2 = nI (g 0 1) := h.1.2.2.1
theorem qm_pi (h : QM e m g) : m 0 3 = nI (g 0 3) := h.1.2.2.2.1
theorem qm_us (h : QM e m g) : m 0 4 = nI (g 0 4) := h.1.2.2.2.2.1
theorem qm_ht (h : QM e m g) : m 0 5 = nI (g 0 5) := h.1.2.2.2.2.2.1
theorem qm_wo (h : QM e m g) : m 0 6 = nI (g 0 6) := h.1.2.2.2.2.2.2
theorem qm_c0 (h : QM e m g) {c : Nat} (hc : c < g 0 0) : m 1 (5 * c) = nI (g 1 c) := (h.2.1 c hc).1
theorem qm_c1 (h : QM e m g) {c : Nat} (hc : c < g 0 0) : m 1 (5 * c + 1) = nI (g 2 c) := (h.2.1 c hc).2.1
theorem qm_c2 (h : QM e m g) {c : Nat} (hc : c < g 0 0) : m 1 (5 * c + 2) = nI (g 3 c) := (h.2.1 c hc).2.2.1
theorem qm_c3 (h : QM e m g) {c : Nat} (hc : c < g 0 0) : m 1 (5 * c + 3) = nI (g 4 c) := (h.2.1 c hc).2.2.2.1
theorem qm_c4 (h : QM 8 m g) {c : Nat} (hc : c < g 0 0) : m 1 (5 * c + 4) = nI (if g 4 c < 3 then 0 else 1) := (h.2.1 c hc).2.2.2.2 (by have := h.2.2.2.2; omega)
theorem qm_l0 (h : QM e m g) {i : Nat} (hi : i < g 0 1) : m 2 (5 * i) = nI (g 5 i) := (h.2.2.1 i hi).1
theorem qm_l1 (h : QM e m g) {i : Nat} (hi : i < g 0 1) : m 2 (5 * i + 1) = nI (g 6 i) := (h.2.2.1 i hi).2.1
theorem qm_l2 (h : QM e m g) {i : Nat} (hi : i < g 0 1) : m 2 (5 * i + 2) = nI (g 7 i) := (h.2.2.1 i hi).2.2.1
theorem qm_l3 (h : QM e m g) {i : Nat} (hi : i < g 0 1) : m 2 (5 * i + 3) = nI (g 8 i) := (h.2.2.1 i hi).2.2.2.1
theorem qm_l4 (h : QM e m g) {i : Nat} (hi : i < g 0 1) : m 2 (5 * i + 4) = nI (g 9 i) := (h.2.2.1 i hi).2.2.2.2
theorem q_m1 : nI 0 - nI 1 < (0 : Int32) := by decide +kernel
theorem q_b01 {p : Prop} [Decidable p] : lc_if (nI (if p then 1 else 0) = nI 0 ∨ nI (if p then 1 else 0) = nI 1) (some (nI (if p then 1 else 0))) = some (nI (if p then 1 else 0)) := by
  apply q_ift
  split
  · exact Or.inr rfl
  · exact Or.inl rfl
theorem x0_has (hi : Iv g) {x : Nat} (hx : x < 2 ^ 31) : P_X0_hasCell (nI x) (nB g) = some (nI (if x < g 0 0 then 1 else 0)) := by
  have := hi.1
  unfold P_X0_hasCell
  simp (disch := omega) only [nB_at, q_0, q_1, q_2, q_3, q_4, q_5, q_6, q_7, q_8, q_10, q_11, q_12, q_13, q_14, q_20, q_26, q_30, q_40, q_50, q_51, q_56, q_60, q_90, q_99, q_100, q_19, nI_ltI, nI_leI, nI_eq, q_okn, nI_clamp, nI_add, pk_mul, pk_sub, pk_div, q_nlt9, q_neg0, q_ne9, q_9ne, q_nle9]
  rw [if_neg (by omega)]
  by_cases h : x < g 0 0
  · rw [if_neg (by omega), if_pos h]
  · rw [if_pos (by omega), if_neg h]
theorem x0_hasn {b : lc_St} {x : Int32} (hx : x < 0) : P_X0_hasCell x b = some (nI 0) := by
  unfold P_X0_hasCell
  rw [if_pos hx]; rfl
theorem x0_hasL (hi : Iv g) {x : Nat} (hx : x < 2 ^ 31) : P_X0_hasLoan (nI x) (nB g) = some (nI (if x < g 0 1 then 1 else 0)) := by
  have := hi.2.1
  unfold P_X0_hasLoan
  simp (disch := omega) only [nB_at, q_0, q_1, q_2, q_3, q_4, q_5, q_6, q_7, q_8, q_10, q_11, q_12, q_13, q_14, q_20, q_26, q_30, q_40, q_50, q_51, q_56, q_60, q_90, q_99, q_100, q_19, nI_ltI, nI_leI, nI_eq, q_okn, nI_clamp, nI_add, pk_mul, pk_sub, pk_div, q_nlt9, q_neg0, q_ne9, q_9ne, q_nle9]
  rw [if_neg (by omega)]
  by_cases h : x < g 0 1
  · rw [if_neg (by omega), if_pos h]
  · rw [if_pos (by omega), if_neg h]
theorem x0_hasLn {b : lc_St} {x : Int32} (hx : x < 0) : P_X0_hasLoan x b = some (nI 0) := by
  unfold P_X0_hasLoan
  rw [if_pos hx]; rfl
theorem x0_bank (hi : Iv g) {c : Nat} (hc : c < g 0 0) : P_X0_isBankrupt (nI c) (nB g) = some (nI (if g 4 c < 3 then 0 else 1)) := by
  have := hi.1
  have := hi.2.2.1 c hc
  unfold P_X0_isBankrupt
  simp (disch := omega) only [nB_at, q_0, q_1, q_2, q_3, q_4, q_5, q_6, q_7, q_8, q_10, q_11, q_12, q_13, q_14, q_20, q_26, q_30, q_40, q_50, q_51, q_56, q_60, q_90, q_99, q_100, q_19, nI_ltI, nI_leI, nI_eq, q_okn, nI_clamp, nI_add, pk_mul, pk_sub, pk_div, q_nlt9, q_neg0, q_ne9, q_9ne, q_nle9]
  rw [if_neg (by omega), if_neg (by omega), q_ift (by omega)]
  split <;> rfl
theorem x0_charge (hi : Iv g) {c : Nat} (hc : c < g 0 0) : P_X0_chargeOf (nI c) (nB g) = some (nI (g 2 c)) := by
  have := hi.1
  unfold P_X0_chargeOf
  rw [x0_has hi (by omega), if_pos hc, q_bd, if_neg (by decide +kernel)]
  simp (disch := omega) only [nB_at, q_0, q_1, q_2, q_3, q_4, q_5, q_6, q_7, q_8, q_10, q_11, q_12, q_13, q_14, q_20, q_26, q_30, q_40, q_50, q_51, q_56, q_60, q_90, q_99, q_100, q_19, nI_ltI, nI_leI, nI_eq, q_okn, nI_clamp, nI_add, pk_mul, pk_sub, pk_div, q_nlt9, q_neg0, q_ne9, q_9ne, q_nle9]
  rw [q_ift (by omega)]
theorem x0_charge0 (hi : Iv g) {c : Nat} (hc : ¬ c < g 0 0) (hx : c < 2 ^ 31) : P_X0_chargeOf (nI c) (nB g) = some (nI 0) := by
  unfold P_X0_chargeOf
  rw [x0_has hi (by omega), if_neg hc, q_bd, if_pos (by decide +kernel)]; rfl
theorem x0_chargen {b : lc_St} {x : Int32} (hx : x < 0) : P_X0_chargeOf x b = some (nI 0) := by
  unfold P_X0_chargeOf
  rw [x0_hasn hx, q_bd, if_pos (by decide +kernel)]; rfl
theorem x0_room (hi : Iv g) {c : Nat} (hc : c < g 0 0) : P_X0_roomOf (nI c) (nB g) = some (nI (g 1 c - g 2 c)) := by
  have := hi.1
  have := hi.2.2.1 c hc
  unfold P_X0_roomOf
  rw [x0_has hi (by omega), if_pos hc, q_bd, if_neg (by decide +kernel)]
  simp (disch := omega) only [nB_at, q_0, q_1, q_2, q_3, q_4, q_5, q_6, q_7, q_8, q_10, q_11, q_12, q_13, q_14, q_20, q_26, q_30, q_40, q_50, q_51, q_56, q_60, q_90, q_99, q_100, q_19, nI_ltI, nI_leI, nI_eq, q_okn, nI_clamp, nI_add, pk_mul, pk_sub, pk_div, q_nlt9, q_neg0, q_ne9, q_9ne, q_nle9]
  rw [q_ift (by omega), q_ift (by omega)]
/-- what arrives of x, brought from y to z -/
def arr (x y z : Nat) : Nat := x - x * (if y ≤ z then z - y else y - z) / 20
theorem arr_le (x y z : Nat) : arr x y z ≤ x := Nat.sub_le _ _
theorem x0_arr {b : lc_St} {x y z : Nat} (hx : x < 2 ^ 20) (hy : y < 8) (hz : z < 8) : P_X0_arriving (nI x) (nI y) (nI z) b = some (nI (arr x y z)) := by
  have h1 : x * (if y ≤ z then z - y else y - z) ≤ x * 8 := Nat.mul_le_mul_left _ (by split <;> omega)
  have h2 : x * (if y ≤ z then z - y else y - z) / 20 ≤ x := by omega
  unfold P_X0_arriving P_X0_arriving_14
  simp (disch := omega) only [nI_ltI, nI_leI, nI_eq, q_okn, nI_clamp, nI_add, pk_mul, pk_sub, pk_div, q_nlt9, q_neg0, q_ne9, q_9ne, q_nle9]
  by_cases h : y ≤ z
  · rw [if_pos h] at h1 h2
    by_cases h3 : z ≤ y
    · have : y = z := by omega
      subst this
      rw [if_pos h3]
      rw [Nat.sub_self] at h1 h2
      simp (disch := omega) only [q_0, q_1, q_2, q_3, q_4, q_5, q_6, q_7, q_8, q_10, q_11, q_12, q_13, q_14, q_20, q_26, q_30, q_40, q_50, q_51, q_56, q_60, q_90, q_99, q_100, q_19, nI_ltI, nI_leI, nI_eq, q_okn, nI_clamp, nI_add, pk_mul, pk_sub, pk_div, q_nlt9, q_neg0, q_ne9, q_9ne, q_nle9, Nat.sub_self]
      unfold arr
      rw [if_pos h, Nat.sub_self]
    · rw [if_neg h3]
      simp (disch := omega) only [q_0, q_1, q_2, q_3, q_4, q_5, q_6, q_7, q_8, q_10, q_11, q_12, q_13, q_14, q_20, q_26, q_30, q_40, q_50, q_51, q_56, q_60, q_90, q_99, q_100, q_19, nI_ltI, nI_leI, nI_eq, q_okn, nI_clamp, nI_add, pk_mul, pk_sub, pk_div, q_nlt9, q_neg0, q_ne9, q_9ne, q_nle9]
      unfold arr
      rw [if_pos h]
  · rw [if_neg h] at h1 h2
    rw [if_pos (by omega)]
    simp (disch := omega) only [q_0, q_1, q_2, q_3, q_4, q_5, q_6, q_7, q_8, q_10, q_11, q_12, q_13, q_14, q_20, q_26, q_30, q_40, q_50, q_51, q_56, q_60, q_90, q_99, q_100, q_19, nI_ltI, nI_leI, nI_eq, q_okn, nI_clamp, nI_add, pk_mul, pk_sub, pk_div, q_nlt9, q_neg0, q_ne9, q_9ne, q_nle9]
    unfold arr
    rw [if_neg h]
/-- what the law loses on the way -/
theorem l_lost {x y z : Nat} (hx : x < 2 ^ 20) (hy : y < 8) (hz : z < 8) : P_L_lost (nI x) (nI y) (nI z) = some (nI (x - arr x y z)) := by
  have h1 : x * (if y ≤ z then z - y else y - z) ≤ x * 8 := Nat.mul_le_mul_left _ (by split <;> omega)
  have h2 : x * (if y ≤ z then z - y else y - z) / 20 ≤ x := by omega
  unfold P_L_lost arr
  simp (disch := omega) only [nI_ltI, nI_leI, nI_eq, q_okn, nI_clamp, nI_add, pk_mul, pk_sub, pk_div, q_nlt9, q_neg0, q_ne9, q_9ne, q_nle9]
  by_cases h : y ≤ z
  · rw [if_pos h] at h1 h2 ⊢
    rw [if_pos h]
    simp (disch := omega) only [q_0, q_1, q_2, q_3, q_4, q_5, q_6, q_7, q_8, q_10, q_11, q_12, q_13, q_14, q_20, q_26, q_30, q_40, q_50, q_51, q_56, q_60, q_90, q_99, q_100, q_19, nI_ltI, nI_leI, nI_eq, q_okn, nI_clamp, nI_add, pk_mul, pk_sub, pk_div, q_nlt9, q_neg0, q_ne9, q_9ne, q_nle9]
    congr 2; omega
  · rw [if_neg h] at h1 h2 ⊢
    rw [if_neg h]
    simp (disch := omega) only [q_0, q_1, q_2, q_3, q_4, q_5, q_6, q_7, q_8, q_10, q_11, q_12, q_13, q_14, q_20, q_26, q_30, q_40, q_50, q_51, q_56, q_60, q_90, q_99, q_100, q_19, nI_ltI, nI_leI, nI_eq, q_okn, nI_clamp, nI_add, pk_mul, pk_sub, pk_div, q_nlt9, q_neg0, q_ne9, q_9ne, q_nle9]
    congr 2; omega
