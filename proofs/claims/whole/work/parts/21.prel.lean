/-! ===== the pure claim: what holds of a battery, and how the model's row lies to it ===== -/
def Iv (g : Nat → Nat → Nat) : Prop := g 0 0 ≤ 8 ∧ g 0 1 ≤ 12 ∧ (∀ c, c < g 0 0 → 10 ≤ g 1 c ∧ g 1 c ≤ 99 ∧ g 2 c ≤ g 1 c ∧ g 3 c ≤ 3 ∧ g 4 c ≤ 3) ∧ (∀ i, i < g 0 1 → g 5 i < g 0 0 ∧ g 6 i < g 0 0 ∧ g 5 i ≠ g 6 i ∧ 1 ≤ g 7 i ∧ g 7 i ≤ 99 ∧ g 8 i ≤ 50)
/-- the watched loan and what it burned: held tight in costs alone (the model begins with 0, the class with none) -/
def W3 : Option Int32 → Int32 → Nat → Prop
  | none, _, _ => True
  | some _, x, y => x = nI y
def W4 : Option Int32 → Int32 → Nat → Prop
  | none, _, _ => True
  | some d, x, y => x + d = nI y
def N9 (_ : Int32) : Prop := True
theorem W3_rf (d : Option Int32) (v : Nat) : W3 d (nI v) v := by
  cases d
  · trivial
  · rfl
def RMa (d : Option Int32) (m : lc_St) (g : Nat → Nat → Nat) : Prop := m 1 0 = nI (g 0 2) ∧ m 1 1 = nI (g 0 0) ∧ m 1 2 = nI (g 0 1) ∧ m 1 3 = nI (g 0 3) ∧ m 1 4 = nI (g 0 4) ∧ m 1 5 = nI (g 0 5) ∧ m 1 6 = nI (g 0 6) ∧ W3 d (m 0 3) (g 0 7) ∧ W4 d (m 0 4) (g 0 8)
def RMc (e : Nat) (m : lc_St) (g : Nat → Nat → Nat) : Prop := ∀ c, c < g 0 0 → m 1 (7 + 5 * c) = nI (g 1 c) ∧ m 1 (7 + 5 * c + 1) = nI (g 2 c) ∧ m 1 (7 + 5 * c + 2) = nI (g 3 c) ∧ m 1 (7 + 5 * c + 3) = nI (g 4 c) ∧ (c ≠ e → m 1 (7 + 5 * c + 4) = nI (if g 4 c < 3 then 0 else 1))
def RMl (m : lc_St) (g : Nat → Nat → Nat) : Prop := ∀ i, i < g 0 1 → m 1 (47 + 5 * i) = nI (g 5 i) ∧ m 1 (47 + 5 * i + 1) = nI (g 6 i) ∧ m 1 (47 + 5 * i + 2) = nI (g 7 i) ∧ m 1 (47 + 5 * i + 3) = nI (g 8 i) ∧ m 1 (47 + 5 * i + 4) = nI (g 9 i)
/-- e: the cell whose flag is being set (8: none) -/
def RM (e : Nat) (d : Option Int32) (m : lc_St) (g : Nat → Nat → Nat) : Prop := RMa d m g ∧ RMc e m g ∧ RMl m g
variable {e : Nat} {d : Option Int32} {m : lc_St} {g : Nat → Nat → Nat}
/-! ===== the model's accessors ===== -/
theorem x4_of {c f : Nat} (hc : c < 8) (hf : f < 5) : P_X4_of (nI c) (nI f) m = some (m 1 (7 + 5 * c + f)) := by
  unfold P_X4_of
  simp (disch := omega) only [q_0, q_1, q_2, q_3, q_4, q_5, q_6, q_7, q_8, q_10, q_12, q_14, q_20, q_47, q_50, q_99, q_100, q_107, q_120, q_792, nI_ltI, nI_leI, nI_eq, q_okn, nI_clamp, nI_add, pk_mul, pk_sub, pk_div, q_nlt9, q_neg0, q_ne9, q_9ne, q_nle9]
  rw [q_ift (by omega)]
theorem x4_more {c f : Nat} (v : Int32) (hc : c < 8) (hf : f < 5) : P_X4_more (nI c) (nI f) v m = some (lc_ss m 1 (7 + 5 * c + f) (m 1 (7 + 5 * c + f) + v)) := by
  unfold P_X4_more
  simp (disch := omega) only [q_0, q_1, q_2, q_3, q_4, q_5, q_6, q_7, q_8, q_10, q_12, q_14, q_20, q_47, q_50, q_99, q_100, q_107, q_120, q_792, nI_ltI, nI_leI, nI_eq, q_okn, nI_clamp, nI_add, pk_mul, pk_sub, pk_div, q_nlt9, q_neg0, q_ne9, q_9ne, q_nle9]
  rw [q_ift (by omega), q_ift (by omega)]
  rfl
theorem x4_ofLoan {c f : Nat} (hc : c < 12) (hf : f < 5) : P_X4_ofLoan (nI c) (nI f) m = some (m 1 (47 + 5 * c + f)) := by
  unfold P_X4_ofLoan
  simp (disch := omega) only [q_0, q_1, q_2, q_3, q_4, q_5, q_6, q_7, q_8, q_10, q_12, q_14, q_20, q_47, q_50, q_99, q_100, q_107, q_120, q_792, nI_ltI, nI_leI, nI_eq, q_okn, nI_clamp, nI_add, pk_mul, pk_sub, pk_div, q_nlt9, q_neg0, q_ne9, q_9ne, q_nle9]
  rw [q_ift (by omega)]
theorem x4_of0 (hr : RM e d m g) (hi : Iv g) {c : Nat} (hc : c < g 0 0) : P_X4_of (nI c) (nI 0) m = some (nI (g 1 c)) := by
  have := hi.1
  rw [x4_of (by omega) (by omega)]; exact congrArg some (hr.2.1 c hc).1
theorem x4_of1 (hr : RM e d m g) (hi : Iv g) {c : Nat} (hc : c < g 0 0) : P_X4_of (nI c) (nI 1) m = some (nI (g 2 c)) := by
  have := hi.1
  rw [x4_of (by omega) (by omega)]; exact congrArg some (hr.2.1 c hc).2.1
theorem x4_of2 (hr : RM e d m g) (hi : Iv g) {c : Nat} (hc : c < g 0 0) : P_X4_of (nI c) (nI 2) m = some (nI (g 3 c)) := by
  have := hi.1
  rw [x4_of (by omega) (by omega)]; exact congrArg some (hr.2.1 c hc).2.2.1
theorem x4_of3 (hr : RM e d m g) (hi : Iv g) {c : Nat} (hc : c < g 0 0) : P_X4_of (nI c) (nI 3) m = some (nI (g 4 c)) := by
  have := hi.1
  rw [x4_of (by omega) (by omega)]; exact congrArg some (hr.2.1 c hc).2.2.2.1
theorem x4_of4 (hr : RM 8 d m g) (hi : Iv g) {c : Nat} (hc : c < g 0 0) : P_X4_of (nI c) (nI 4) m = some (nI (if g 4 c < 3 then 0 else 1)) := by
  have := hi.1
  rw [x4_of (by omega) (by omega)]; exact congrArg some ((hr.2.1 c hc).2.2.2.2 (by omega))
theorem x4_ol0 (hr : RM e d m g) (hi : Iv g) {c : Nat} (hc : c < g 0 1) : P_X4_ofLoan (nI c) (nI 0) m = some (nI (g 5 c)) := by
  have := hi.2.1
  rw [x4_ofLoan (by omega) (by omega)]; exact congrArg some (hr.2.2 c hc).1
theorem x4_ol1 (hr : RM e d m g) (hi : Iv g) {c : Nat} (hc : c < g 0 1) : P_X4_ofLoan (nI c) (nI 1) m = some (nI (g 6 c)) := by
  have := hi.2.1
  rw [x4_ofLoan (by omega) (by omega)]; exact congrArg some (hr.2.2 c hc).2.1
theorem x4_ol2 (hr : RM e d m g) (hi : Iv g) {c : Nat} (hc : c < g 0 1) : P_X4_ofLoan (nI c) (nI 2) m = some (nI (g 7 c)) := by
  have := hi.2.1
  rw [x4_ofLoan (by omega) (by omega)]; exact congrArg some (hr.2.2 c hc).2.2.1
theorem x4_ol3 (hr : RM e d m g) (hi : Iv g) {c : Nat} (hc : c < g 0 1) : P_X4_ofLoan (nI c) (nI 3) m = some (nI (g 8 c)) := by
  have := hi.2.1
  rw [x4_ofLoan (by omega) (by omega)]; exact congrArg some (hr.2.2 c hc).2.2.2.1
theorem x4_ol4 (hr : RM e d m g) (hi : Iv g) {c : Nat} (hc : c < g 0 1) : P_X4_ofLoan (nI c) (nI 4) m = some (nI (g 9 c)) := by
  have := hi.2.1
  rw [x4_ofLoan (by omega) (by omega)]; exact congrArg some (hr.2.2 c hc).2.2.2.2
theorem rm_nc (hr : RM e d m g) : m 1 1 = nI (g 0 0) := hr.1.2.1
theorem rm_nl (hr : RM e d m g) : m 1 2 = nI (g 0 1) := hr.1.2.2.1
theorem x4_sound (hr : RM 8 d m g) (hi : Iv g) {c : Nat} (hc : c < g 0 0) : P_X4_isSound (nI c) m = some (nI (if g 4 c < 3 then 1 else 0)) := by
  unfold P_X4_isSound
  simp only [q_0, q_1, q_2, q_3, q_4, q_5, q_6, q_7, q_8, q_10, q_12, q_14, q_20, q_47, q_50, q_99, q_100, q_107, q_120, q_792]
  rw [x4_of4 hr hi hc, q_bd]
  by_cases h : g 4 c < 3
  · rw [if_pos h, if_pos h, if_pos rfl]
  · rw [if_neg h, if_neg h, if_neg (by decide +kernel)]
theorem x4_in (a b x : Nat) (ha : a < 2 ^ 31) (hb : b < 2 ^ 31) (hx : x < 2 ^ 31) : P_X4_in (nI x) (nI a) (nI b) = some (nI (if a ≤ x ∧ x ≤ b then 1 else 0)) := by
  unfold P_X4_in
  simp (disch := omega) only [q_0, q_1, q_2, q_3, q_4, q_5, q_6, q_7, q_8, q_10, q_12, q_14, q_20, q_47, q_50, q_99, q_100, q_107, q_120, q_792, nI_ltI, nI_leI, nI_eq, q_okn, nI_clamp, nI_add, pk_mul, pk_sub, pk_div, q_nlt9, q_neg0, q_ne9, q_9ne, q_nle9]
  split <;> (try split) <;> (try split) <;> first | rfl | omega
theorem x4_inn (a b : Nat) {x : Int32} (hx : x < 0) (ha : a < 2 ^ 31) : P_X4_in x (nI a) (nI b) = some (nI 0) := by
  unfold P_X4_in
  rw [if_pos (q_lt hx ha)]; rfl
theorem x43_in (x a b : Int32) : P_X3_isWithin x a b = P_X4_in x a b := rfl
theorem q_m1 : nI 0 - nI 1 < (0 : Int32) := by decide +kernel
theorem x4_ib {x n : Nat} (hx : x < 2 ^ 31) (hn : n < 2 ^ 31) : P_X4_in (nI x) (nI 0) (nI n - nI 1) = some (nI (if x < n then 1 else 0)) := by
  cases n with
  | zero =>
    unfold P_X4_in
    rw [if_neg (by rw [nI_ltI (by omega) (by omega)]; omega), if_pos (q_lt q_m1 hx)]; rfl
  | succ n =>
    rw [pk_sub (by omega), x4_in _ _ _ (by omega) (by omega) hx]
    congr 2
    by_cases h : x < n + 1
    · rw [if_pos (by omega), if_pos h]
    · rw [if_neg (by omega), if_neg h]
theorem x4_ibn {x : Int32} {b : Int32} (hx : x < 0) : P_X4_in x (nI 0) b = some (nI 0) := by
  unfold P_X4_in
  rw [if_pos (q_lt hx (by omega))]; rfl
theorem q_b01 {p : Prop} [Decidable p] : lc_if (nI (if p then 1 else 0) = nI 0 ∨ nI (if p then 1 else 0) = nI 1) (some (nI (if p then 1 else 0))) = some (nI (if p then 1 else 0)) := by
  apply q_ift
  split
  · exact Or.inr rfl
  · exact Or.inl rfl
theorem x4_isCell (hr : RM 8 d m g) (hi : Iv g) {x : Nat} (hx : x < 2 ^ 31) : P_X4_isCell (nI x) m = some (nI (if x < g 0 0 then 1 else 0)) := by
  have := hi.1
  unfold P_X4_isCell
  simp only [q_0, q_1, q_2, q_3, q_4, q_5, q_6, q_7, q_8, q_10, q_12, q_14, q_20, q_47, q_50, q_99, q_100, q_107, q_120, q_792]
  rw [rm_nc hr, x4_ib hx (by omega), q_bd, q_b01]
theorem x4_isCelln {x : Int32} (hx : x < 0) : P_X4_isCell x m = some (nI 0) := by
  unfold P_X4_isCell
  simp only [q_0, q_1, q_2, q_3, q_4, q_5, q_6, q_7, q_8, q_10, q_12, q_14, q_20, q_47, q_50, q_99, q_100, q_107, q_120, q_792]
  rw [x4_ibn hx, q_bd, q_ift (Or.inl rfl)]
theorem x4_isLoan (hr : RM 8 d m g) (hi : Iv g) {x : Nat} (hx : x < 2 ^ 31) : P_X4_isLoan (nI x) m = some (nI (if x < g 0 1 then 1 else 0)) := by
  have := hi.2.1
  unfold P_X4_isLoan
  simp only [q_0, q_1, q_2, q_3, q_4, q_5, q_6, q_7, q_8, q_10, q_12, q_14, q_20, q_47, q_50, q_99, q_100, q_107, q_120, q_792]
  rw [rm_nl hr, x4_ib hx (by omega), q_bd, q_b01]
theorem x4_isLoann {x : Int32} (hx : x < 0) : P_X4_isLoan x m = some (nI 0) := by
  unfold P_X4_isLoan
  simp only [q_0, q_1, q_2, q_3, q_4, q_5, q_6, q_7, q_8, q_10, q_12, q_14, q_20, q_47, q_50, q_99, q_100, q_107, q_120, q_792]
  rw [x4_ibn hx, q_bd, q_ift (Or.inl rfl)]
/-! ===== the class's accessors ===== -/
theorem x0_has (hi : Iv g) {x : Nat} (hx : x < 2 ^ 31) : P_X0_hasCell (nI x) (nB g) = some (nI (if x < g 0 0 then 1 else 0)) := by
  have := hi.1
  unfold P_X0_hasCell
  simp (disch := omega) only [nB_at, q_0, q_1, q_2, q_3, q_4, q_5, q_6, q_7, q_8, q_10, q_12, q_14, q_20, q_47, q_50, q_99, q_100, q_107, q_120, q_792, nI_ltI, nI_leI, nI_eq, q_okn, nI_clamp, nI_add, pk_mul, pk_sub, pk_div, q_nlt9, q_neg0, q_ne9, q_9ne, q_nle9]
  rw [if_neg (by omega)]
  by_cases h : x < g 0 0
  · rw [if_neg (by omega), if_pos h]
  · rw [if_pos (by omega), if_neg h]
theorem x0_hasn {b : lc_St} {x : Int32} (hx : x < 0) : P_X0_hasCell x b = some (nI 0) := by
  unfold P_X0_hasCell
  rw [if_pos hx]; rfl
theorem x0_hasL (hi : Iv g) {x : Nat} (hx : x < 2 ^ 31) : P_X0_hasLoan (nI x) (nB g) = some (nI (if x < g 0 1 then 1 else 0)) := by
  have := hi.2.1
  unfold P_X0_hasLoan
  simp (disch := omega) only [nB_at, q_0, q_1, q_2, q_3, q_4, q_5, q_6, q_7, q_8, q_10, q_12, q_14, q_20, q_47, q_50, q_99, q_100, q_107, q_120, q_792, nI_ltI, nI_leI, nI_eq, q_okn, nI_clamp, nI_add, pk_mul, pk_sub, pk_div, q_nlt9, q_neg0, q_ne9, q_9ne, q_nle9]
  rw [if_neg (by omega)]
  by_cases h : x < g 0 1
  · rw [if_neg (by omega), if_pos h]
  · rw [if_pos (by omega), if_neg h]
theorem x0_hasLn {b : lc_St} {x : Int32} (hx : x < 0) : P_X0_hasLoan x b = some (nI 0) := by
  unfold P_X0_hasLoan
  rw [if_pos hx]; rfl
theorem x0_bank (hi : Iv g) {c : Nat} (hc : c < g 0 0) : P_X0_isBankrupt (nI c) (nB g) = some (nI (if g 4 c < 3 then 0 else 1)) := by
  have := hi.1
  have := hi.2.2.1 c hc
  unfold P_X0_isBankrupt
  simp (disch := omega) only [nB_at, q_0, q_1, q_2, q_3, q_4, q_5, q_6, q_7, q_8, q_10, q_12, q_14, q_20, q_47, q_50, q_99, q_100, q_107, q_120, q_792, nI_ltI, nI_leI, nI_eq, q_okn, nI_clamp, nI_add, pk_mul, pk_sub, pk_div, q_nlt9, q_neg0, q_ne9, q_9ne, q_nle9]
  rw [if_neg (by omega), if_neg (by omega), q_ift (by omega)]
  split <;> rfl
theorem x0_charge (hi : Iv g) {c : Nat} (hc : c < g 0 0) : P_X0_chargeOf (nI c) (nB g) = some (nI (g 2 c)) := by
  have := hi.1
  unfold P_X0_chargeOf
  rw [x0_has hi (by omega), if_pos hc, q_bd, if_neg (by decide +kernel)]
  simp (disch := omega) only [nB_at, q_0, q_1, q_2, q_3, q_4, q_5, q_6, q_7, q_8, q_10, q_12, q_14, q_20, q_47, q_50, q_99, q_100, q_107, q_120, q_792, nI_ltI, nI_leI, nI_eq, q_okn, nI_clamp, nI_add, pk_mul, pk_sub, pk_div, q_nlt9, q_neg0, q_ne9, q_9ne, q_nle9]
  rw [q_ift (by omega)]
theorem x0_charge0 (hi : Iv g) {c : Nat} (hc : ¬ c < g 0 0) (hx : c < 2 ^ 31) : P_X0_chargeOf (nI c) (nB g) = some (nI 0) := by
  unfold P_X0_chargeOf
  rw [x0_has hi (by omega), if_neg hc, q_bd, if_pos (by decide +kernel)]; rfl
theorem x0_chargen {b : lc_St} {x : Int32} (hx : x < 0) : P_X0_chargeOf x b = some (nI 0) := by
  unfold P_X0_chargeOf
  rw [x0_hasn hx, q_bd, if_pos (by decide +kernel)]; rfl
theorem x0_room (hi : Iv g) {c : Nat} (hc : c < g 0 0) : P_X0_roomOf (nI c) (nB g) = some (nI (g 1 c - g 2 c)) := by
  have := hi.1
  have := hi.2.2.1 c hc
  unfold P_X0_roomOf
  rw [x0_has hi (by omega), if_pos hc, q_bd, if_neg (by decide +kernel)]
  simp (disch := omega) only [nB_at, q_0, q_1, q_2, q_3, q_4, q_5, q_6, q_7, q_8, q_10, q_12, q_14, q_20, q_47, q_50, q_99, q_100, q_107, q_120, q_792, nI_ltI, nI_leI, nI_eq, q_okn, nI_clamp, nI_add, pk_mul, pk_sub, pk_div, q_nlt9, q_neg0, q_ne9, q_9ne, q_nle9]
  rw [q_ift (by omega), q_ift (by omega)]
theorem arr_a (x y z : Nat) (hx : x < 2 ^ 20) (hy : y < 8) (hz : z < 8) : P_X4_arrives (nI x) (nI y) (nI z) = some (nI (x - x * (if y ≤ z then z - y else y - z) / 20)) := by
  have h1 : x * (if y ≤ z then z - y else y - z) ≤ x * 8 := Nat.mul_le_mul_left _ (by split <;> omega)
  have h2 : x * (if y ≤ z then z - y else y - z) / 20 ≤ x := by omega
  unfold P_X4_arrives P_X4_arrives_14
  simp (disch := omega) only [q_0, q_1, q_2, q_3, q_4, q_5, q_6, q_7, q_8, q_10, q_12, q_14, q_20, q_47, q_50, q_99, q_100, q_107, q_120, q_792, nI_ltI, nI_leI, nI_eq, q_okn, nI_clamp, nI_add, pk_mul, pk_sub, pk_div, q_nlt9, q_neg0, q_ne9, q_9ne, q_nle9]
  by_cases h : y ≤ z
  · rw [if_pos h] at h1 h2 ⊢
    rw [if_pos h]
    simp (disch := omega) only [q_0, q_1, q_2, q_3, q_4, q_5, q_6, q_7, q_8, q_10, q_12, q_14, q_20, q_47, q_50, q_99, q_100, q_107, q_120, q_792, nI_ltI, nI_leI, nI_eq, q_okn, nI_clamp, nI_add, pk_mul, pk_sub, pk_div, q_nlt9, q_neg0, q_ne9, q_9ne, q_nle9]
  · rw [if_neg h] at h1 h2 ⊢
    rw [if_neg h]
    simp (disch := omega) only [q_0, q_1, q_2, q_3, q_4, q_5, q_6, q_7, q_8, q_10, q_12, q_14, q_20, q_47, q_50, q_99, q_100, q_107, q_120, q_792, nI_ltI, nI_leI, nI_eq, q_okn, nI_clamp, nI_add, pk_mul, pk_sub, pk_div, q_nlt9, q_neg0, q_ne9, q_9ne, q_nle9]
/-- what arrives of x, brought from y to z -/
def arr (x y z : Nat) : Nat := x - x * (if y ≤ z then z - y else y - z) / 20
theorem x4_arr {x y z : Nat} (hx : x < 2 ^ 20) (hy : y < 8) (hz : z < 8) : P_X4_arrives (nI x) (nI y) (nI z) = some (nI (arr x y z)) := arr_a x y z hx hy hz
theorem x0_arr {b : lc_St} {x y z : Nat} (hx : x < 2 ^ 20) (hy : y < 8) (hz : z < 8) : P_X0_arriving (nI x) (nI y) (nI z) b = some (nI (arr x y z)) := by
  rw [← x4_arr hx hy hz]
  unfold P_X0_arriving P_X4_arrives P_X0_arriving_14 P_X4_arrives_14
  simp (disch := omega) only [nI_ltI, nI_leI, nI_eq, q_okn, nI_clamp, nI_add, pk_mul, pk_sub, pk_div, q_nlt9, q_neg0, q_ne9, q_9ne, q_nle9]
  by_cases h : y = z
  · subst h; first | rfl | (rw [if_pos (Nat.le_refl _), if_pos (Nat.le_refl _)])
  · by_cases h2 : y ≤ z
    · rw [if_pos h2, if_neg (by omega)]
    · rw [if_neg h2, if_pos (by omega)]
theorem arr_le (x y z : Nat) : arr x y z ≤ x := Nat.sub_le _ _
