/-! ===== the pure claim: shuttle, loans made, paid, taken away ===== -/
variable {e : Nat} {d : Option Int32} {m : lc_St} {g : Nat → Nat → Nat}
/-- u goes from x to y -/
def shS (g : Nat → Nat → Nat) (u x y : Nat) : Nat → Nat → Nat := gs (gs (gs g 2 x (g 2 x - u)) 2 y (g 2 y + arr u x y)) 0 5 (g 0 5 + (u - arr u x y))
theorem q_neg {a b : Nat} (h : b ≤ a) : nI a + -nI b = nI (a - b) := by rw [← pk_sub h, Int32.sub_eq_add_neg]
theorem x0_has8 (h8 : g 0 0 ≤ 8) {x : Nat} (hx : x < g 0 0) : P_X0_hasCell (nI x) (nB g) = some (nI 1) := by
  unfold P_X0_hasCell
  simp (disch := omega) only [nB_at, q_0, q_1, q_2, q_3, q_4, q_5, q_6, q_7, q_8, q_10, q_12, q_14, q_20, q_47, q_50, q_99, q_100, q_107, q_120, q_792, nI_ltI, nI_leI, nI_eq, q_okn, nI_clamp, nI_add, pk_mul, pk_sub, pk_div, q_nlt9, q_neg0, q_ne9, q_9ne, q_nle9]
  rw [if_neg (by omega), if_neg (by omega)]
theorem x0_shuttle (h8 : g 0 0 ≤ 8) {u x y : Nat} (hx : x < g 0 0) (hy : y < g 0 0) (hxy : x ≠ y) (hu : u ≤ g 2 x) (hb : g 2 x ≤ 99) : P_X0_shuttle (nI u) (nI x) (nI y) (nB g) = some (nI (arr u x y), nB (shS g u x y)) := by
  have ha := arr_le u x y
  unfold P_X0_shuttle
  simp only [q_0, q_1, q_2, q_3, q_4, q_5, q_6, q_7, q_8, q_10, q_12, q_14, q_20, q_47, q_50, q_99, q_100, q_107, q_120, q_792]
  simp (disch := omega) only [↓bE (x0_has8 h8 hx), ↓bE (x0_has8 h8 hy), ↓bE (x0_arr (b := nB g) (show u < 2 ^ 20 by omega) (show x < 8 by omega) (show y < 8 by omega)), nB_at, q_0, q_1, q_2, q_3, q_4, q_5, q_6, q_7, q_8, q_10, q_12, q_14, q_20, q_47, q_50, q_99, q_100, q_107, q_120, q_792, nI_ltI, nI_leI, nI_eq, q_okn, nI_clamp, nI_add, pk_mul, pk_sub, pk_div, q_nlt9, q_neg0, q_ne9, q_9ne, q_nle9, lc_let, q_ift, q_ifT, q_iff, q_bd, q_bd2, q_bd3, q_nbd, q_nbd2, ↓reduceIte, and_true, true_and, Nat.one_ne_zero, Nat.reduceEqDiff, Nat.reduceLeDiff, Nat.reduceLT, hx, hy, nB_ss, gs_i, gs_r, gs_at]
  rfl
def shM (m : lc_St) (g : Nat → Nat → Nat) (u x y : Nat) : lc_St := lc_ss (lc_ss (lc_ss m 1 (7 + 5 * x + 1) (nI (g 2 x - u))) 1 (7 + 5 * y + 1) (nI (g 2 y + arr u x y))) 1 5 (nI (g 0 5 + (u - arr u x y)))
theorem x4_shuttle (hr : RM e d m g) (hi : Iv g) {u x y : Nat} (hx : x < g 0 0) (hy : y < g 0 0) (hxy : x ≠ y) (hu : u ≤ g 2 x) (hv : g 2 y + arr u x y ≤ g 1 y) : P_X4_shuttle (nI u) (nI x) (nI y) m = some (nI (arr u x y), shM m g u x y) ∧ RM e d (shM m g u x y) (shS g u x y) ∧ Iv (shS g u x y) ∧ Fr m (shM m g u x y) := by
  have h8 := hi.1
  have hxl := hi.2.2.1 x hx
  have hyl := hi.2.2.1 y hy
  have ha := arr_le u x y
  have r1 := RM_c1 hr (show x < 8 by omega) (g 2 x - u)
  have r2 := RM_c1 r1 (show y < 8 by omega) (g 2 y + arr u x y)
  have r3 := RM_a5 r2 (g 0 5 + (u - arr u x y))
  have e1 : m 1 (7 + 5 * x + 1) + -nI u = nI (g 2 x - u) := by rw [(hr.2.1 x hx).2.1, q_neg hu]
  have e2 : lc_ss m 1 (7 + 5 * x + 1) (nI (g 2 x - u)) 1 (7 + 5 * y + 1) + nI (arr u x y) = nI (g 2 y + arr u x y) := by
    rw [ss_ne _ _ _ (by omega), (hr.2.1 y hy).2.1, nI_add]
  have e3 : lc_ss (lc_ss m 1 (7 + 5 * x + 1) (nI (g 2 x - u))) 1 (7 + 5 * y + 1) (nI (g 2 y + arr u x y)) 1 5 + (nI u - nI (arr u x y)) = nI (g 0 5 + (u - arr u x y)) := by
    rw [ss_ne _ _ _ (by omega), ss_ne _ _ _ (by omega), hr.1.2.2.2.2.2.1, pk_sub ha, nI_add]
  refine ⟨?_, r3, ?_, ((Fr.rf m).s1 _ _).s1 _ _ |>.s1 _ _⟩
  · unfold P_X4_shuttle
    simp only [q_0, q_1, q_2, q_3, q_4, q_5, q_6, q_7, q_8, q_10, q_12, q_14, q_20, q_47, q_50, q_99, q_100, q_107, q_120, q_792]
    rw [bE (x4_arr (show u < 2 ^ 20 by omega) (show x < 8 by omega) (show y < 8 by omega)), bE (x4_more _ (show x < 8 by omega) (show 1 < 5 by omega)), e1, bE (x4_more _ (show y < 8 by omega) (show 1 < 5 by omega)), e2]
    simp only [lc_let]
    rw [e3]; rfl
  · refine Iv_a (Iv_c1 (Iv_c1 hi hx (by omega)) ?_ ?_) (by omega) _
    · simpa (disch := omega) only [gs_r] using hy
    · simpa (disch := omega) only [gs_r] using hv
/-- the loan of u from x to y at rate r, i the next place -/
def lnS (g : Nat → Nat → Nat) (x y u r : Nat) : Nat → Nat → Nat := gs (gs (gs (gs g 5 (g 0 1) x) 6 (g 0 1) y) 7 (g 0 1) u) 8 (g 0 1) r
def lendS (g : Nat → Nat → Nat) (x y u r : Nat) : Nat → Nat → Nat := gs (gs (shS (lnS g x y u r) u x y) 9 (g 0 1) (arr u x y)) 0 1 (g 0 1 + 1)
theorem lnS_c (g : Nat → Nat → Nat) (x y u r k : Nat) (hk : k < 5) : lnS g x y u r k = g k := by
  unfold lnS; simp (disch := omega) only [gs_r]
theorem lnS_i (g : Nat → Nat → Nat) (x y u r k i : Nat) (hi : i ≠ g 0 1) : lnS g x y u r k i = g k i := by
  unfold lnS
  by_cases h5 : k = 5
  · subst h5; simp (disch := omega) only [gs_r, gs_i]
  · by_cases h6 : k = 6
    · subst h6; simp (disch := omega) only [gs_r, gs_i]
    · by_cases h7 : k = 7
      · subst h7; simp (disch := omega) only [gs_r, gs_i]
      · by_cases h8 : k = 8
        · subst h8; simp (disch := omega) only [gs_i, gs_r]
        · simp (disch := omega) only [gs_r]
theorem Iv_ln (hi : Iv g) (x y u r : Nat) : Iv (lnS g x y u r) := by
  refine ⟨by rw [lnS_c _ _ _ _ _ _ (by omega)]; exact hi.1, by rw [lnS_c _ _ _ _ _ _ (by omega)]; exact hi.2.1, fun c hc => ?_, fun j hj => ?_⟩
  · rw [lnS_c _ _ _ _ _ _ (by omega)] at hc
    have := hi.2.2.1 c hc
    simpa (disch := omega) only [lnS_c] using this
  · rw [lnS_c _ _ _ _ _ _ (by omega)] at hj
    have := hi.2.2.2 j hj
    rw [lnS_i _ _ _ _ _ 5 j (by omega), lnS_i _ _ _ _ _ 6 j (by omega), lnS_i _ _ _ _ _ 7 j (by omega), lnS_i _ _ _ _ _ 8 j (by omega), lnS_c _ _ _ _ _ _ (by omega)]
    exact this
theorem x0_makeLoan (hi : Iv g) {x y u r : Nat} (hx : x < g 0 0) (hy : y < g 0 0) (hxy : x ≠ y) (hu : u ≤ 1000) : P_X0_makeLoan (nI x) (nI y) (nI u) (nI r) (nB g) = if clG g x y u then some (nI (arr u x y), nB (lendS g x y u r)) else some (-9, nB g) := by
  have h8 := hi.1
  have h12 := hi.2.1
  have hxl := hi.2.2.1 x hx
  unfold P_X0_makeLoan
  by_cases h : clG g x y u
  · have hlt := h.2.2.1
    have hc := x0_canLend hi hx hy hxy hu
    rw [if_pos h] at hc
    have hs := x0_shuttle (g := lnS g x y u r) (u := u) (x := x) (y := y) (by rw [lnS_c _ _ _ _ _ _ (by omega)]; exact h8) (by rw [lnS_c _ _ _ _ _ _ (by omega)]; exact hx) (by rw [lnS_c _ _ _ _ _ _ (by omega)]; exact hy) hxy (by rw [lnS_c _ _ _ _ _ _ (by omega)]; exact h.2.2.2.1) (by rw [lnS_c _ _ _ _ _ _ (by omega)]; omega)
    have hs' : P_X0_shuttle (nI u) (nI x) (nI y) (nB (gs (gs (gs (gs g 5 (g 0 1) x) 6 (g 0 1) y) 7 (g 0 1) u) 8 (g 0 1) r)) = _ := hs
    have e0 : shS (lnS g x y u r) u x y 0 1 = g 0 1 := by
      unfold shS; simp (disch := omega) only [gs_i, gs_r, lnS_c]
    rw [if_pos h]
    simp only [q_0, q_1, q_2, q_3, q_4, q_5, q_6, q_7, q_8, q_10, q_12, q_14, q_20, q_47, q_50, q_99, q_100, q_107, q_120, q_792]
    rw [bE hc]
    simp (disch := omega) only [nB_at, nI_ltI, nI_leI, nI_eq, q_okn, nI_clamp, nI_add, pk_mul, pk_sub, pk_div, q_nlt9, q_neg0, q_ne9, q_9ne, q_nle9, Nat.not_le.mpr hlt, ↓reduceIte, q_0, q_1, q_2, q_3, q_4, q_5, q_6, q_7, q_8, q_10, q_12, q_14, q_20, q_47, q_50, q_99, q_100, q_107, q_120, q_792, lc_let, q_ift, nB_ss]
    rw [bE2 hs']
    simp (disch := omega) only [nB_at, nI_ltI, nI_leI, nI_eq, q_okn, nI_clamp, nI_add, pk_mul, pk_sub, pk_div, q_nlt9, q_neg0, q_ne9, q_9ne, q_nle9, ↓reduceIte, q_0, q_1, q_2, q_3, q_4, q_5, q_6, q_7, q_8, q_10, q_12, q_14, q_20, q_47, q_50, q_99, q_100, q_107, q_120, q_792, lc_let, q_ift, nB_ss, Nat.one_ne_zero, gs_r, gs_at, e0]
    rfl
  · have hc := x0_canLend hi hx hy hxy hu
    rw [if_neg h] at hc
    rw [if_neg h, bE hc]
    simp only [q_0, q_1, q_2, q_3, q_4, q_5, q_6, q_7, q_8, q_10, q_12, q_14, q_20, q_47, q_50, q_99, q_100, q_107, q_120, q_792, ↓reduceIte]
    split <;> rfl
