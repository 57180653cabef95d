/-! ===== the pure claim: shuttle, loans made ===== -/
variable {e : Nat} {m : lc_St} {g : Nat → Nat → Nat}
/-- u goes from x to y -/
def shS (g : Nat → Nat → Nat) (u x y : Nat) : Nat → Nat → Nat := gs (gs (gs g 2 x (g 2 x - u)) 2 y (g 2 y + arr u x y)) 0 5 (g 0 5 + (u - arr u x y))
theorem q_neg {a b : Nat} (h : b ≤ a) : nI a + -nI b = nI (a - b) := by rw [← pk_sub h, Int32.sub_eq_add_neg]
theorem x0_has8 (h8 : g 0 0 ≤ 8) {x : Nat} (hx : x < g 0 0) : P_X0_hasCell (nI x) (nB g) = some (nI 1) := by
  unfold P_X0_hasCell
  simp (disch := omega) only [nB_at, q_0, q_1, q_2, q_3, q_4, q_5, q_6, q_7, q_8, q_10, q_11, q_12, q_13, q_14, q_20, q_26, q_30, q_40, q_50, q_51, q_56, q_60, q_90, q_99, q_100, q_19, nI_ltI, nI_leI, nI_eq, q_okn, nI_clamp, nI_add, pk_mul, pk_sub, pk_div, q_nlt9, q_neg0, q_ne9, q_9ne, q_nle9]
  rw [if_neg (by omega), if_neg (by omega)]
theorem x0_shuttle (h8 : g 0 0 ≤ 8) {u x y : Nat} (hx : x < g 0 0) (hy : y < g 0 0) (hxy : x ≠ y) (hu : u ≤ g 2 x) (hb : g 2 x ≤ 99) : P_X0_shuttle (nI u) (nI x) (nI y) (nB g) = some (nI (arr u x y), nB (shS g u x y)) := by
  have ha := arr_le u x y
  unfold P_X0_shuttle
  simp only [q_0, q_1, q_2, q_3, q_4, q_5, q_6, q_7, q_8, q_10, q_11, q_12, q_13, q_14, q_20, q_26, q_30, q_40, q_50, q_51, q_56, q_60, q_90, q_99, q_100, q_19]
  simp (disch := omega) only [↓bE (x0_has8 h8 hx), ↓bE (x0_has8 h8 hy), ↓bE (x0_arr (b := nB g) (show u < 2 ^ 20 by omega) (show x < 8 by omega) (show y < 8 by omega)), nB_at, q_0, q_1, q_2, q_3, q_4, q_5, q_6, q_7, q_8, q_10, q_11, q_12, q_13, q_14, q_20, q_26, q_30, q_40, q_50, q_51, q_56, q_60, q_90, q_99, q_100, q_19, nI_ltI, nI_leI, nI_eq, q_okn, nI_clamp, nI_add, pk_mul, pk_sub, pk_div, q_nlt9, q_neg0, q_ne9, q_9ne, q_nle9, lc_let, q_ift, q_ifT, q_iff, q_bd, q_bd2, q_bd3, q_nbd, q_nbd2, ↓reduceIte, and_true, true_and, Nat.one_ne_zero, Nat.reduceEqDiff, Nat.reduceLeDiff, Nat.reduceLT, hx, hy, nB_ss, gs_i, gs_r, gs_at]
  rfl
def goM (m : lc_St) (g : Nat → Nat → Nat) (u x y : Nat) : lc_St := lc_ss (lc_ss (lc_ss m 1 (5 * x + 1) (nI (g 2 x - u))) 1 (5 * y + 1) (nI (g 2 y + arr u x y))) 0 5 (nI (g 0 5 + (u - arr u x y)))
theorem shS_r (g : Nat → Nat → Nat) (u x y : Nat) {r : Nat} (h0 : r ≠ 0) (h2 : r ≠ 2) : shS g u x y r = g r := by
  unfold shS; rw [gs_r _ _ _ h0, gs_r _ _ _ h2, gs_r _ _ _ h2]
theorem shS_0 (g : Nat → Nat → Nat) (u x y : Nat) {k : Nat} (h5 : k ≠ 5) : shS g u x y 0 k = g 0 k := by
  unfold shS; simp (disch := omega) only [gs_r, gs_i]
theorem Cn_sh (hn : Cn g) {u x y : Nat} (hx : x < g 0 0) (hy : y < g 0 0) (hxy : x ≠ y) (hu : u ≤ g 2 x) : Cn (shS g u x y) := by
  have ha := arr_le u x y
  have t1 := tn_gs g 2 x (g 2 x - u) hx
  have t2 := tn_gs (gs g 2 x (g 2 x - u)) 2 y (g 2 y + arr u x y) hy
  rw [gs_i _ _ _ (fun z => hxy z.symm)] at t2
  have e2 : shS g u x y 2 = gs (gs g 2 x (g 2 x - u)) 2 y (g 2 y + arr u x y) 2 := by unfold shS; rw [gs_r _ _ _ (by omega)]
  have e5 : shS g u x y 0 5 = g 0 5 + (u - arr u x y) := by unfold shS; rw [gs_at]
  unfold Cn at hn ⊢
  rw [e2, e5, shS_0 _ _ _ _ (show 0 ≠ 5 by omega), shS_0 _ _ _ _ (show 4 ≠ 5 by omega), shS_0 _ _ _ _ (show 3 ≠ 5 by omega)]
  omega
theorem l_goes (hr : QM e m g) (hi : Iv g) {u x y : Nat} (hx : x < g 0 0) (hy : y < g 0 0) (hxy : x ≠ y) (hu : u ≤ g 2 x) (hv : g 2 y + arr u x y ≤ g 1 y) : P_L_goes (nI u) (nI x) (nI y) m = some (nI (arr u x y), goM m g u x y) ∧ QM e (goM m g u x y) (shS g u x y) ∧ Iv (shS g u x y) := by
  have h6 := hr.2.2.2.2
  have hxl := hi.2.2.1 x hx
  have hyl := hi.2.2.1 y hy
  have ha := arr_le u x y
  have r1 := QM_c1 hr hx (g 2 x - u)
  have r2 := QM_c1 r1 (show y < gs g 2 x (g 2 x - u) 0 0 by rw [gs_r _ _ _ (by omega)]; exact hy) (g 2 y + arr u x y)
  have r3 := QM_a5 r2 (g 0 5 + (u - arr u x y))
  refine ⟨?_, r3, ?_⟩
  · have e0 := l_lost (x := u) (y := x) (z := y) (by omega) (by omega) (by omega)
    have e2 : lc_ss m 1 (5 * x + 1) (nI (g 2 x - u)) 1 (5 * y + 1) = nI (g 2 y) := by rw [ss_ne _ _ _ (by omega), qm_c1 hr hy]
    have e3 : lc_ss (lc_ss m 1 (5 * x + 1) (nI (g 2 x - u))) 1 (5 * y + 1) (nI (g 2 y + arr u x y)) 0 5 = nI (g 0 5) := by rw [ss_off _ _ _ (by omega), ss_off _ _ _ (by omega), qm_ht hr]
    unfold P_L_goes
    simp only [q_0, q_1, q_2, q_3, q_4, q_5, q_6, q_7, q_8, q_10, q_11, q_12, q_13, q_14, q_20, q_26, q_30, q_40, q_50, q_51, q_56, q_60, q_90, q_99, q_100, q_19]
    rw [bE e0]
    simp (disch := omega) only [nI_ltI, nI_leI, nI_eq, q_okn, nI_clamp, nI_add, pk_mul, pk_sub, pk_div, q_nlt9, q_neg0, q_ne9, q_9ne, q_nle9, q_0, q_1, q_2, q_3, q_4, q_5, q_6, q_7, q_8, q_10, q_11, q_12, q_13, q_14, q_20, q_26, q_30, q_40, q_50, q_51, q_56, q_60, q_90, q_99, q_100, q_19, q_ift, lc_let, qm_c1 hr hx, e2, show u - (u - arr u x y) = arr u x y by omega, e3]
    rfl
  · refine Iv_a (Iv_c1 (Iv_c1 hi hx (by omega)) ?_ ?_) (by omega) _
    · simpa (disch := omega) only [gs_r] using hy
    · simpa (disch := omega) only [gs_r] using hv
/-- the loan of u from x to y at rate r, i the next place -/
def lnS (g : Nat → Nat → Nat) (x y u r : Nat) : Nat → Nat → Nat := gs (gs (gs (gs g 5 (g 0 1) x) 6 (g 0 1) y) 7 (g 0 1) u) 8 (g 0 1) r
def lendS (g : Nat → Nat → Nat) (x y u r : Nat) : Nat → Nat → Nat := gs (gs (shS (lnS g x y u r) u x y) 9 (g 0 1) (arr u x y)) 0 1 (g 0 1 + 1)
theorem lnS_c (g : Nat → Nat → Nat) (x y u r k : Nat) (hk : k < 5) : lnS g x y u r k = g k := by
  unfold lnS; simp (disch := omega) only [gs_r]
theorem lnS_i (g : Nat → Nat → Nat) (x y u r k i : Nat) (hi : i ≠ g 0 1) : lnS g x y u r k i = g k i := by
  unfold lnS
  by_cases h5 : k = 5
  · subst h5; simp (disch := omega) only [gs_r, gs_i]
  · by_cases h6 : k = 6
    · subst h6; simp (disch := omega) only [gs_r, gs_i]
    · by_cases h7 : k = 7
      · subst h7; simp (disch := omega) only [gs_r, gs_i]
      · by_cases h8 : k = 8
        · subst h8; simp (disch := omega) only [gs_i, gs_r]
        · simp (disch := omega) only [gs_r]
theorem Iv_ln (hi : Iv g) (x y u r : Nat) : Iv (lnS g x y u r) := by
  refine ⟨by rw [lnS_c _ _ _ _ _ _ (by omega)]; exact hi.1, by rw [lnS_c _ _ _ _ _ _ (by omega)]; exact hi.2.1, fun c hc => ?_, fun j hj => ?_⟩
  · rw [lnS_c _ _ _ _ _ _ (by omega)] at hc
    have := hi.2.2.1 c hc
    simpa (disch := omega) only [lnS_c] using this
  · rw [lnS_c _ _ _ _ _ _ (by omega)] at hj
    have := hi.2.2.2 j hj
    rw [lnS_i _ _ _ _ _ 5 j (by omega), lnS_i _ _ _ _ _ 6 j (by omega), lnS_i _ _ _ _ _ 7 j (by omega), lnS_i _ _ _ _ _ 8 j (by omega), lnS_c _ _ _ _ _ _ (by omega)]
    exact this
theorem x0_makeLoan (hi : Iv g) {x y u r : Nat} (hx : x < g 0 0) (hy : y < g 0 0) (hxy : x ≠ y) (hu : u ≤ 1000) : P_X0_makeLoan (nI x) (nI y) (nI u) (nI r) (nB g) = if clG g x y u then some (nI (arr u x y), nB (lendS g x y u r)) else some (-9, nB g) := by
  have h8 := hi.1
  have h12 := hi.2.1
  have hxl := hi.2.2.1 x hx
  unfold P_X0_makeLoan
  by_cases h : clG g x y u
  · have hlt := h.2.2.1
    have hc := x0_canLend hi hx hy hxy hu
    rw [if_pos h] at hc
    have hs := x0_shuttle (g := lnS g x y u r) (u := u) (x := x) (y := y) (by rw [lnS_c _ _ _ _ _ _ (by omega)]; exact h8) (by rw [lnS_c _ _ _ _ _ _ (by omega)]; exact hx) (by rw [lnS_c _ _ _ _ _ _ (by omega)]; exact hy) hxy (by rw [lnS_c _ _ _ _ _ _ (by omega)]; exact h.2.2.2.1) (by rw [lnS_c _ _ _ _ _ _ (by omega)]; omega)
    have hs' : P_X0_shuttle (nI u) (nI x) (nI y) (nB (gs (gs (gs (gs g 5 (g 0 1) x) 6 (g 0 1) y) 7 (g 0 1) u) 8 (g 0 1) r)) = _ := hs
    have e0 : shS (lnS g x y u r) u x y 0 1 = g 0 1 := by
      unfold shS; simp (disch := omega) only [gs_i, gs_r, lnS_c]
    rw [if_pos h]
    simp only [q_0, q_1, q_2, q_3, q_4, q_5, q_6, q_7, q_8, q_10, q_11, q_12, q_13, q_14, q_20, q_26, q_30, q_40, q_50, q_51, q_56, q_60, q_90, q_99, q_100, q_19]
    rw [bE hc]
    simp (disch := omega) only [nB_at, nI_ltI, nI_leI, nI_eq, q_okn, nI_clamp, nI_add, pk_mul, pk_sub, pk_div, q_nlt9, q_neg0, q_ne9, q_9ne, q_nle9, Nat.not_le.mpr hlt, ↓reduceIte, q_0, q_1, q_2, q_3, q_4, q_5, q_6, q_7, q_8, q_10, q_11, q_12, q_13, q_14, q_20, q_26, q_30, q_40, q_50, q_51, q_56, q_60, q_90, q_99, q_100, q_19, lc_let, q_ift, nB_ss]
    rw [bE2 hs']
    simp (disch := omega) only [nB_at, nI_ltI, nI_leI, nI_eq, q_okn, nI_clamp, nI_add, pk_mul, pk_sub, pk_div, q_nlt9, q_neg0, q_ne9, q_9ne, q_nle9, ↓reduceIte, q_0, q_1, q_2, q_3, q_4, q_5, q_6, q_7, q_8, q_10, q_11, q_12, q_13, q_14, q_20, q_26, q_30, q_40, q_50, q_51, q_56, q_60, q_90, q_99, q_100, q_19, lc_let, q_ift, nB_ss, Nat.one_ne_zero, gs_r, gs_at, e0]
    rfl
  · have hc := x0_canLend hi hx hy hxy hu
    rw [if_neg h] at hc
    rw [if_neg h, bE hc]
    simp only [q_0, q_1, q_2, q_3, q_4, q_5, q_6, q_7, q_8, q_10, q_11, q_12, q_13, q_14, q_20, q_26, q_30, q_40, q_50, q_51, q_56, q_60, q_90, q_99, q_100, q_19, ↓reduceIte]
    split <;> rfl

theorem Iv_lend (hi : Iv g) {x y u r : Nat} (hx : x < g 0 0) (hy : y < g 0 0) (hxy : x ≠ y) (hu1 : 1 ≤ u) (hu : u ≤ 99) (hrr : r ≤ 50) (h : clG g x y u) : Iv (lendS g x y u r) := by
  have h8 := hi.1
  have hxl := hi.2.2.1 x hx
  have hyl := hi.2.2.1 y hy
  have hlt := h.2.2.1
  have hc := h.2.2.2.2
  have hs : Iv (shS (lnS g x y u r) u x y) := by
    refine Iv_a (Iv_c1 (Iv_c1 (Iv_ln hi x y u r) ?_ ?_) ?_ ?_) (by omega) _
    · simpa (disch := omega) only [lnS_c] using hx
    · simp (disch := omega) only [lnS_c]; omega
    · simpa (disch := omega) only [gs_r, lnS_c] using hy
    · simp (disch := omega) only [gs_r, lnS_c]; omega
  have e0 : shS (lnS g x y u r) u x y 0 1 = g 0 1 := by
    unfold shS; simp (disch := omega) only [gs_i, gs_r, lnS_c]
  have e00 : shS (lnS g x y u r) u x y 0 0 = g 0 0 := by
    unfold shS; simp (disch := omega) only [gs_i, gs_r, lnS_c]
  unfold lendS
  refine ⟨?_, ?_, fun c hc2 => ?_, fun j hj => ?_⟩
  · simp (disch := omega) only [gs_i, gs_r, e00]; exact h8
  · simp (disch := omega) only [gs_at]; omega
  · simp (disch := omega) only [gs_i, gs_r, e00] at hc2
    have := hs.2.2.1 c (by rw [e00]; exact hc2)
    simpa (disch := omega) only [gs_r] using this
  · rw [gs_at] at hj
    by_cases hjl : j = g 0 1
    · subst hjl
      unfold shS lnS
      simp (disch := omega) only [gs_r, gs_at, gs_i]
      omega
    · have := hs.2.2.2 j (by rw [e0]; omega)
      rw [e00] at this
      simp (disch := omega) only [gs_r, gs_i, e00]
      exact this
def lnM (m : lc_St) (i x y u r : Nat) : lc_St := lc_ss (lc_ss (lc_ss (lc_ss m 2 (5 * i) (nI x)) 2 (5 * i + 1) (nI y)) 2 (5 * i + 2) (nI u)) 2 (5 * i + 3) (nI r)
theorem lnM_ne (m : lc_St) {i x y u r q : Nat} (h : q < 5 * i ∨ 5 * i + 4 ≤ q) : lnM m i x y u r 2 q = m 2 q := by
  unfold lnM; simp (disch := omega) only [ss_ne]
theorem lnM_off (m : lc_St) (i x y u r : Nat) {k : Nat} (h : k ≠ 2) : lnM m i x y u r k = m k := by
  unfold lnM; simp (disch := omega) only [ss_off]
theorem QM_ln (hr : QM e m g) (x y u r : Nat) : QM e (lnM m (g 0 1) x y u r) (lnS g x y u r) := by
  obtain ⟨⟨a0, a1, a2, a3, a4, a5, a6⟩, hcc, hll, hz, h6⟩ := hr
  have h0 : lnS g x y u r 0 = g 0 := lnS_c _ _ _ _ _ _ (by omega)
  have m0 : lnM m (g 0 1) x y u r 0 = m 0 := lnM_off _ _ _ _ _ _ (by omega)
  have m1 : lnM m (g 0 1) x y u r 1 = m 1 := lnM_off _ _ _ _ _ _ (by omega)
  refine ⟨?_, fun c hc => ?_, fun j hj => ?_, fun k hk hk2 => ?_, by rw [h0]; exact h6⟩
  · unfold QMa
    rw [h0, m0]
    exact ⟨a0, a1, a2, a3, a4, a5, a6⟩
  · rw [h0] at hc
    rw [lnS_c _ _ _ _ _ 1 (by omega), lnS_c _ _ _ _ _ 2 (by omega), lnS_c _ _ _ _ _ 3 (by omega), lnS_c _ _ _ _ _ 4 (by omega), m1]
    exact hcc c hc
  · rw [h0] at hj
    rw [lnS_i _ _ _ _ _ 5 j (by omega), lnS_i _ _ _ _ _ 6 j (by omega), lnS_i _ _ _ _ _ 7 j (by omega), lnS_i _ _ _ _ _ 8 j (by omega), lnS_i _ _ _ _ _ 9 j (by omega), lnM_ne _ (by omega), lnM_ne _ (by omega), lnM_ne _ (by omega), lnM_ne _ (by omega), lnM_ne _ (by omega)]
    exact hll j hj
  · rw [h0] at hk
    rw [m1]
    exact hz k hk hk2
theorem QM_grow (hr : QM e m g) (r : Nat) (p0 : m 2 (5 * g 0 1) = nI (g 5 (g 0 1))) (p1 : m 2 (5 * g 0 1 + 1) = nI (g 6 (g 0 1))) (p2 : m 2 (5 * g 0 1 + 2) = nI (g 7 (g 0 1))) (p3 : m 2 (5 * g 0 1 + 3) = nI (g 8 (g 0 1))) : QM e (lc_ss (lc_ss m 2 (5 * g 0 1 + 4) (nI r)) 0 2 (nI (g 0 1 + 1))) (gs (gs g 9 (g 0 1) r) 0 1 (g 0 1 + 1)) := by
  obtain ⟨⟨a0, a1, a2, a3, a4, a5, a6⟩, hcc, hll, hz, h6⟩ := hr
  refine ⟨⟨by simp (disch := omega) only [ss_eq, ss_ne, ss_off, gs_at, gs_r, gs_i, a0], by simp (disch := omega) only [ss_eq, ss_ne, ss_off, gs_at, gs_r, gs_i, a1], by simp (disch := omega) only [ss_eq, ss_ne, ss_off, gs_at, gs_r, gs_i, a2], by simp (disch := omega) only [ss_eq, ss_ne, ss_off, gs_at, gs_r, gs_i, a3], by simp (disch := omega) only [ss_eq, ss_ne, ss_off, gs_at, gs_r, gs_i, a4], by simp (disch := omega) only [ss_eq, ss_ne, ss_off, gs_at, gs_r, gs_i, a5], by simp (disch := omega) only [ss_eq, ss_ne, ss_off, gs_at, gs_r, gs_i, a6]⟩, fun x hx => ?_, fun j hj => ?_, fun k hk hk2 => ?_, by simpa (disch := omega) only [gs_r, gs_i] using h6⟩
  · replace hx : x < g 0 0 := by simpa (disch := omega) only [gs_r, gs_i] using hx
    obtain ⟨b0, b1, b2, b3, b4⟩ := hcc x hx
    exact ⟨by simp (disch := omega) only [ss_off, gs_r, b0], by simp (disch := omega) only [ss_off, gs_r, b1], by simp (disch := omega) only [ss_off, gs_r, b2], by simp (disch := omega) only [ss_off, gs_r, b3], fun z => by simp (disch := omega) only [ss_off, gs_r, b4 z]⟩
  · rw [gs_at] at hj
    by_cases hjl : j = g 0 1
    · subst hjl
      exact ⟨by simp (disch := omega) only [ss_off, ss_ne, gs_r, p0], by simp (disch := omega) only [ss_off, ss_ne, gs_r, p1], by simp (disch := omega) only [ss_off, ss_ne, gs_r, p2], by simp (disch := omega) only [ss_off, ss_ne, gs_r, p3], by simp (disch := omega) only [ss_off, ss_ne, ss_eq, gs_r, gs_at]⟩
    · obtain ⟨b0, b1, b2, b3, b4⟩ := hll j (by omega)
      exact ⟨by simp (disch := omega) only [ss_off, ss_ne, gs_r, b0], by simp (disch := omega) only [ss_off, ss_ne, gs_r, b1], by simp (disch := omega) only [ss_off, ss_ne, gs_r, b2], by simp (disch := omega) only [ss_off, ss_ne, gs_r, b3], by simp (disch := omega) only [ss_off, ss_ne, gs_r, gs_i, b4]⟩
  · replace hk : 5 * g 0 0 ≤ k := by simpa (disch := omega) only [gs_r, gs_i] using hk
    have hzk := hz k hk hk2
    simp (disch := omega) only [ss_off, hzk]
theorem lendS_r (g : Nat → Nat → Nat) (x y u r : Nat) {k : Nat} (hk : k = 1 ∨ k = 3 ∨ k = 4) : lendS g x y u r k = g k := by
  unfold lendS shS; simp (disch := omega) only [gs_r, lnS_c]
theorem lendS_0 (g : Nat → Nat → Nat) (x y u r : Nat) {k : Nat} (h1 : k ≠ 1) (h5 : k ≠ 5) : lendS g x y u r 0 k = g 0 k := by
  unfold lendS shS; simp (disch := omega) only [gs_r, gs_i, lnS_c]
theorem lendS_2 (g : Nat → Nat → Nat) (x y u r : Nat) {z : Nat} (h1 : z ≠ x) (h5 : z ≠ y) : lendS g x y u r 2 z = g 2 z := by
  unfold lendS shS; simp (disch := omega) only [gs_r, gs_i, lnS_c]
theorem lendS_2x (g : Nat → Nat → Nat) (x y u r : Nat) (h : x ≠ y) : lendS g x y u r 2 x = g 2 x - u := by
  unfold lendS shS; simp (disch := omega) only [gs_r, gs_i, gs_at, lnS_c]
theorem lendS_2y (g : Nat → Nat → Nat) (x y u r : Nat) : lendS g x y u r 2 y = g 2 y + arr u x y := by
  unfold lendS shS; simp (disch := omega) only [gs_r, gs_i, gs_at, lnS_c]
theorem Cn_lend (hn : Cn g) {x y u r : Nat} (hx : x < g 0 0) (hy : y < g 0 0) (hxy : x ≠ y) (hu : u ≤ g 2 x) : Cn (lendS g x y u r) := by
  have c0 : ∀ k, k < 5 → lnS g x y u r k = g k := fun k hk => lnS_c _ _ _ _ _ _ hk
  have h1 : Cn (lnS g x y u r) := by
    unfold Cn at hn ⊢
    rw [c0 2 (by omega), c0 0 (by omega)]; exact hn
  have h2 := Cn_sh h1 (u := u) (x := x) (y := y) (by rw [c0 0 (by omega)]; exact hx) (by rw [c0 0 (by omega)]; exact hy) hxy (by rw [c0 2 (by omega)]; exact hu)
  unfold Cn at h2 ⊢
  unfold lendS
  simpa (disch := omega) only [gs_r, gs_i] using h2
theorem l_lends (hr : QM e m g) (hi : Iv g) {x y u r : Nat} (hx : x < g 0 0) (hy : y < g 0 0) (hxy : x ≠ y) (hu1 : 1 ≤ u) (hu : u ≤ 99) (hrr : r ≤ 50) (h : clG g x y u) : ∃ m', P_L_lends (nI x) (nI y) (nI u) (nI r) m = some (nI (arr u x y), m') ∧ QM e m' (lendS g x y u r) ∧ Iv (lendS g x y u r) := by
  have h6 := hr.2.2.2.2
  have h12 := h.2.2.1
  have hxl := hi.2.2.1 x hx
  have hyl := hi.2.2.1 y hy
  have c0 : ∀ k, k < 5 → lnS g x y u r k = g k := fun k hk => lnS_c _ _ _ _ _ _ hk
  have hcl := h.2.2.2.2
  have huc := h.2.2.2.1
  obtain ⟨s1, s2, s3⟩ := l_goes (u := u) (x := x) (y := y) (QM_ln hr x y u r) (Iv_ln hi x y u r) (by rw [c0 0 (by omega)]; exact hx) (by rw [c0 0 (by omega)]; exact hy) hxy (by rw [c0 2 (by omega)]; exact huc) (by rw [c0 2 (by omega), c0 1 (by omega)]; omega)
  have e0 : shS (lnS g x y u r) u x y 0 1 = g 0 1 := by rw [shS_0 _ _ _ _ (by omega), c0 0 (by omega)]
  have r2 := QM_grow s2 (arr u x y) (by rw [e0, shS_r _ _ _ _ (by omega) (by omega)]; unfold goM lnM lnS; simp (disch := omega) only [ss_off, ss_ne, ss_eq, gs_r, gs_at]) (by rw [e0, shS_r _ _ _ _ (by omega) (by omega)]; unfold goM lnM lnS; simp (disch := omega) only [ss_off, ss_ne, ss_eq, gs_r, gs_at]) (by rw [e0, shS_r _ _ _ _ (by omega) (by omega)]; unfold goM lnM lnS; simp (disch := omega) only [ss_off, ss_ne, ss_eq, gs_r, gs_at]) (by rw [e0, shS_r _ _ _ _ (by omega) (by omega)]; unfold goM lnM lnS; simp (disch := omega) only [ss_off, ss_ne, ss_eq, gs_r, gs_at])
  rw [e0] at r2
  refine ⟨_, ?_, r2, Iv_lend hi hx hy hxy hu1 hu hrr h⟩
  have hs' : P_L_goes (nI u) (nI x) (nI y) (lc_ss (lc_ss (lc_ss (lc_ss m 2 (5 * g 0 1) (nI x)) 2 (5 * g 0 1 + 1) (nI y)) 2 (5 * g 0 1 + 2) (nI u)) 2 (5 * g 0 1 + 3) (nI r)) = _ := s1
  have e2 : goM (lnM m (g 0 1) x y u r) (lnS g x y u r) u x y 0 2 = nI (g 0 1) := by rw [qm_nl s2, e0]
  unfold P_L_lends
  simp only [q_0, q_1, q_2, q_3, q_4, q_5, q_6, q_7, q_8, q_10, q_11, q_12, q_13, q_14, q_20, q_26, q_30, q_40, q_50, q_51, q_56, q_60, q_90, q_99, q_100, q_19]
  simp (disch := omega) only [nI_ltI, nI_leI, nI_eq, q_okn, nI_clamp, nI_add, pk_mul, pk_sub, pk_div, q_nlt9, q_neg0, q_ne9, q_9ne, q_nle9, q_0, q_1, q_2, q_3, q_4, q_5, q_6, q_7, q_8, q_10, q_11, q_12, q_13, q_14, q_20, q_26, q_30, q_40, q_50, q_51, q_56, q_60, q_90, q_99, q_100, q_19, lc_let, q_ift, qm_nl hr]
  rw [bE2 hs']
  simp (disch := omega) only [nI_ltI, nI_leI, nI_eq, q_okn, nI_clamp, nI_add, pk_mul, pk_sub, pk_div, q_nlt9, q_neg0, q_ne9, q_9ne, q_nle9, q_0, q_1, q_2, q_3, q_4, q_5, q_6, q_7, q_8, q_10, q_11, q_12, q_13, q_14, q_20, q_26, q_30, q_40, q_50, q_51, q_56, q_60, q_90, q_99, q_100, q_19, lc_let, q_ift, ss_off, ss_ne, ss_eq, e2]
