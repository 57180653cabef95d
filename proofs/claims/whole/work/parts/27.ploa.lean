/-! ===== the pure claim: the model's loan, a loan taken away, a loan paid back ===== -/
variable {e : Nat} {d : Option Int32} {m : lc_St} {g : Nat → Nat → Nat}
theorem RM_grow (hr : RM e d m g) (h8 : g 0 0 ≤ 8) (hl : g 0 1 < 12) (r : Nat) (p0 : m 1 (47 + 5 * g 0 1) = nI (g 5 (g 0 1))) (p1 : m 1 (47 + 5 * g 0 1 + 1) = nI (g 6 (g 0 1))) (p2 : m 1 (47 + 5 * g 0 1 + 2) = nI (g 7 (g 0 1))) (p3 : m 1 (47 + 5 * g 0 1 + 3) = nI (g 8 (g 0 1))) : RM e d (lc_ss (lc_ss m 1 (47 + 5 * g 0 1 + 4) (nI r)) 1 2 (nI (g 0 1 + 1))) (gs (gs g 9 (g 0 1) r) 0 1 (g 0 1 + 1)) := by
  obtain ⟨⟨a0, a1, a2, a3, a4, a5, a6, a7, a8⟩, hcc, hll⟩ := hr
  refine ⟨⟨by simp (disch := omega) only [ss_eq, ss_ne, ss_off, gs_at, gs_r, gs_i, a0], by simp (disch := omega) only [ss_eq, ss_ne, ss_off, gs_at, gs_r, gs_i, a1], by simp (disch := omega) only [ss_eq, ss_ne, ss_off, gs_at, gs_r, gs_i, a2], by simp (disch := omega) only [ss_eq, ss_ne, ss_off, gs_at, gs_r, gs_i, a3], by simp (disch := omega) only [ss_eq, ss_ne, ss_off, gs_at, gs_r, gs_i, a4], by simp (disch := omega) only [ss_eq, ss_ne, ss_off, gs_at, gs_r, gs_i, a5], by simp (disch := omega) only [ss_eq, ss_ne, ss_off, gs_at, gs_r, gs_i, a6], by simp (disch := omega) only [ss_eq, ss_ne, ss_off, gs_at, gs_r, gs_i, a7], by simp (disch := omega) only [ss_eq, ss_ne, ss_off, gs_at, gs_r, gs_i, a8]⟩, fun x hx => ?_, fun j hj => ?_⟩
  · replace hx : x < g 0 0 := by simpa (disch := omega) only [gs_r, gs_i] using hx
    obtain ⟨b0, b1, b2, b3, b4⟩ := hcc x hx
    exact ⟨by simp (disch := omega) only [ss_ne, gs_r, b0], by simp (disch := omega) only [ss_ne, gs_r, b1], by simp (disch := omega) only [ss_ne, gs_r, b2], by simp (disch := omega) only [ss_ne, gs_r, b3], fun z => by simp (disch := omega) only [ss_ne, gs_r, b4 z]⟩
  · rw [gs_at] at hj
    by_cases hjl : j = g 0 1
    · subst hjl
      exact ⟨by simp (disch := omega) only [ss_ne, gs_r, p0], by simp (disch := omega) only [ss_ne, gs_r, p1], by simp (disch := omega) only [ss_ne, gs_r, p2], by simp (disch := omega) only [ss_ne, gs_r, p3], by simp (disch := omega) only [ss_ne, ss_eq, gs_r, gs_at]⟩
    · obtain ⟨b0, b1, b2, b3, b4⟩ := hll j (by omega)
      exact ⟨by simp (disch := omega) only [ss_ne, gs_r, b0], by simp (disch := omega) only [ss_ne, gs_r, b1], by simp (disch := omega) only [ss_ne, gs_r, b2], by simp (disch := omega) only [ss_ne, gs_r, b3], by simp (disch := omega) only [ss_ne, gs_r, gs_i, b4]⟩
def lnM (m : lc_St) (i x y u r : Nat) : lc_St := lc_ss (lc_ss (lc_ss (lc_ss m 1 (47 + 5 * i) (nI x)) 1 (47 + 5 * i + 1) (nI y)) 1 (47 + 5 * i + 2) (nI u)) 1 (47 + 5 * i + 3) (nI r)
theorem lnM_ne (m : lc_St) {i x y u r q : Nat} (h : q < 47 + 5 * i ∨ 47 + 5 * i + 4 ≤ q) : lnM m i x y u r 1 q = m 1 q := by
  unfold lnM; simp (disch := omega) only [ss_ne]
theorem lnM_off (m : lc_St) (i x y u r : Nat) {k : Nat} (h : k ≠ 1) : lnM m i x y u r k = m k := by
  unfold lnM; simp (disch := omega) only [ss_off]
theorem RM_ln (hr : RM e d m g) (h8 : g 0 0 ≤ 8) (hl : g 0 1 < 12) (x y u r : Nat) : RM e d (lnM m (g 0 1) x y u r) (lnS g x y u r) := by
  obtain ⟨⟨a0, a1, a2, a3, a4, a5, a6, a7, a8⟩, hcc, hll⟩ := hr
  have h0 : lnS g x y u r 0 = g 0 := lnS_c _ _ _ _ _ _ (by omega)
  refine ⟨⟨by rw [lnM_ne _ (by omega), h0]; exact a0, by rw [lnM_ne _ (by omega), h0]; exact a1, by rw [lnM_ne _ (by omega), h0]; exact a2, by rw [lnM_ne _ (by omega), h0]; exact a3, by rw [lnM_ne _ (by omega), h0]; exact a4, by rw [lnM_ne _ (by omega), h0]; exact a5, by rw [lnM_ne _ (by omega), h0]; exact a6, by rw [lnM_off _ _ _ _ _ _ (by omega), h0]; exact a7, by rw [lnM_off _ _ _ _ _ _ (by omega), h0]; exact a8⟩, fun c hc => ?_, fun j hj => ?_⟩
  · rw [h0] at hc
    obtain ⟨b0, b1, b2, b3, b4⟩ := hcc c hc
    rw [lnS_c _ _ _ _ _ 1 (by omega), lnS_c _ _ _ _ _ 2 (by omega), lnS_c _ _ _ _ _ 3 (by omega), lnS_c _ _ _ _ _ 4 (by omega), lnM_ne _ (by omega), lnM_ne _ (by omega), lnM_ne _ (by omega), lnM_ne _ (by omega), lnM_ne _ (by omega)]
    exact ⟨b0, b1, b2, b3, b4⟩
  · rw [h0] at hj
    obtain ⟨b0, b1, b2, b3, b4⟩ := hll j hj
    rw [lnS_i _ _ _ _ _ 5 j (by omega), lnS_i _ _ _ _ _ 6 j (by omega), lnS_i _ _ _ _ _ 7 j (by omega), lnS_i _ _ _ _ _ 8 j (by omega), lnS_i _ _ _ _ _ 9 j (by omega), lnM_ne _ (by omega), lnM_ne _ (by omega), lnM_ne _ (by omega), lnM_ne _ (by omega), lnM_ne _ (by omega)]
    exact ⟨b0, b1, b2, b3, b4⟩
theorem Iv_lend (hi : Iv g) {x y u r : Nat} (hx : x < g 0 0) (hy : y < g 0 0) (hxy : x ≠ y) (hu1 : 1 ≤ u) (hu : u ≤ 99) (hrr : r ≤ 50) (h : clG g x y u) : Iv (lendS g x y u r) := by
  have h8 := hi.1
  have hxl := hi.2.2.1 x hx
  have hyl := hi.2.2.1 y hy
  have hlt := h.2.2.1
  have hc := h.2.2.2.2
  have hs : Iv (shS (lnS g x y u r) u x y) := by
    refine Iv_a (Iv_c1 (Iv_c1 (Iv_ln hi x y u r) ?_ ?_) ?_ ?_) (by omega) _
    · simpa (disch := omega) only [lnS_c] using hx
    · simp (disch := omega) only [lnS_c]; omega
    · simpa (disch := omega) only [gs_r, lnS_c] using hy
    · simp (disch := omega) only [gs_r, lnS_c]; omega
  have e0 : shS (lnS g x y u r) u x y 0 1 = g 0 1 := by
    unfold shS; simp (disch := omega) only [gs_i, gs_r, lnS_c]
  have e00 : shS (lnS g x y u r) u x y 0 0 = g 0 0 := by
    unfold shS; simp (disch := omega) only [gs_i, gs_r, lnS_c]
  unfold lendS
  refine ⟨?_, ?_, fun c hc2 => ?_, fun j hj => ?_⟩
  · simp (disch := omega) only [gs_i, gs_r, e00]; exact h8
  · simp (disch := omega) only [gs_at]; omega
  · simp (disch := omega) only [gs_i, gs_r, e00] at hc2
    have := hs.2.2.1 c (by rw [e00]; exact hc2)
    simpa (disch := omega) only [gs_r] using this
  · rw [gs_at] at hj
    by_cases hjl : j = g 0 1
    · subst hjl
      unfold shS lnS
      simp (disch := omega) only [gs_r, gs_at, gs_i]
      omega
    · have := hs.2.2.2 j (by rw [e0]; omega)
      rw [e00] at this
      simp (disch := omega) only [gs_r, gs_i, e00]
      exact this
theorem x4_makeLoan (hr : RM e d m g) (hi : Iv g) {x y u r : Nat} (hx : x < g 0 0) (hy : y < g 0 0) (hxy : x ≠ y) (hu1 : 1 ≤ u) (hu : u ≤ 99) (hrr : r ≤ 50) (h : clG g x y u) : ∃ m', P_X4_makeLoan (nI x) (nI y) (nI u) (nI r) m = some (nI (arr u x y), m') ∧ RM e d m' (lendS g x y u r) ∧ Iv (lendS g x y u r) ∧ Fr m m' := by
  have h8 := hi.1
  have hxl := hi.2.2.1 x hx
  have hyl := hi.2.2.1 y hy
  have hlt := h.2.2.1
  have hcap := h.2.2.2.2
  have r1 := RM_ln hr h8 hlt x y u r
  have g0 : lnS g x y u r 0 = g 0 := lnS_c _ _ _ _ _ _ (by omega)
  have g1 : lnS g x y u r 1 = g 1 := lnS_c _ _ _ _ _ _ (by omega)
  have g2 : lnS g x y u r 2 = g 2 := lnS_c _ _ _ _ _ _ (by omega)
  obtain ⟨s1, s2, s3, s4⟩ := x4_shuttle (u := u) r1 (Iv_ln hi x y u r) (by rw [g0]; exact hx) (by rw [g0]; exact hy) hxy (by rw [g2]; exact h.2.2.2.1) (by rw [g2, g1]; omega)
  have e0 : shS (lnS g x y u r) u x y 0 1 = g 0 1 := by
    unfold shS; simp (disch := omega) only [gs_i, gs_r, lnS_c]
  have e00 : shS (lnS g x y u r) u x y 0 0 = g 0 0 := by
    unfold shS; simp (disch := omega) only [gs_i, gs_r, lnS_c]
  have r2 := RM_grow s2 (by rw [e00]; exact h8) (by rw [e0]; exact hlt) (arr u x y) (by rw [e0]; unfold shM shS lnM lnS; simp (disch := omega) only [ss_ne, ss_eq, gs_r, gs_at]) (by rw [e0]; unfold shM shS lnM lnS; simp (disch := omega) only [ss_ne, ss_eq, gs_r, gs_at]) (by rw [e0]; unfold shM shS lnM lnS; simp (disch := omega) only [ss_ne, ss_eq, gs_r, gs_at]) (by rw [e0]; unfold shM shS lnM lnS; simp (disch := omega) only [ss_ne, ss_eq, gs_r, gs_at])
  rw [e0] at r2
  refine ⟨_, ?_, r2, Iv_lend hi hx hy hxy hu1 hu hrr h, ?_⟩
  · unfold P_X4_makeLoan
    have hs' : P_X4_shuttle (nI u) (nI x) (nI y) (lc_ss (lc_ss (lc_ss (lc_ss m 1 (47 + 5 * g 0 1) (nI x)) 1 (47 + 5 * g 0 1 + 1) (nI y)) 1 (47 + 5 * g 0 1 + 2) (nI u)) 1 (47 + 5 * g 0 1 + 3) (nI r)) = _ := s1
    have e2 : shM (lnM m (g 0 1) x y u r) (lnS g x y u r) u x y 1 2 = nI (g 0 1) := by rw [rm_nl s2, e0]
    simp only [q_0, q_1, q_2, q_3, q_4, q_5, q_6, q_7, q_8, q_10, q_12, q_14, q_20, q_47, q_50, q_99, q_100, q_107, q_120, q_792]
    simp (disch := omega) only [nI_ltI, nI_leI, nI_eq, q_okn, nI_clamp, nI_add, pk_mul, pk_sub, pk_div, q_nlt9, q_neg0, q_ne9, q_9ne, q_nle9, q_0, q_1, q_2, q_3, q_4, q_5, q_6, q_7, q_8, q_10, q_12, q_14, q_20, q_47, q_50, q_99, q_100, q_107, q_120, q_792, lc_let, q_ift, rm_nl hr]
    rw [bE2 hs']
    simp (disch := omega) only [nI_ltI, nI_leI, nI_eq, q_okn, nI_clamp, nI_add, pk_mul, pk_sub, pk_div, q_nlt9, q_neg0, q_ne9, q_9ne, q_nle9, q_0, q_1, q_2, q_3, q_4, q_5, q_6, q_7, q_8, q_10, q_12, q_14, q_20, q_47, q_50, q_99, q_100, q_107, q_120, q_792, lc_let, q_ift, ss_ne, ss_eq, e2]
  · refine ((Fr.tr ?_ s4).s1 _ _).s1 _ _
    exact ((((Fr.rf m).s1 _ _).s1 _ _).s1 _ _).s1 _ _
/-! ===== a loan is taken away ===== -/
def Ivx (i : Nat) (g : Nat → Nat → Nat) : Prop := g 0 0 ≤ 8 ∧ g 0 1 ≤ 12 ∧ (∀ c, c < g 0 0 → 10 ≤ g 1 c ∧ g 1 c ≤ 99 ∧ g 2 c ≤ g 1 c ∧ g 3 c ≤ 3 ∧ g 4 c ≤ 3) ∧ (∀ j, j < g 0 1 → j ≠ i → g 5 j < g 0 0 ∧ g 6 j < g 0 0 ∧ g 5 j ≠ g 6 j ∧ 1 ≤ g 7 j ∧ g 7 j ≤ 99 ∧ g 8 j ≤ 50)
theorem Iv.x (hi : Iv g) (i : Nat) : Ivx i g := ⟨hi.1, hi.2.1, hi.2.2.1, fun j hj _ => hi.2.2.2 j hj⟩
/-- loans i + 1 .. j - 1 moved down by one -/
def mvS (g : Nat → Nat → Nat) (i j : Nat) : Nat → Nat → Nat := fun r k => if 5 ≤ r ∧ r ≤ 9 ∧ i ≤ k ∧ k + 1 < j then g r (k + 1) else g r k
theorem mvS_0 (g : Nat → Nat → Nat) (i : Nat) : mvS g i (i + 1) = g := by
  funext r k
  unfold mvS
  rw [if_neg (by omega)]
theorem mvS_low (g : Nat → Nat → Nat) (i j r : Nat) (h : r < 5) : mvS g i j r = g r := by
  funext k
  unfold mvS
  rw [if_neg (by omega)]
theorem mvS_at (g : Nat → Nat → Nat) (i j r : Nat) : mvS g i j r j = g r j := by
  unfold mvS
  rw [if_neg (by omega)]
theorem mvS_step (g : Nat → Nat → Nat) (i j : Nat) (hij : i < j) : gs (gs (gs (gs (gs (mvS g i j) 5 (j - 1) (g 5 j)) 6 (j - 1) (g 6 j)) 7 (j - 1) (g 7 j)) 8 (j - 1) (g 8 j)) 9 (j - 1) (g 9 j) = mvS g i (j + 1) := by
  funext r k
  by_cases h : 5 ≤ r ∧ r ≤ 9
  · have hr : r = 5 ∨ r = 6 ∨ r = 7 ∨ r = 8 ∨ r = 9 := by omega
    by_cases hk : k = j - 1
    · subst hk
      have e1 : mvS g i (j + 1) r (j - 1) = g r j := by
        unfold mvS
        rw [if_pos (by omega), show j - 1 + 1 = j by omega]
      rw [e1]
      rcases hr with hr | hr | hr | hr | hr <;> subst hr <;> simp (disch := omega) only [gs_r, gs_at]
    · have e1 : mvS g i (j + 1) r k = mvS g i j r k := by
        unfold mvS
        by_cases hh : 5 ≤ r ∧ r ≤ 9 ∧ i ≤ k ∧ k + 1 < j
        · rw [if_pos hh, if_pos (by omega)]
        · rw [if_neg hh, if_neg (by omega)]
      rw [e1]
      rcases hr with hr | hr | hr | hr | hr <;> subst hr <;> simp (disch := omega) only [gs_r, gs_i]
  · have e1 : mvS g i (j + 1) r k = mvS g i j r k := by
      unfold mvS
      rw [if_neg (by omega), if_neg (by omega)]
    rw [e1]
    simp (disch := omega) only [gs_r]
