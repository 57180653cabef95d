/-! ===== the pure claim: payBack, leaks, interest ===== -/
variable {e : Nat} {d : Option Int32} {m : lc_St} {g : Nat → Nat → Nat}
theorem Iv_x7 (hi : Iv g) (i v : Nat) : Ivx i (gs g 7 i v) := by
  refine ⟨by simpa (disch := omega) only [gs_r] using hi.1, by simpa (disch := omega) only [gs_r] using hi.2.1, fun c hc => ?_, fun j hj hji => ?_⟩
  · replace hc : c < g 0 0 := by simpa (disch := omega) only [gs_r] using hc
    simpa (disch := omega) only [gs_r] using hi.2.2.1 c hc
  · replace hj : j < g 0 1 := by simpa (disch := omega) only [gs_r] using hj
    simpa (disch := omega) only [gs_r, gs_i] using hi.2.2.2 j hj
theorem q_pay (hr : RM 8 d m g) (hi : Iv g) {i u : Nat} (hii : i < g 0 1) (hu : u ≤ 99) (h : cpG g i u) : ∃ r g' m', P_X0_payBack (nI i) (nI u) (nB g) = some (nI r, nB g') ∧ P_X4_repays (nI i) (nI u) m = some (nI r, m') ∧ RM 8 d m' g' ∧ Iv g' ∧ Fr m m' ∧ r ≤ 99 := by
  have h8 := hi.1
  have h12 := hi.2.1
  have hl := hi.2.2.2 i hii
  have hxl := hi.2.2.1 _ hl.1
  have hyl := hi.2.2.1 _ hl.2.1
  have hc := x0_canPay hi hii (show u ≤ 1000 by omega)
  rw [if_pos h] at hc
  have hL := x0_hasL hi (show i < 2 ^ 31 by omega)
  rw [if_pos hii] at hL
  have c1 := x0_shuttle (g := g) (u := u) (x := g 6 i) (y := g 5 i) h8 hl.2.1 hl.1 (by omega) h.2.1 (by omega)
  obtain ⟨s1, s2, s3, s4⟩ := x4_shuttle (u := u) (x := g 6 i) (y := g 5 i) hr hi hl.2.1 hl.1 (by omega) h.2.1 (by have := h.2.2; omega)
  have E : ∀ r k, r ≠ 2 → r ≠ 0 → shS g u (g 6 i) (g 5 i) r k = g r k := fun r k h2 h0 => by
    unfold shS; rw [gs_r _ _ _ h0, gs_r _ _ _ h2, gs_r _ _ _ h2]
  have E1 : shS g u (g 6 i) (g 5 i) 0 1 = g 0 1 := by unfold shS; simp (disch := omega) only [gs_r, gs_i]
  have E0 : shS g u (g 6 i) (g 5 i) 0 0 = g 0 0 := by unfold shS; simp (disch := omega) only [gs_r, gs_i]
  have r2 := RM_l2 s2 (by rw [E0]; exact h8) (show i < 12 by omega) (g 7 i - u)
  have hu7 := h.1
  have em : shM m g u (g 6 i) (g 5 i) 1 (47 + 5 * i + 2) - nI u = nI (g 7 i - u) := by
    rw [(s2.2.2 i (by rw [E1]; exact hii)).2.2.1, E 7 i (by omega) (by omega), pk_sub hu7]
  have F : Fr m (lc_ss (shM m g u (g 6 i) (g 5 i)) 1 (47 + 5 * i + 2) (nI (g 7 i - u))) := s4.s1 _ _
  have C : P_X0_payBack (nI i) (nI u) (nB g) = (if g 7 i - u = 0 then lc_bd (P_X0_removeLoan (nI i) (nB (gs (shS g u (g 6 i) (g 5 i)) 7 i (g 7 i - u)))) (fun s3 => some (nI (g 7 i - u), s3)) else some (nI (g 7 i - u), nB (gs (shS g u (g 6 i) (g 5 i)) 7 i (g 7 i - u)))) := by
    unfold P_X0_payBack
    simp only [q_0, q_1, q_2, q_3, q_4, q_5, q_6, q_7, q_8, q_10, q_12, q_14, q_20, q_47, q_50, q_99, q_100, q_107, q_120, q_792]
    rw [bE hL]
    simp (disch := omega) only [nI_eq, Nat.one_ne_zero, ↓reduceIte]
    rw [bE hc]
    simp (disch := omega) only [nI_ltI, nI_leI, nI_eq, q_okn, nI_clamp, nI_add, pk_mul, pk_sub, pk_div, q_nlt9, q_neg0, q_ne9, q_9ne, q_nle9, Nat.one_ne_zero, ↓reduceIte, q_ift, nB_at]
    rw [bE2 c1]
    simp (disch := omega) only [nI_ltI, nI_leI, nI_eq, q_okn, nI_clamp, nI_add, pk_mul, pk_sub, pk_div, q_nlt9, q_neg0, q_ne9, q_9ne, q_nle9, Nat.one_ne_zero, ↓reduceIte, q_ift, nB_at, E, nB_ss, lc_let, gs_at]
  have D : P_X4_repays (nI i) (nI u) m = (if g 7 i - u = 0 then lc_bd (P_X4_removeLoan (nI i) (lc_ss (shM m g u (g 6 i) (g 5 i)) 1 (47 + 5 * i + 2) (nI (g 7 i - u)))) (fun s3 => some (nI (g 7 i - u), s3)) else some (nI (g 7 i - u), lc_ss (shM m g u (g 6 i) (g 5 i)) 1 (47 + 5 * i + 2) (nI (g 7 i - u)))) := by
    unfold P_X4_repays
    simp only [q_0, q_1, q_2, q_3, q_4, q_5, q_6, q_7, q_8, q_10, q_12, q_14, q_20, q_47, q_50, q_99, q_100, q_107, q_120, q_792]
    rw [bE (x4_ol1 hr hi hii), bE (x4_ol0 hr hi hii), bE2 s1]
    simp (disch := omega) only [nI_ltI, nI_leI, nI_eq, q_okn, nI_clamp, nI_add, pk_mul, pk_sub, pk_div, q_nlt9, q_neg0, q_ne9, q_9ne, q_nle9, q_ift, lc_let]
    rw [em, bE (x4_ofLoan (m := lc_ss (shM m g u (g 6 i) (g 5 i)) 1 (47 + 5 * i + 2) (nI (g 7 i - u))) (show i < 12 by omega) (show 2 < 5 by omega)), ss_eq]
    simp (disch := omega) only [nI_ltI, nI_leI, nI_eq, q_okn, nI_clamp, nI_add, pk_mul, pk_sub, pk_div, q_nlt9, q_neg0, q_ne9, q_9ne, q_nle9]
  rw [C, D]
  by_cases hz : g 7 i - u = 0
  · obtain ⟨g', m', p1, p2, p3, p4, p5, _⟩ := q_remove r2 (Iv_x7 s3 i _) (i := i) (by rw [gs_r _ _ _ (by omega), E1]; exact hii)
    rw [if_pos hz, if_pos hz, p1, p2]
    exact ⟨_, _, _, rfl, rfl, p3, p4, F.tr p5, by omega⟩
  · rw [if_neg hz, if_neg hz]
    refine ⟨_, _, _, rfl, rfl, r2, Iv_l2 s3 (by rw [E1]; exact hii) (by omega) (by omega), F, by omega⟩
theorem q_payn (hi : Iv g) {i u : Nat} (hi31 : i < 2 ^ 31) (hu : u ≤ 99) (h : ¬ (i < g 0 1 ∧ cpG g i u)) : P_X0_payBack (nI i) (nI u) (nB g) = some (-9, nB g) := by
  unfold P_X0_payBack
  by_cases hii : i < g 0 1
  · have hc := x0_canPay hi hii (show u ≤ 1000 by omega)
    rw [if_neg (fun q => h ⟨hii, q⟩)] at hc
    have hL := x0_hasL hi hi31
    rw [if_pos hii] at hL
    rw [bE hL]
    simp (disch := omega) only [q_0, q_1, q_2, q_3, q_4, q_5, q_6, q_7, q_8, q_10, q_12, q_14, q_20, q_47, q_50, q_99, q_100, q_107, q_120, q_792, nI_eq, Nat.one_ne_zero, ↓reduceIte]
    rw [bE hc]
    simp (disch := omega) only [nI_eq, ↓reduceIte]
  · have hL := x0_hasL hi hi31
    rw [if_neg hii] at hL
    rw [bE hL]
    simp (disch := omega) only [q_0, q_1, q_2, q_3, q_4, q_5, q_6, q_7, q_8, q_10, q_12, q_14, q_20, q_47, q_50, q_99, q_100, q_107, q_120, q_792, nI_eq, ↓reduceIte]
/-- x of c's charge turns to heat -/
def loS (g : Nat → Nat → Nat) (c x : Nat) : Nat → Nat → Nat := gs (gs g 2 c (g 2 c - x)) 0 5 (g 0 5 + x)
def loM (m : lc_St) (g : Nat → Nat → Nat) (c x : Nat) : lc_St := lc_ss (lc_ss m 1 (7 + 5 * c + 1) (nI (g 2 c - x))) 1 5 (nI (g 0 5 + x))
theorem x0_lose (h8 : g 0 0 ≤ 8) {c x : Nat} (hc : c < g 0 0) (hx : x ≤ g 2 c) : P_X0_loseAsHeat (nI c) (nI x) (nB g) = some (nB (loS g c x)) := by
  unfold P_X0_loseAsHeat
  rw [bE (x0_has8 h8 hc)]
  simp (disch := omega) only [nB_at, q_0, q_1, q_2, q_3, q_4, q_5, q_6, q_7, q_8, q_10, q_12, q_14, q_20, q_47, q_50, q_99, q_100, q_107, q_120, q_792, nI_ltI, nI_leI, nI_eq, q_okn, nI_clamp, nI_add, pk_mul, pk_sub, pk_div, q_nlt9, q_neg0, q_ne9, q_9ne, q_nle9, lc_let, q_ift, q_ifT, q_iff, q_bd, q_bd2, q_bd3, q_nbd, q_nbd2, ↓reduceIte, and_true, true_and, Nat.one_ne_zero, Nat.reduceEqDiff, Nat.reduceLeDiff, Nat.reduceLT, nB_ss, gs_r]
  rfl
theorem loS_r (g : Nat → Nat → Nat) (c x : Nat) {r : Nat} (h0 : r ≠ 0) (h2 : r ≠ 2) : loS g c x r = g r := by
  unfold loS; rw [gs_r _ _ _ h0, gs_r _ _ _ h2]
theorem loS_0 (g : Nat → Nat → Nat) (c x : Nat) {k : Nat} (h5 : k ≠ 5) : loS g c x 0 k = g 0 k := by
  unfold loS; rw [gs_i _ _ _ h5, gs_r _ _ _ (by omega)]
theorem RM_lo (hr : RM e d m g) {c : Nat} (hc : c < 8) (x : Nat) : RM e d (loM m g c x) (loS g c x) := RM_a5 (RM_c1 hr hc _) _
theorem Iv_lo (hi : Iv g) {c : Nat} (hc : c < g 0 0) (x : Nat) : Iv (loS g c x) := Iv_a (Iv_c1 hi hc (by have := hi.2.2.1 c hc; omega)) (by omega) _
theorem loM_7 (m : lc_St) (g : Nat → Nat → Nat) (c x : Nat) {r : Nat} (h : r ≠ 1) : loM m g c x r = m r := by
  unfold loM; rw [ss_off _ _ _ h, ss_off _ _ _ h]
theorem loM_fr (m : lc_St) (g : Nat → Nat → Nat) (c x : Nat) : Fr m (loM m g c x) := ((Fr.rf m).s1 _ _).s1 _ _
theorem x4_lo (hr : RM e d m g) {c x : Nat} (hc : c < g 0 0) (h8 : g 0 0 ≤ 8) (hx : x ≤ g 2 c) : P_X4_more (nI c) (nI 1) (-nI x) m = some (lc_ss m 1 (7 + 5 * c + 1) (nI (g 2 c - x))) ∧ lc_ss (lc_ss m 1 (7 + 5 * c + 1) (nI (g 2 c - x))) 1 5 (lc_ss m 1 (7 + 5 * c + 1) (nI (g 2 c - x)) 1 5 + nI x) = loM m g c x := by
  constructor
  · rw [x4_more _ (by omega) (by omega), (hr.2.1 c hc).2.1, q_neg hx]
  · unfold loM
    rw [ss_ne _ _ _ (show 5 ≠ 7 + 5 * c + 1 by omega), hr.1.2.2.2.2.2.1, nI_add]
theorem l_leak : ∀ k c (g : Nat → Nat → Nat) (m : lc_St) n1 n2, RM 8 d m g → Iv g → c + k = g 0 0 → k < n1 → k < n2 → ∃ g' m', P_X0_leakAll_2 n1 (nI c) (nB g) = some (nB g') ∧ P_X4_round_2 n2 (nI c) m = lc_bd (P_X4_burnInterest m') (fun s1 => P_X4_round_75 lc_FU (nI 0) (nI 0) s1) ∧ RM 8 d m' g' ∧ Iv g' ∧ Fr m m' ∧ g' 4 = g 4 ∧ g' 0 0 = g 0 0 := by
  intro k
  induction k with
  | zero =>
    intro c g m n1 n2 hr hi hc h1 h2
    have h8 := hi.1
    obtain ⟨n1, rfl⟩ : ∃ q, n1 = q + 1 := ⟨n1 - 1, by omega⟩; obtain ⟨n2, rfl⟩ : ∃ q, n2 = q + 1 := ⟨n2 - 1, by omega⟩
    have hle : g 0 0 ≤ c := by omega
    rw [P_X0_leakAll_2, P_X4_round_2]
    simp (disch := omega) only [nB_at, q_0, q_1, q_2, q_3, q_4, q_5, q_6, q_7, q_8, q_10, q_12, q_14, q_20, q_47, q_50, q_99, q_100, q_107, q_120, q_792, nI_ltI, nI_leI, nI_eq, q_okn, nI_clamp, nI_add, pk_mul, pk_sub, pk_div, q_nlt9, q_neg0, q_ne9, q_9ne, q_nle9, lc_let, q_ift, q_ifT, q_iff, q_bd, q_bd2, q_bd3, q_nbd, q_nbd2, ↓reduceIte, and_true, true_and, Nat.one_ne_zero, Nat.reduceEqDiff, Nat.reduceLeDiff, Nat.reduceLT, hle, rm_nc hr]
    exact ⟨g, m, rfl, rfl, hr, hi, Fr.rf m, rfl, rfl⟩
  | succ k ih =>
    intro c g m n1 n2 hr hi hc h1 h2
    have h8 := hi.1
    obtain ⟨n1, rfl⟩ : ∃ q, n1 = q + 1 := ⟨n1 - 1, by omega⟩; obtain ⟨n2, rfl⟩ : ∃ q, n2 = q + 1 := ⟨n2 - 1, by omega⟩
    have hlt : c < g 0 0 := by omega
    have hcl := hi.2.2.1 c hlt
    rw [P_X0_leakAll_2, P_X4_round_2]
    simp only [q_0, q_1, q_2, q_3, q_4, q_5, q_6, q_7, q_8, q_10, q_12, q_14, q_20, q_47, q_50, q_99, q_100, q_107, q_120, q_792]
    by_cases hq : g 2 c < g 3 c
    · have ha := x0_lose h8 hlt (show g 2 c ≤ g 2 c by omega)
      obtain ⟨b1, b2⟩ := x4_lo hr hlt h8 (show g 2 c ≤ g 2 c by omega)
      simp (disch := omega) only [nI_ltI, nI_leI, nI_eq, q_okn, nI_clamp, nI_add, pk_mul, pk_sub, pk_div, q_nlt9, q_neg0, q_ne9, q_9ne, q_nle9, ↓bE (x4_of1 hr hi hlt), ↓bE (x4_of2 hr hi hlt), nB_at, rm_nc hr, Nat.not_le.mpr hlt, Nat.not_le.mpr hq, hq, ↓reduceIte, q_ift, lc_let, P_X4_round_42, q_0, q_1, q_2, q_3, q_4, q_5, q_6, q_7, q_8, q_10, q_12, q_14, q_20, q_47, q_50, q_99, q_100, q_107, q_120, q_792]
      rw [bE ha, bE b1, b2]
      obtain ⟨g', m', p1, p2, p3, p4, p5, p6, p7⟩ := ih (c + 1) _ _ n1 n2 (RM_lo hr (show c < 8 by omega) (g 2 c)) (Iv_lo hi hlt _) (by rw [loS_0 _ _ _ (by omega)]; omega) (by omega) (by omega)
      exact ⟨g', m', p1, p2, p3, p4, (loM_fr _ _ _ _).tr p5, by rw [p6, loS_r _ _ _ (by omega) (by omega)], by rw [p7, loS_0 _ _ _ (by omega)]⟩
    · have ha := x0_lose h8 hlt (show g 3 c ≤ g 2 c by omega)
      obtain ⟨b1, b2⟩ := x4_lo hr hlt h8 (show g 3 c ≤ g 2 c by omega)
      simp (disch := omega) only [nI_ltI, nI_leI, nI_eq, q_okn, nI_clamp, nI_add, pk_mul, pk_sub, pk_div, q_nlt9, q_neg0, q_ne9, q_9ne, q_nle9, ↓bE (x4_of1 hr hi hlt), ↓bE (x4_of2 hr hi hlt), nB_at, rm_nc hr, Nat.not_le.mpr hlt, Nat.not_lt.mp hq, hq, ↓reduceIte, q_ift, lc_let, P_X4_round_42, q_0, q_1, q_2, q_3, q_4, q_5, q_6, q_7, q_8, q_10, q_12, q_14, q_20, q_47, q_50, q_99, q_100, q_107, q_120, q_792]
      rw [bE ha, bE b1, b2]
      obtain ⟨g', m', p1, p2, p3, p4, p5, p6, p7⟩ := ih (c + 1) _ _ n1 n2 (RM_lo hr (show c < 8 by omega) (g 3 c)) (Iv_lo hi hlt _) (by rw [loS_0 _ _ _ (by omega)]; omega) (by omega) (by omega)
      exact ⟨g', m', p1, p2, p3, p4, (loM_fr _ _ _ _).tr p5, by rw [p6, loS_r _ _ _ (by omega) (by omega)], by rw [p7, loS_0 _ _ _ (by omega)]⟩
