/-! ===== the pure claim: leaks, interest ===== -/
variable {e : Nat} {m : lc_St} {g : Nat → Nat → Nat}
/-- x of c's charge turns to heat -/
def loS (g : Nat → Nat → Nat) (c x : Nat) : Nat → Nat → Nat := gs (gs g 2 c (g 2 c - x)) 0 5 (g 0 5 + x)
theorem x0_lose (h8 : g 0 0 ≤ 8) {c x : Nat} (hc : c < g 0 0) (hx : x ≤ g 2 c) : P_X0_loseAsHeat (nI c) (nI x) (nB g) = some (nB (loS g c x)) := by
  unfold P_X0_loseAsHeat
  rw [bE (x0_has8 h8 hc)]
  simp (disch := omega) only [nB_at, q_0, q_1, q_2, q_3, q_4, q_5, q_6, q_7, q_8, q_10, q_11, q_12, q_13, q_14, q_20, q_26, q_30, q_40, q_50, q_51, q_56, q_60, q_90, q_99, q_100, q_19, nI_ltI, nI_leI, nI_eq, q_okn, nI_clamp, nI_add, pk_mul, pk_sub, pk_div, q_nlt9, q_neg0, q_ne9, q_9ne, q_nle9, lc_let, q_ift, q_ifT, q_iff, q_bd, q_bd2, q_bd3, q_nbd, q_nbd2, ↓reduceIte, and_true, true_and, Nat.one_ne_zero, Nat.reduceEqDiff, Nat.reduceLeDiff, Nat.reduceLT, nB_ss, gs_r]
  rfl
theorem loS_r (g : Nat → Nat → Nat) (c x : Nat) {r : Nat} (h0 : r ≠ 0) (h2 : r ≠ 2) : loS g c x r = g r := by
  unfold loS; rw [gs_r _ _ _ h0, gs_r _ _ _ h2]
theorem loS_0 (g : Nat → Nat → Nat) (c x : Nat) {k : Nat} (h5 : k ≠ 5) : loS g c x 0 k = g 0 k := by
  unfold loS; rw [gs_i _ _ _ h5, gs_r _ _ _ (by omega)]
theorem Iv_lo (hi : Iv g) {c : Nat} (hc : c < g 0 0) (x : Nat) : Iv (loS g c x) := Iv_a (Iv_c1 hi hc (by have := hi.2.2.1 c hc; omega)) (by omega) _
def loM (m : lc_St) (g : Nat → Nat → Nat) (c x : Nat) : lc_St := lc_ss (lc_ss m 1 (5 * c + 1) (nI (g 2 c - x))) 0 5 (nI (g 0 5 + x))
theorem QM_lo (hr : QM e m g) {c : Nat} (hc : c < g 0 0) (x : Nat) : QM e (loM m g c x) (loS g c x) := QM_a5 (QM_c1 hr hc _) _
theorem Cn_lo (hn : Cn g) {c x : Nat} (hc : c < g 0 0) (hx : x ≤ g 2 c) : Cn (loS g c x) := by
  have t1 := tn_gs g 2 c (g 2 c - x) hc
  have e2 : loS g c x 2 = gs g 2 c (g 2 c - x) 2 := by unfold loS; rw [gs_r _ _ _ (by omega)]
  have e5 : loS g c x 0 5 = g 0 5 + x := by unfold loS; rw [gs_at]
  unfold Cn at hn ⊢
  rw [e2, e5, loS_0 _ _ _ (show 0 ≠ 5 by omega), loS_0 _ _ _ (show 4 ≠ 5 by omega), loS_0 _ _ _ (show 3 ≠ 5 by omega)]
  omega
theorem l_lo43 (hr : QM e m g) (K : Int32 → lc_St → Option (Int32 × lc_St)) {c x : Nat} (hc : c < g 0 0) (hx : x ≤ g 2 c) (hb : g 2 c ≤ 99) : P_L_round_43 K (nI c) (nI x) m = K (nI (c + 1)) (loM m g c x) := by
  have h6 := hr.2.2.2.2
  have e5 : lc_ss m 1 (5 * c + 1) (nI (g 2 c - x)) 0 5 = nI (g 0 5) := by rw [ss_off _ _ _ (by omega), qm_ht hr]
  unfold P_L_round_43
  simp only [q_0, q_1, q_2, q_3, q_4, q_5, q_6, q_7, q_8, q_10, q_11, q_12, q_13, q_14, q_20, q_26, q_30, q_40, q_50, q_51, q_56, q_60, q_90, q_99, q_100, q_19]
  simp (disch := omega) only [nI_ltI, nI_leI, nI_eq, q_okn, nI_clamp, nI_add, pk_mul, pk_sub, pk_div, q_nlt9, q_neg0, q_ne9, q_9ne, q_nle9, q_0, q_1, q_2, q_3, q_4, q_5, q_6, q_7, q_8, q_10, q_11, q_12, q_13, q_14, q_20, q_26, q_30, q_40, q_50, q_51, q_56, q_60, q_90, q_99, q_100, q_19, q_ift, lc_let, qm_c1 hr hc, e5]
  rfl
theorem l_leak : ∀ k c (g : Nat → Nat → Nat) (m : lc_St) n1 n2, QM 8 m g → Iv g → Cn g → c + k = g 0 0 → k < n1 → k < n2 → ∃ g' m', P_X0_leakAll_2 n1 (nI c) (nB g) = some (nB g') ∧ P_L_round_2 n2 (nI c) m = P_L_round_76 lc_FU (nI 0) (nI 0) m' ∧ QM 8 m' g' ∧ Iv g' ∧ Cn g' ∧ g' 0 0 = g 0 0 := by
  intro k
  induction k with
  | zero =>
    intro c g m n1 n2 hr hi hn hc h1 h2
    have h8 := hi.1
    obtain ⟨n1, rfl⟩ : ∃ q, n1 = q + 1 := ⟨n1 - 1, by omega⟩; obtain ⟨n2, rfl⟩ : ∃ q, n2 = q + 1 := ⟨n2 - 1, by omega⟩
    have hle : g 0 0 ≤ c := by omega
    rw [P_X0_leakAll_2, P_L_round_2]
    simp (disch := omega) only [nB_at, q_0, q_1, q_2, q_3, q_4, q_5, q_6, q_7, q_8, q_10, q_11, q_12, q_13, q_14, q_20, q_26, q_30, q_40, q_50, q_51, q_56, q_60, q_90, q_99, q_100, q_19, nI_ltI, nI_leI, nI_eq, q_okn, nI_clamp, nI_add, pk_mul, pk_sub, pk_div, q_nlt9, q_neg0, q_ne9, q_9ne, q_nle9, lc_let, q_ift, q_ifT, q_iff, q_bd, q_bd2, q_bd3, q_nbd, q_nbd2, ↓reduceIte, and_true, true_and, Nat.one_ne_zero, Nat.reduceEqDiff, Nat.reduceLeDiff, Nat.reduceLT, hle, qm_nc hr]
    exact ⟨g, m, rfl, rfl, hr, hi, hn, rfl⟩
  | succ k ih =>
    intro c g m n1 n2 hr hi hn hc h1 h2
    have h8 := hi.1
    have h6 := hr.2.2.2.2
    obtain ⟨n1, rfl⟩ : ∃ q, n1 = q + 1 := ⟨n1 - 1, by omega⟩; obtain ⟨n2, rfl⟩ : ∃ q, n2 = q + 1 := ⟨n2 - 1, by omega⟩
    have hlt : c < g 0 0 := by omega
    have hcl := hi.2.2.1 c hlt
    have step : ∀ x, x ≤ g 2 c → ∃ g' m', P_X0_leakAll_2 n1 (nI (c + 1)) (nB (loS g c x)) = some (nB g') ∧ P_L_round_43 (fun x3 s => P_L_round_2 n2 x3 s) (nI c) (nI x) m = P_L_round_76 lc_FU (nI 0) (nI 0) m' ∧ QM 8 m' g' ∧ Iv g' ∧ Cn g' ∧ g' 0 0 = g 0 0 := by
      intro x hx
      obtain ⟨g', m', p1, p2, p3, p4, p5, p6⟩ := ih (c + 1) _ _ n1 n2 (QM_lo hr hlt x) (Iv_lo hi hlt x) (Cn_lo hn hlt hx) (by rw [loS_0 _ _ _ (by omega)]; omega) (by omega) (by omega)
      refine ⟨g', m', p1, ?_, p3, p4, p5, by rw [p6, loS_0 _ _ _ (by omega)]⟩
      rw [l_lo43 hr _ hlt hx (by omega)]; exact p2
    rw [P_X0_leakAll_2, P_L_round_2]
    simp only [q_0, q_1, q_2, q_3, q_4, q_5, q_6, q_7, q_8, q_10, q_11, q_12, q_13, q_14, q_20, q_26, q_30, q_40, q_50, q_51, q_56, q_60, q_90, q_99, q_100, q_19]
    by_cases hq : g 2 c < g 3 c
    · have ha := x0_lose h8 hlt (show g 2 c ≤ g 2 c by omega)
      obtain ⟨g', m', z1, z2, z3⟩ := step (g 2 c) (Nat.le_refl _)
      refine ⟨g', m', ?_, ?_, z3⟩
      · simp (disch := omega) only [nI_ltI, nI_leI, nI_eq, q_okn, nI_clamp, nI_add, pk_mul, pk_sub, pk_div, q_nlt9, q_neg0, q_ne9, q_9ne, q_nle9, nB_at, Nat.not_le.mpr hlt, hq, ↓reduceIte, q_ift, lc_let, q_0, q_1, q_2, q_3, q_4, q_5, q_6, q_7, q_8, q_10, q_11, q_12, q_13, q_14, q_20, q_26, q_30, q_40, q_50, q_51, q_56, q_60, q_90, q_99, q_100, q_19]
        rw [bE ha]; exact z1
      · simp (disch := omega) only [nI_ltI, nI_leI, nI_eq, q_okn, nI_clamp, nI_add, pk_mul, pk_sub, pk_div, q_nlt9, q_neg0, q_ne9, q_9ne, q_nle9, q_0, q_1, q_2, q_3, q_4, q_5, q_6, q_7, q_8, q_10, q_11, q_12, q_13, q_14, q_20, q_26, q_30, q_40, q_50, q_51, q_56, q_60, q_90, q_99, q_100, q_19, qm_nc hr, qm_c1 hr hlt, qm_c2 hr hlt, Nat.not_le.mpr hlt, show g 2 c ≤ g 3 c by omega, ↓reduceIte, q_ift]
        exact z2
    · have ha := x0_lose h8 hlt (show g 3 c ≤ g 2 c by omega)
      obtain ⟨g', m', z1, z2, z3⟩ := step (g 3 c) (by omega)
      refine ⟨g', m', ?_, ?_, z3⟩
      · simp (disch := omega) only [nI_ltI, nI_leI, nI_eq, q_okn, nI_clamp, nI_add, pk_mul, pk_sub, pk_div, q_nlt9, q_neg0, q_ne9, q_9ne, q_nle9, nB_at, Nat.not_le.mpr hlt, hq, ↓reduceIte, q_ift, lc_let, q_0, q_1, q_2, q_3, q_4, q_5, q_6, q_7, q_8, q_10, q_11, q_12, q_13, q_14, q_20, q_26, q_30, q_40, q_50, q_51, q_56, q_60, q_90, q_99, q_100, q_19]
        rw [bE ha]; exact z1
      · simp (disch := omega) only [nI_ltI, nI_leI, nI_eq, q_okn, nI_clamp, nI_add, pk_mul, pk_sub, pk_div, q_nlt9, q_neg0, q_ne9, q_9ne, q_nle9, q_0, q_1, q_2, q_3, q_4, q_5, q_6, q_7, q_8, q_10, q_11, q_12, q_13, q_14, q_20, q_26, q_30, q_40, q_50, q_51, q_56, q_60, q_90, q_99, q_100, q_19, qm_nc hr, qm_c1 hr hlt, qm_c2 hr hlt, Nat.not_le.mpr hlt, ↓reduceIte, q_ift]
        by_cases hq2 : g 2 c ≤ g 3 c
        · rw [if_pos hq2, show g 2 c = g 3 c by omega]; exact z2
        · rw [if_neg hq2]; exact z2
/-! ===== interest burned, the mask of the missed ===== -/
theorem nI_or8 : ∀ a, a < 256 → ∀ c, c < 8 → nI a ||| bit c = nI (a ||| 2 ^ c) ∧ a ||| 2 ^ c < 256 := by decide +kernel
theorem q_tb : ∀ a, a < 256 → ∀ c, c < 8 → (nI a &&& bit c = 0 ↔ ¬ (nI a >>> (nI c &&& 31)) &&& nI 1 = nI 1) := by decide +kernel
theorem l_lo154 (hr : QM e m g) (K : Int32 → Int32 → lc_St → Option (Int32 × lc_St)) (X3 : Int32) {c x i : Nat} (hc : c < g 0 0) (hx : x ≤ g 2 c) (hb : g 2 c ≤ 99) : P_L_round_154 K X3 (nI i) (nI (5 * c)) (nI x) m = K X3 (nI (i + 1)) (loM m g c x) := by
  have h6 := hr.2.2.2.2
  have e5 : lc_ss m 1 (5 * c + 1) (nI (g 2 c - x)) 0 5 = nI (g 0 5) := by rw [ss_off _ _ _ (by omega), qm_ht hr]
  unfold P_L_round_154
  simp only [q_0, q_1, q_2, q_3, q_4, q_5, q_6, q_7, q_8, q_10, q_11, q_12, q_13, q_14, q_20, q_26, q_30, q_40, q_50, q_51, q_56, q_60, q_90, q_99, q_100, q_19]
  simp (disch := omega) only [nI_ltI, nI_leI, nI_eq, q_okn, nI_clamp, nI_add, pk_mul, pk_sub, pk_div, q_nlt9, q_neg0, q_ne9, q_9ne, q_nle9, q_0, q_1, q_2, q_3, q_4, q_5, q_6, q_7, q_8, q_10, q_11, q_12, q_13, q_14, q_20, q_26, q_30, q_40, q_50, q_51, q_56, q_60, q_90, q_99, q_100, q_19, q_ift, lc_let, qm_c1 hr hc, e5]
  rfl
theorem l_burn : ∀ k i a (g : Nat → Nat → Nat) (m : lc_St) n1 n2, QM 8 m g → Iv g → Cn g → a < 256 → i + k = g 0 1 → k < n1 → k < n2 → ∃ b g' m', P_X0_burnInterest_4 n1 (nI a) (nI i) (nB g) = some (nI b, nB g') ∧ P_L_round_76 n2 (nI a) (nI i) m = P_L_round_187 lc_FU (nI b) (nI 0) (nI 0) m' ∧ b < 256 ∧ QM 8 m' g' ∧ Iv g' ∧ Cn g' ∧ g' 0 0 = g 0 0 := by
  intro k
  induction k with
  | zero =>
    intro i a g m n1 n2 hr hi hn ha hc h1 h2
    have h12 := hi.2.1
    obtain ⟨n1, rfl⟩ : ∃ q, n1 = q + 1 := ⟨n1 - 1, by omega⟩; obtain ⟨n2, rfl⟩ : ∃ q, n2 = q + 1 := ⟨n2 - 1, by omega⟩
    have hle : g 0 1 ≤ i := by omega
    rw [P_X0_burnInterest_4, P_L_round_76]
    simp (disch := omega) only [nB_at, q_0, q_1, q_2, q_3, q_4, q_5, q_6, q_7, q_8, q_10, q_11, q_12, q_13, q_14, q_20, q_26, q_30, q_40, q_50, q_51, q_56, q_60, q_90, q_99, q_100, q_19, nI_ltI, nI_leI, nI_eq, q_okn, nI_clamp, nI_add, pk_mul, pk_sub, pk_div, q_nlt9, q_neg0, q_ne9, q_9ne, q_nle9, lc_let, q_ift, q_ifT, q_iff, q_bd, q_bd2, q_bd3, q_nbd, q_nbd2, ↓reduceIte, and_true, true_and, Nat.one_ne_zero, Nat.reduceEqDiff, Nat.reduceLeDiff, Nat.reduceLT, hle, qm_nl hr]
    exact ⟨a, g, m, rfl, rfl, ha, hr, hi, hn, rfl⟩
  | succ k ih =>
    intro i a g m n1 n2 hr hi hn ha hc h1 h2
    have h8 := hi.1
    have h6 := hr.2.2.2.2
    have h12 := hi.2.1
    obtain ⟨n1, rfl⟩ : ∃ q, n1 = q + 1 := ⟨n1 - 1, by omega⟩; obtain ⟨n2, rfl⟩ : ∃ q, n2 = q + 1 := ⟨n2 - 1, by omega⟩
    have hlt : i < g 0 1 := by omega
    have hl := hi.2.2.2 i hlt
    have hb := hl.2.1
    have hb8 : g 6 i < 8 := by omega
    have hbl := hi.2.2.1 _ hb
    have hint := (itr_le hi hlt).2
    -- what both do once the amount v and the new mask are known
    have step : ∀ v y, v ≤ g 2 (g 6 i) → y < 256 → ∃ b g' m', P_X0_burnInterest_63 (fun x1 x2 s => P_X0_burnInterest_4 n1 x1 x2 s) (nI y) (nI i) (nI v) (nB (loS g (g 6 i) v)) = some (nI b, nB g') ∧ P_L_round_154 (fun x3 x4 s => P_L_round_76 n2 x3 x4 s) (nI y) (nI i) (nI (5 * g 6 i)) (nI v) m = P_L_round_187 lc_FU (nI b) (nI 0) (nI 0) m' ∧ b < 256 ∧ QM 8 m' g' ∧ Iv g' ∧ Cn g' ∧ g' 0 0 = g 0 0 := by
      intro v y hv hy
      rw [l_lo154 hr _ _ hb hv (by omega)]
      have r5 := QM_lo hr hb v
      have i5 := Iv_lo hi hb v
      have n5 := Cn_lo hn hb hv
      unfold P_X0_burnInterest_63
      simp only [P_X0_burnInterest_82, lc_let, nB_at, q_0, q_1, q_2, q_3, q_4, q_5, q_6, q_7, q_8, q_10, q_11, q_12, q_13, q_14, q_20, q_26, q_30, q_40, q_50, q_51, q_56, q_60, q_90, q_99, q_100, q_19, nI_add]
      by_cases q : nI i = nI (loS g (g 6 i) v 0 7)
      · rw [if_pos q, nB_ss]
        obtain ⟨b, g', m', p1, p2, p3, p4, p5, p6, p7⟩ := ih (i + 1) y _ _ n1 n2 (QM_w r5 (show 7 ≤ 8 by omega) (loS g (g 6 i) v 0 8 + v)) (Iv_a i5 (show 2 ≤ 8 by omega) _) (by unfold Cn at n5 ⊢; simpa (disch := omega) only [gs_r, gs_i] using n5) hy (by rw [gs_i _ _ _ (by omega), loS_0 _ _ _ (by omega)]; omega) (by omega) (by omega)
        exact ⟨b, g', m', p1, p2, p3, p4, p5, p6, by rw [p7, gs_i _ _ _ (by omega), loS_0 _ _ _ (by omega)]⟩
      · rw [if_neg q]
        obtain ⟨b, g', m', p1, p2, p3, p4, p5, p6, p7⟩ := ih (i + 1) y _ _ n1 n2 r5 i5 n5 hy (by rw [loS_0 _ _ _ (by omega)]; omega) (by omega) (by omega)
        exact ⟨b, g', m', p1, p2, p3, p4, p5, p6, by rw [p7, loS_0 _ _ _ (by omega)]⟩
    rw [P_X0_burnInterest_4, P_L_round_76]
    simp only [q_0, q_1, q_2, q_3, q_4, q_5, q_6, q_7, q_8, q_10, q_11, q_12, q_13, q_14, q_20, q_26, q_30, q_40, q_50, q_51, q_56, q_60, q_90, q_99, q_100, q_19]
    have n7 : ∀ v, (nB (loS g (g 6 i) v)) 6 i = nI (g 6 i) := fun v => by rw [nB_at, loS_r _ _ _ (by omega) (by omega)]
    have o0 : nI a ||| nI 0 = nI a := by rw [nI_or, Nat.or_zero]
    by_cases hq : itr g i ≤ g 2 (g 6 i)
    · have hlo := x0_lose h8 hb hq
      obtain ⟨b, g', m', z1, z2, z3⟩ := step (itr g i) a hq ha
      refine ⟨b, g', m', ?_, ?_, z3⟩
      · simp (disch := omega) only [nI_ltI, nI_leI, nI_eq, q_okn, nI_clamp, nI_add, pk_mul, pk_sub, pk_div, q_nlt9, q_neg0, q_ne9, q_9ne, q_nle9, ↓bE (x0_interest hi hlt), ↓bE (x0_charge hi hb), nB_at, Nat.not_le.mpr hlt, Nat.not_lt.mpr hq, hq, ↓reduceIte, q_ift, lc_let, q_0, q_1, q_2, q_3, q_4, q_5, q_6, q_7, q_8, q_10, q_11, q_12, q_13, q_14, q_20, q_26, q_30, q_40, q_50, q_51, q_56, q_60, q_90, q_99, q_100, q_19, Nat.le_refl]
        rw [bE hlo]; exact z1
      · simp (disch := omega) only [nI_ltI, nI_leI, nI_eq, q_okn, nI_clamp, nI_add, pk_mul, pk_sub, pk_div, q_nlt9, q_neg0, q_ne9, q_9ne, q_nle9, q_0, q_1, q_2, q_3, q_4, q_5, q_6, q_7, q_8, q_10, q_11, q_12, q_13, q_14, q_20, q_26, q_30, q_40, q_50, q_51, q_56, q_60, q_90, q_99, q_100, q_19, ↓bE (l_interest hr hi hlt), qm_nl hr, qm_l1 hr hlt, qm_c1 hr hb, Nat.not_le.mpr hlt, hq, ↓reduceIte, q_ift, lc_let, P_L_round_130, o0]
        exact z2
    · have hlo := x0_lose h8 hb (Nat.le_refl (g 2 (g 6 i)))
      obtain ⟨o1, o2⟩ := nI_or8 a ha (g 6 i) hb8
      obtain ⟨b, g', m', z1, z2, z3⟩ := step (g 2 (g 6 i)) (a ||| 2 ^ g 6 i) (Nat.le_refl _) o2
      have e1 : (nI 1 <<< (nI (g 6 i) &&& 31)) = bit (g 6 i) := rfl
      refine ⟨b, g', m', ?_, ?_, z3⟩
      · simp (disch := omega) only [nI_ltI, nI_leI, nI_eq, q_okn, nI_clamp, nI_add, pk_mul, pk_sub, pk_div, q_nlt9, q_neg0, q_ne9, q_9ne, q_nle9, ↓bE (x0_interest hi hlt), ↓bE (x0_charge hi hb), nB_at, Nat.not_le.mpr hlt, Nat.not_le.mp hq, hq, ↓reduceIte, q_ift, lc_let, q_0, q_1, q_2, q_3, q_4, q_5, q_6, q_7, q_8, q_10, q_11, q_12, q_13, q_14, q_20, q_26, q_30, q_40, q_50, q_51, q_56, q_60, q_90, q_99, q_100, q_19]
        rw [bE hlo]
        simp (disch := omega) only [n7, e1, o1]
        exact z1
      · simp (disch := omega) only [nI_ltI, nI_leI, nI_eq, q_okn, nI_clamp, nI_add, pk_mul, pk_sub, pk_div, q_nlt9, q_neg0, q_ne9, q_9ne, q_nle9, q_0, q_1, q_2, q_3, q_4, q_5, q_6, q_7, q_8, q_10, q_11, q_12, q_13, q_14, q_20, q_26, q_30, q_40, q_50, q_51, q_56, q_60, q_90, q_99, q_100, q_19, ↓bE (l_interest hr hi hlt), qm_nl hr, qm_l1 hr hlt, qm_c1 hr hb, Nat.not_le.mpr hlt, hq, ↓reduceIte, q_ift, lc_let, P_L_round_130, e1, o1]
        exact z2
