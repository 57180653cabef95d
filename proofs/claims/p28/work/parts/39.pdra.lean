/-! ===== the pure claim: drawing ===== -/
variable {e : Nat} {m : lc_St} {g : Nat → Nat → Nat} {M M' : lc_MM}
/-- the first n places of row r come from o -/
def cpr (s o : lc_St) (r n : Nat) : lc_St := fun a b => if a = r ∧ b < n then o a b else s a b
theorem cpr_0 (s o : lc_St) (r : Nat) : cpr s o r 0 = s := by
  funext a b
  unfold cpr
  rw [if_neg (by omega)]
theorem cpr_step (s o : lc_St) (r i : Nat) : lc_ss (cpr s o r i) r i (o r i) = cpr s o r (i + 1) := by
  funext a b
  by_cases h : a = r
  · subst h
    by_cases h2 : b = i
    · subst h2
      rw [ss_eq]
      unfold cpr
      rw [if_pos ⟨rfl, by omega⟩]
    · rw [ss_ne _ _ _ h2]
      unfold cpr
      by_cases h3 : b < i
      · rw [if_pos ⟨rfl, h3⟩, if_pos ⟨rfl, by omega⟩]
      · rw [if_neg (fun z => h3 z.2), if_neg (fun z => by have := z.2; omega)]
  · rw [ss_off _ _ _ h]
    unfold cpr
    rw [if_neg (fun z => h z.1), if_neg (fun z => h z.1)]
theorem cpr_in (s o : lc_St) (r n i : Nat) (h : i < n) : cpr s o r n r i = o r i := by unfold cpr; rw [if_pos ⟨rfl, h⟩]
theorem cpr_off (s o : lc_St) {r n a i : Nat} (h : a ≠ r) : cpr s o r n a i = s a i := by unfold cpr; rw [if_neg (fun z => h z.1)]
theorem l_dr34 (X9 X10 : Int32) (s o : lc_St) : ∀ k i n (M : lc_MM), i + k = 7 → k < n → M 23 = cpr s o 0 i → M 22 = o → P_L_isDrawn_34 n X9 X10 (nI i) M = P_L_isDrawn_59 lc_FU X9 X10 (nI 0) (va_up M 23 (cpr s o 0 7)) := by
  intro k
  induction k with
  | zero =>
    intro i n M hi h1 e1 e2
    obtain ⟨n, rfl⟩ : ∃ q, n = q + 1 := ⟨n - 1, by omega⟩
    have : i = 7 := by omega
    subst this
    rw [P_L_isDrawn_34, ← e1, lc_up_self]
    simp only [q_0, q_1, q_2, q_3, q_4, q_5, q_6, q_7, q_8, q_10, q_11, q_12, q_13, q_14, q_20, q_26, q_30, q_40, q_50, q_51, q_56, q_60, q_90, q_99, q_100, q_19]
    rw [if_pos (by rw [nI_leI (by omega) (by omega)]; exact Nat.le_refl _)]
  | succ k ih =>
    intro i n M hi h1 e1 e2
    obtain ⟨n, rfl⟩ : ∃ q, n = q + 1 := ⟨n - 1, by omega⟩
    have z := ih (i + 1) n (va_up M 23 (cpr s o 0 (i + 1))) (by omega) (by omega) (lc_up_at _ _ _) (by rw [lc_up_off _ _ (by omega)]; exact e2)
    rw [lc_up_up] at z
    rw [← z, P_L_isDrawn_34]
    simp only [q_0, q_1, q_2, q_3, q_4, q_5, q_6, q_7, q_8, q_10, q_11, q_12, q_13, q_14, q_20, q_26, q_30, q_40, q_50, q_51, q_56, q_60, q_90, q_99, q_100, q_19]
    simp (disch := omega) only [nI_ltI, nI_leI, nI_eq, q_okn, nI_clamp, nI_add, pk_mul, pk_sub, pk_div, q_nlt9, q_neg0, q_ne9, q_9ne, q_nle9, q_0, q_1, q_2, q_3, q_4, q_5, q_6, q_7, q_8, q_10, q_11, q_12, q_13, q_14, q_20, q_26, q_30, q_40, q_50, q_51, q_56, q_60, q_90, q_99, q_100, q_19, show ¬ 7 ≤ i by omega, ↓reduceIte, q_ift, q_ifT, lc_let, e1, e2, cpr_step]
theorem l_dr59 (X9 X10 : Int32) (s o : lc_St) : ∀ k i n (M : lc_MM), i + k = 30 → k < n → M 23 = cpr s o 1 i → M 22 = o → P_L_isDrawn_59 n X9 X10 (nI i) M = P_L_isDrawn_84 lc_FU X9 X10 (nI 0) (va_up M 23 (cpr s o 1 30)) := by
  intro k
  induction k with
  | zero =>
    intro i n M hi h1 e1 e2
    obtain ⟨n, rfl⟩ : ∃ q, n = q + 1 := ⟨n - 1, by omega⟩
    have : i = 30 := by omega
    subst this
    rw [P_L_isDrawn_59, ← e1, lc_up_self]
    simp only [q_0, q_1, q_2, q_3, q_4, q_5, q_6, q_7, q_8, q_10, q_11, q_12, q_13, q_14, q_20, q_26, q_30, q_40, q_50, q_51, q_56, q_60, q_90, q_99, q_100, q_19]
    rw [if_pos (by rw [nI_leI (by omega) (by omega)]; exact Nat.le_refl _)]
  | succ k ih =>
    intro i n M hi h1 e1 e2
    obtain ⟨n, rfl⟩ : ∃ q, n = q + 1 := ⟨n - 1, by omega⟩
    have z := ih (i + 1) n (va_up M 23 (cpr s o 1 (i + 1))) (by omega) (by omega) (lc_up_at _ _ _) (by rw [lc_up_off _ _ (by omega)]; exact e2)
    rw [lc_up_up] at z
    rw [← z, P_L_isDrawn_59]
    simp only [q_0, q_1, q_2, q_3, q_4, q_5, q_6, q_7, q_8, q_10, q_11, q_12, q_13, q_14, q_20, q_26, q_30, q_40, q_50, q_51, q_56, q_60, q_90, q_99, q_100, q_19]
    simp (disch := omega) only [nI_ltI, nI_leI, nI_eq, q_okn, nI_clamp, nI_add, pk_mul, pk_sub, pk_div, q_nlt9, q_neg0, q_ne9, q_9ne, q_nle9, q_0, q_1, q_2, q_3, q_4, q_5, q_6, q_7, q_8, q_10, q_11, q_12, q_13, q_14, q_20, q_26, q_30, q_40, q_50, q_51, q_56, q_60, q_90, q_99, q_100, q_19, show ¬ 30 ≤ i by omega, ↓reduceIte, q_ift, q_ifT, lc_let, e1, e2, cpr_step]
theorem l_dr84 (X9 X10 : Int32) (s o : lc_St) : ∀ k i n (M : lc_MM), i + k = 60 → k < n → M 23 = cpr s o 2 i → M 22 = o → P_L_isDrawn_84 n X9 X10 (nI i) M = P_L_isDrawn_109 lc_FU X9 X10 (nI 0) (va_up M 23 (cpr s o 2 60)) := by
  intro k
  induction k with
  | zero =>
    intro i n M hi h1 e1 e2
    obtain ⟨n, rfl⟩ : ∃ q, n = q + 1 := ⟨n - 1, by omega⟩
    have : i = 60 := by omega
    subst this
    rw [P_L_isDrawn_84, ← e1, lc_up_self]
    simp only [q_0, q_1, q_2, q_3, q_4, q_5, q_6, q_7, q_8, q_10, q_11, q_12, q_13, q_14, q_20, q_26, q_30, q_40, q_50, q_51, q_56, q_60, q_90, q_99, q_100, q_19]
    rw [if_pos (by rw [nI_leI (by omega) (by omega)]; exact Nat.le_refl _)]
  | succ k ih =>
    intro i n M hi h1 e1 e2
    obtain ⟨n, rfl⟩ : ∃ q, n = q + 1 := ⟨n - 1, by omega⟩
    have z := ih (i + 1) n (va_up M 23 (cpr s o 2 (i + 1))) (by omega) (by omega) (lc_up_at _ _ _) (by rw [lc_up_off _ _ (by omega)]; exact e2)
    rw [lc_up_up] at z
    rw [← z, P_L_isDrawn_84]
    simp only [q_0, q_1, q_2, q_3, q_4, q_5, q_6, q_7, q_8, q_10, q_11, q_12, q_13, q_14, q_20, q_26, q_30, q_40, q_50, q_51, q_56, q_60, q_90, q_99, q_100, q_19]
    simp (disch := omega) only [nI_ltI, nI_leI, nI_eq, q_okn, nI_clamp, nI_add, pk_mul, pk_sub, pk_div, q_nlt9, q_neg0, q_ne9, q_9ne, q_nle9, q_0, q_1, q_2, q_3, q_4, q_5, q_6, q_7, q_8, q_10, q_11, q_12, q_13, q_14, q_20, q_26, q_30, q_40, q_50, q_51, q_56, q_60, q_90, q_99, q_100, q_19, show ¬ 60 ≤ i by omega, ↓reduceIte, q_ift, q_ifT, lc_let, e1, e2, cpr_step]
theorem l_dr189 (X9 X10 : Int32) (s o : lc_St) : ∀ k i n (M : lc_MM), i + k = 7 → k < n → M 22 = cpr s o 0 i → M 23 = o → P_L_isDrawn_189 n X9 X10 (nI i) M = P_L_isDrawn_214 lc_FU X9 X10 (nI 0) (va_up M 22 (cpr s o 0 7)) := by
  intro k
  induction k with
  | zero =>
    intro i n M hi h1 e1 e2
    obtain ⟨n, rfl⟩ : ∃ q, n = q + 1 := ⟨n - 1, by omega⟩
    have : i = 7 := by omega
    subst this
    rw [P_L_isDrawn_189, ← e1, lc_up_self]
    simp only [q_0, q_1, q_2, q_3, q_4, q_5, q_6, q_7, q_8, q_10, q_11, q_12, q_13, q_14, q_20, q_26, q_30, q_40, q_50, q_51, q_56, q_60, q_90, q_99, q_100, q_19]
    rw [if_pos (by rw [nI_leI (by omega) (by omega)]; exact Nat.le_refl _)]
  | succ k ih =>
    intro i n M hi h1 e1 e2
    obtain ⟨n, rfl⟩ : ∃ q, n = q + 1 := ⟨n - 1, by omega⟩
    have z := ih (i + 1) n (va_up M 22 (cpr s o 0 (i + 1))) (by omega) (by omega) (lc_up_at _ _ _) (by rw [lc_up_off _ _ (by omega)]; exact e2)
    rw [lc_up_up] at z
    rw [← z, P_L_isDrawn_189]
    simp only [q_0, q_1, q_2, q_3, q_4, q_5, q_6, q_7, q_8, q_10, q_11, q_12, q_13, q_14, q_20, q_26, q_30, q_40, q_50, q_51, q_56, q_60, q_90, q_99, q_100, q_19]
    simp (disch := omega) only [nI_ltI, nI_leI, nI_eq, q_okn, nI_clamp, nI_add, pk_mul, pk_sub, pk_div, q_nlt9, q_neg0, q_ne9, q_9ne, q_nle9, q_0, q_1, q_2, q_3, q_4, q_5, q_6, q_7, q_8, q_10, q_11, q_12, q_13, q_14, q_20, q_26, q_30, q_40, q_50, q_51, q_56, q_60, q_90, q_99, q_100, q_19, show ¬ 7 ≤ i by omega, ↓reduceIte, q_ift, q_ifT, lc_let, e1, e2, cpr_step]
theorem l_dr214 (X9 X10 : Int32) (s o : lc_St) : ∀ k i n (M : lc_MM), i + k = 60 → k < n → M 22 = cpr s o 2 i → M 23 = o → P_L_isDrawn_214 n X9 X10 (nI i) M = P_L_isDrawn_239 lc_FU X9 X10 (nI 0) (va_up M 22 (cpr s o 2 60)) := by
  intro k
  induction k with
  | zero =>
    intro i n M hi h1 e1 e2
    obtain ⟨n, rfl⟩ : ∃ q, n = q + 1 := ⟨n - 1, by omega⟩
    have : i = 60 := by omega
    subst this
    rw [P_L_isDrawn_214, ← e1, lc_up_self]
    simp only [q_0, q_1, q_2, q_3, q_4, q_5, q_6, q_7, q_8, q_10, q_11, q_12, q_13, q_14, q_20, q_26, q_30, q_40, q_50, q_51, q_56, q_60, q_90, q_99, q_100, q_19]
    rw [if_pos (by rw [nI_leI (by omega) (by omega)]; exact Nat.le_refl _)]
  | succ k ih =>
    intro i n M hi h1 e1 e2
    obtain ⟨n, rfl⟩ : ∃ q, n = q + 1 := ⟨n - 1, by omega⟩
    have z := ih (i + 1) n (va_up M 22 (cpr s o 2 (i + 1))) (by omega) (by omega) (lc_up_at _ _ _) (by rw [lc_up_off _ _ (by omega)]; exact e2)
    rw [lc_up_up] at z
    rw [← z, P_L_isDrawn_214]
    simp only [q_0, q_1, q_2, q_3, q_4, q_5, q_6, q_7, q_8, q_10, q_11, q_12, q_13, q_14, q_20, q_26, q_30, q_40, q_50, q_51, q_56, q_60, q_90, q_99, q_100, q_19]
    simp (disch := omega) only [nI_ltI, nI_leI, nI_eq, q_okn, nI_clamp, nI_add, pk_mul, pk_sub, pk_div, q_nlt9, q_neg0, q_ne9, q_9ne, q_nle9, q_0, q_1, q_2, q_3, q_4, q_5, q_6, q_7, q_8, q_10, q_11, q_12, q_13, q_14, q_20, q_26, q_30, q_40, q_50, q_51, q_56, q_60, q_90, q_99, q_100, q_19, show ¬ 60 ≤ i by omega, ↓reduceIte, q_ift, q_ifT, lc_let, e1, e2, cpr_step]
theorem l_dr239 (X9 X10 : Int32) (s o : lc_St) : ∀ k i n (M : lc_MM), i + k = 30 → k < n → M 22 = cpr s o 1 i → M 23 = o → P_L_isDrawn_239 n X9 X10 (nI i) M = P_L_isDrawn_264 lc_FU X9 X10 (nI 0) (va_up M 22 (cpr s o 1 30)) := by
  intro k
  induction k with
  | zero =>
    intro i n M hi h1 e1 e2
    obtain ⟨n, rfl⟩ : ∃ q, n = q + 1 := ⟨n - 1, by omega⟩
    have : i = 30 := by omega
    subst this
    rw [P_L_isDrawn_239, ← e1, lc_up_self]
    simp only [q_0, q_1, q_2, q_3, q_4, q_5, q_6, q_7, q_8, q_10, q_11, q_12, q_13, q_14, q_20, q_26, q_30, q_40, q_50, q_51, q_56, q_60, q_90, q_99, q_100, q_19]
    rw [if_pos (by rw [nI_leI (by omega) (by omega)]; exact Nat.le_refl _)]
  | succ k ih =>
    intro i n M hi h1 e1 e2
    obtain ⟨n, rfl⟩ : ∃ q, n = q + 1 := ⟨n - 1, by omega⟩
    have z := ih (i + 1) n (va_up M 22 (cpr s o 1 (i + 1))) (by omega) (by omega) (lc_up_at _ _ _) (by rw [lc_up_off _ _ (by omega)]; exact e2)
    rw [lc_up_up] at z
    rw [← z, P_L_isDrawn_239]
    simp only [q_0, q_1, q_2, q_3, q_4, q_5, q_6, q_7, q_8, q_10, q_11, q_12, q_13, q_14, q_20, q_26, q_30, q_40, q_50, q_51, q_56, q_60, q_90, q_99, q_100, q_19]
    simp (disch := omega) only [nI_ltI, nI_leI, nI_eq, q_okn, nI_clamp, nI_add, pk_mul, pk_sub, pk_div, q_nlt9, q_neg0, q_ne9, q_9ne, q_nle9, q_0, q_1, q_2, q_3, q_4, q_5, q_6, q_7, q_8, q_10, q_11, q_12, q_13, q_14, q_20, q_26, q_30, q_40, q_50, q_51, q_56, q_60, q_90, q_99, q_100, q_19, show ¬ 30 ≤ i by omega, ↓reduceIte, q_ift, q_ifT, lc_let, e1, e2, cpr_step]
theorem QM_ag {m' : lc_St} (hr : QM e m g) (h12 : g 0 1 ≤ 12) (h0 : ∀ i, i < 7 → m' 0 i = m 0 i) (h1 : ∀ i, i < 30 → m' 1 i = m 1 i) (h2 : ∀ i, i < 60 → m' 2 i = m 2 i) : QM e m' g := by
  obtain ⟨⟨a0, a1, a2, a3, a4, a5, a6⟩, hcc, hll, hz, h6⟩ := hr
  refine ⟨⟨by rw [h0 0 (by omega)]; exact a0, by rw [h0 1 (by omega)]; exact a1, by rw [h0 2 (by omega)]; exact a2, by rw [h0 3 (by omega)]; exact a3, by rw [h0 4 (by omega)]; exact a4, by rw [h0 5 (by omega)]; exact a5, by rw [h0 6 (by omega)]; exact a6⟩, fun c hc => ?_, fun j hj => ?_, fun k hk hk2 => ?_, h6⟩
  · rw [h1 _ (by omega), h1 _ (by omega), h1 _ (by omega), h1 _ (by omega), h1 _ (by omega)]
    exact hcc c hc
  · rw [h2 _ (by omega), h2 _ (by omega), h2 _ (by omega), h2 _ (by omega), h2 _ (by omega)]
    exact hll j hj
  · rw [h1 k hk2]; exact hz k hk hk2
/-! the class's call -/
theorem w_draw1 (hk : Hk M) {u : Nat} (hu : u < 2 ^ 31) (h : ¬ (1 ≤ u ∧ u ≤ 99)) : No M 1 (P_L_draw (nI u) M) := by
  refine No.mk hk ?_
  have e3 := x3_units hu
  rw [if_neg h] at e3
  have c : P_X3_draw (nI u) M = some (1, 0, M) := by
    unfold P_X3_draw
    simp only [q_0, q_1, q_2, q_3, q_4, q_5, q_6, q_7, q_8, q_10, q_11, q_12, q_13, q_14, q_20, q_26, q_30, q_40, q_50, q_51, q_56, q_60, q_90, q_99, q_100, q_19]
    rw [bE e3, if_pos rfl]
  unfold P_L_draw
  rw [bE3 c]
  simp only [q_0, q_1, q_2, q_3, q_4, q_5, q_6, q_7, q_8, q_10, q_11, q_12, q_13, q_14, q_20, q_26, q_30, q_40, q_50, q_51, q_56, q_60, q_90, q_99, q_100, q_19, ↓reduceIte, Nat.one_ne_zero]
theorem w_draw2 (h0 : M 0 = nB g) (hk : Hk M) {gt : Nat → Nat → Nat} (ht : M 1 = nB gt) {u : Nat} (hu1 : 1 ≤ u) (hu : u ≤ 99) {b : lc_St} (L : P_X0_giveEach (nI u) (nB (cpS g gt)) = some (nI 0, b)) : No M 2 (P_L_draw (nI u) M) := by
  have e3 := x3_units (show u < 2 ^ 31 by omega)
  rw [if_pos ⟨hu1, hu⟩] at e3
  have c : P_X3_draw (nI u) M = some (2, 0, va_up M 1 b) := by
    unfold P_X3_draw
    simp only [q_0, q_1, q_2, q_3, q_4, q_5, q_6, q_7, q_8, q_10, q_11, q_12, q_13, q_14, q_20, q_26, q_30, q_40, q_50, q_51, q_56, q_60, q_90, q_99, q_100, q_19]
    rw [bE e3, if_neg (by decide +kernel), h0, ht, bE (x0_copy g gt)]
    simp only [lc_let, lc_up_at]
    rw [bE2 L]
    simp only [lc_up_up, ↓reduceIte]
  refine ⟨va_up M 1 b, ?_, lc_up_off _ _ (by omega), hk.of (lc_up_off _ _ (by omega)), lc_up_off _ _ (by omega)⟩
  unfold P_L_draw
  rw [bE3 c]
  simp only [q_0, q_1, q_2, q_3, q_4, q_5, q_6, q_7, q_8, q_10, q_11, q_12, q_13, q_14, q_20, q_26, q_30, q_40, q_50, q_51, q_56, q_60, q_90, q_99, q_100, q_19, ↓reduceIte, Nat.reduceEqDiff]
theorem w_draw (h0 : M 0 = nB g) (hk : Hk M) {gt : Nat → Nat → Nat} (ht : M 1 = nB gt) {u : Nat} (hu1 : 1 ≤ u) (hu : u ≤ 99) {r : Nat} {t' : Nat → Nat → Nat} (it : Iv t') (hr0 : 0 < r) (hr : r < 2 ^ 31) (L : P_X0_giveEach (nI u) (nB (cpS g gt)) = some (nI r, nB t')) : ∃ g', Lv t' g' ∧ Ok M g' r (P_L_draw (nI u) M) := by
  have e3 := x3_units (show u < 2 ^ 31 by omega)
  rw [if_pos ⟨hu1, hu⟩] at e3
  obtain ⟨M1, a1, a2, a3⟩ := x1_rem (M := va_up M 1 (nB t')) (hk.of (lc_up_off _ _ (by omega)))
  have b1 : M1 1 = nB t' := by rw [a3 1 (by omega), lc_up_at]
  have b0 : M1 0 = nB g := by rw [a3 0 (by omega), lc_up_off _ _ (by omega)]; exact h0
  have b22 : M1 22 = M 22 := by rw [a3 22 (by omega), lc_up_off _ _ (by omega)]
  have c : P_X3_draw (nI u) M = some (0, nI r, va_up M1 0 (nB (cpS t' g))) := by
    unfold P_X3_draw
    simp only [q_0, q_1, q_2, q_3, q_4, q_5, q_6, q_7, q_8, q_10, q_11, q_12, q_13, q_14, q_20, q_26, q_30, q_40, q_50, q_51, q_56, q_60, q_90, q_99, q_100, q_19]
    rw [bE e3, if_neg (by decide +kernel), h0, ht, bE (x0_copy g gt)]
    simp only [lc_let, lc_up_at]
    rw [bE2 L]
    simp only [lc_up_up]
    rw [if_neg (by rw [nI_eq hr (by omega)]; omega), bE a1, b1, b0, bE (x0_copy t' g)]
  refine ⟨cpS t' g, cpS_lv t' g it, Ok.up a2 b22 ?_⟩
  unfold P_L_draw
  rw [bE3 c]
  simp only [↓reduceIte, lc_let]
/-! the law -/
theorem l_dr109 (u : Nat) (X9 : Int32) : ∀ k c (M : lc_MM) n, QM 8 (M 22) g → Iv g → c + k = g 0 0 → k < n → P_L_isDrawn_109 n X9 (nI (cs (g 4) c)) (nI c) M = P_L_isDrawn_109 (0 + 1) X9 (nI (cs (g 4) (g 0 0))) (nI (g 0 0)) M := by
  intro k
  induction k with
  | zero =>
    intro c M n hr hi hk h1
    have h8 := hi.1
    obtain ⟨n, rfl⟩ : ∃ q, n = q + 1 := ⟨n - 1, by omega⟩
    have hce : c = g 0 0 := by omega
    have nc := qm_nc hr
    have hle : nI (g 0 0) ≤ nI (g 0 0) := by rw [nI_leI (by omega) (by omega)]; exact Nat.le_refl _
    rw [hce, P_L_isDrawn_109, P_L_isDrawn_109, nc, if_pos hle, if_pos hle]
  | succ k ih =>
    intro c M n hr hi hk h1
    have h8 := hi.1
    have h6 := hr.2.2.2.2
    obtain ⟨n, rfl⟩ : ∃ q, n = q + 1 := ⟨n - 1, by omega⟩
    have hlt : c < g 0 0 := by omega
    have nc := qm_nc hr
    have c4 := qm_c4 hr hlt
    rw [← ih (c + 1) M n hr hi (by omega) (by omega), P_L_isDrawn_109]
    simp only [q_0, q_1, q_2, q_3, q_4, q_5, q_6, q_7, q_8, q_10, q_11, q_12, q_13, q_14, q_20, q_26, q_30, q_40, q_50, q_51, q_56, q_60, q_90, q_99, q_100, q_19]
    by_cases h3 : g 4 c < 3
    · rw [if_pos h3] at c4
      have ecs : cs (g 4) (c + 1) = cs (g 4) c + 1 := by
        show cs (g 4) c + (if g 4 c < 3 then 1 else 0) = _
        rw [if_pos h3]
      simp (disch := omega) only [nI_ltI, nI_leI, nI_eq, q_okn, nI_clamp, nI_add, pk_mul, pk_sub, pk_div, q_nlt9, q_neg0, q_ne9, q_9ne, q_nle9, q_0, q_1, q_2, q_3, q_4, q_5, q_6, q_7, q_8, q_10, q_11, q_12, q_13, q_14, q_20, q_26, q_30, q_40, q_50, q_51, q_56, q_60, q_90, q_99, q_100, q_19, nc, c4, Nat.not_le.mpr hlt, ↓reduceIte, q_ift, q_ifT, lc_let, ecs, Nat.sub_zero]
    · rw [if_neg h3] at c4
      have ecs : cs (g 4) (c + 1) = cs (g 4) c := by
        show cs (g 4) c + (if g 4 c < 3 then 1 else 0) = _
        rw [if_neg h3, Nat.add_zero]
      simp (disch := omega) only [nI_ltI, nI_leI, nI_eq, q_okn, nI_clamp, nI_add, pk_mul, pk_sub, pk_div, q_nlt9, q_neg0, q_ne9, q_9ne, q_nle9, q_0, q_1, q_2, q_3, q_4, q_5, q_6, q_7, q_8, q_10, q_11, q_12, q_13, q_14, q_20, q_26, q_30, q_40, q_50, q_51, q_56, q_60, q_90, q_99, q_100, q_19, nc, c4, Nat.not_le.mpr hlt, ↓reduceIte, q_ift, q_ifT, lc_let, ecs, Nat.sub_self, Nat.add_zero]
theorem a_drawn157 (h : St M g) {gt : Nat → Nat → Nat} (ht : M 1 = nB gt) {u : Nat} (hu1 : 1 ≤ u) (hu : u ≤ 99) {b : lc_St} (L : P_X0_giveEach (nI u) (nB (cpS g gt)) = some (nI 0, b)) : Good M g (P_L_isDrawn_157 (nI u) M) := by
  obtain ⟨M1, a1, s1⟩ := h.no (w_draw2 h.1 h.2.2.2.1 ht hu1 hu L)
  obtain ⟨M2, a2, s2⟩ := s1.no (w_draw1 s1.2.2.2.1 (u := 0) (by omega) (by omega))
  refine ⟨g, M2, ?_, s2, Nat.le_refl _⟩
  unfold P_L_isDrawn_157
  simp only [q_0, q_1, q_2, q_3, q_4, q_5, q_6, q_7, q_8, q_10, q_11, q_12, q_13, q_14, q_20, q_26, q_30, q_40, q_50, q_51, q_56, q_60, q_90, q_99, q_100, q_19]
  rw [bE2 a1, if_pos rfl, bE2 a2, if_pos rfl]
theorem St.m23 (h : St M g) (x : lc_St) : St (va_up M 23 x) g := ⟨by rw [lc_up_off _ _ (by omega)]; exact h.1, h.2.1, h.2.2.1, h.2.2.2.1.of (lc_up_off _ _ (by omega)), by rw [lc_up_off _ _ (by omega)]; exact h.2.2.2.2⟩
theorem a_drawn34 (h : St M g) {u : Nat} (hu1 : 1 ≤ u) (hu : u ≤ 99) : Good M g (P_L_isDrawn_34 lc_FU (nI u) (nI 0) (nI 0) M) := by
  have hs := h
  obtain ⟨h0, hi, hn, hk, hq⟩ := h
  have h8 := hi.1
  have h12 := hi.2.1
  have h6 := hq.2.2.2.2
  obtain ⟨gt, ht⟩ := nB_ex (M 1)
  have lv := cpS_lv g gt hi
  have it := lv.iv hi
  have nt := lv.cn hn
  have t0 : cpS g gt 0 0 = g 0 0 := lv.1 0 (by omega)
  have t4 : ∀ c, c < g 0 0 → cpS g gt 4 c = g 4 c := fun c hc => (lv.2.1 c hc).2.2.2
  -- the rows of the law are copied
  obtain ⟨s0, hs0⟩ : ∃ s0, s0 = cpr (cpr (cpr (M 23) (M 22) 0 7) (M 22) 1 30) (M 22) 2 60 := ⟨_, rfl⟩
  have E1 : P_L_isDrawn_34 lc_FU (nI u) (nI 0) (nI 0) M = P_L_isDrawn_109 lc_FU (nI u) (nI 0) (nI 0) (va_up M 23 s0) := by
    rw [l_dr34 (nI u) (nI 0) (M 23) (M 22) 7 0 lc_FU M (by omega) (q_FUn (by omega)) (by rw [cpr_0]) rfl]
    rw [l_dr59 (nI u) (nI 0) (cpr (M 23) (M 22) 0 7) (M 22) 30 0 lc_FU _ (by omega) (q_FUn (by omega)) (by rw [cpr_0, lc_up_at]) (by rw [lc_up_off _ _ (by omega)])]
    rw [l_dr84 (nI u) (nI 0) (cpr (cpr (M 23) (M 22) 0 7) (M 22) 1 30) (M 22) 60 0 lc_FU _ (by omega) (q_FUn (by omega)) (by rw [cpr_0, lc_up_at]) (by rw [lc_up_off _ _ (by omega), lc_up_off _ _ (by omega)])]
    rw [lc_up_up, lc_up_up, hs0]
  have q0 : QM 8 s0 g := QM_ag hq h12 (fun i hh => by rw [hs0, cpr_off _ _ (by omega), cpr_off _ _ (by omega), cpr_in _ _ _ _ _ hh]) (fun i hh => by rw [hs0, cpr_off _ _ (by omega), cpr_in _ _ _ _ _ hh]) (fun i hh => by rw [hs0, cpr_in _ _ _ _ _ hh])
  have qt := lv.qm q0
  have E2 : P_L_isDrawn_109 lc_FU (nI u) (nI 0) (nI 0) (va_up M 23 s0) = P_L_isDrawn_109 (0 + 1) (nI u) (nI (cs (g 4) (g 0 0))) (nI (g 0 0)) (va_up M 23 s0) :=
    l_dr109 (g := g) u (nI u) (g 0 0) 0 (va_up M 23 s0) lc_FU (by rw [lc_up_off _ _ (by omega)]; exact hq) hi (by omega) (q_FUn (by omega))
  have ecs : ∀ n, n ≤ g 0 0 → cs (cpS g gt 4) n = cs (g 4) n := by
    intro n
    induction n with
    | zero => intro _; rfl
    | succ n ihn =>
      intro hh
      show cs (cpS g gt 4) n + _ = cs (g 4) n + _
      rw [ihn (by omega), t4 n (by omega)]
  have ecs0 := ecs (g 0 0) (Nat.le_refl _)
  have hcs := cs_le (g 4) (g 0 0)
  have nc := qm_nc hq
  have E3 : P_L_isDrawn_109 (0 + 1) (nI u) (nI (cs (g 4) (g 0 0))) (nI (g 0 0)) (va_up M 23 s0) = (if cs (g 4) (g 0 0) = 0 then P_L_isDrawn_157 (nI u) (va_up M 23 s0) else lc_bd2 (P_L_borrow (nI u) s0) (fun r151 s3 => if r151 = nI 0 then P_L_isDrawn_157 (nI u) (va_up M 23 s3) else P_L_isDrawn_189 lc_FU (nI u) (nI (cs (g 4) (g 0 0))) (nI 0) (va_up M 23 s3))) := by
    rw [P_L_isDrawn_109]
    simp only [q_0, q_1, q_2, q_3, q_4, q_5, q_6, q_7, q_8, q_10, q_11, q_12, q_13, q_14, q_20, q_26, q_30, q_40, q_50, q_51, q_56, q_60, q_90, q_99, q_100, q_19]
    simp (disch := omega) only [nI_ltI, nI_leI, nI_eq, q_okn, nI_clamp, nI_add, pk_mul, pk_sub, pk_div, q_nlt9, q_neg0, q_ne9, q_9ne, q_nle9, lc_up_off, nc, Nat.le_refl, ↓reduceIte, lc_let, lc_up_at, lc_up_up]
  rw [E1, E2, E3]
  have give := l_give1 hu (cpS g gt 0 0) 0 (cpS g gt) s0 lc_FU lc_FU qt it nt (fun x hx => absurd hx (by omega)) (by omega) (q_FUn (by omega)) (q_FUn (by omega))
  have hB : P_L_borrow (nI u) s0 = P_L_borrow_3 lc_FU (nI u) (nI 0) s0 := rfl
  have hC : P_X0_giveEach (nI u) (nB (cpS g gt)) = P_X0_giveEach_2 lc_FU (nI u) (nI 0) (nB (cpS g gt)) := rfl
  have M1 : ∀ x : lc_St, va_up M 23 x 1 = nB gt := fun x => by rw [lc_up_off _ _ (by omega)]; exact ht
  have back : ∀ (x : lc_St) X, Good (va_up M 23 x) g X → Good M g X := fun x X hh => hh
  rcases give with ⟨⟨b, p1⟩, m', p2⟩ | ⟨t1, m1, p1, p2, p3, p4, p5, p6, p7, p8⟩
  · -- it can't be borrowed
    rw [← hC] at p1
    by_cases q : cs (g 4) (g 0 0) = 0
    · rw [if_pos q]
      exact back s0 _ (a_drawn157 (hs.m23 s0) (M1 s0) hu1 hu p1)
    · rw [if_neg q, hB, bE2 p2, if_pos rfl]
      exact back m' _ (a_drawn157 (hs.m23 m') (M1 m') hu1 hu p1)
  · rw [t0] at p5 p6
    rw [← hC] at p7
    obtain ⟨g1, z1, z2, z4, z6, z7, z10⟩ := l_give2 hu (nI (cs (g 4) (g 0 0))) (t1 0 0) 0 t1 lc_FU p2 (fun x _ hx => p6 x (by omega)) (by omega) (q_FUn (by omega))
    have z0 : u * cs (t1 4) 0 = 0 := rfl
    rw [z0] at z1 z10
    rw [p4, p5, ecs0] at z1 z10
    rw [p5] at z2
    rw [z1] at p7
    by_cases q : cs (g 4) (g 0 0) = 0
    · rw [q, Nat.mul_zero] at p7
      rw [if_pos q]
      exact back s0 _ (a_drawn157 (hs.m23 s0) (M1 s0) hu1 hu p7)
    · rw [if_neg q, hB, bE2 p8, if_neg (show ¬ nI 1 = nI 0 by decide +kernel)]
      have hmul : u * cs (g 4) (g 0 0) ≤ 99 * 8 := Nat.mul_le_mul hu (by omega)
      have hpos : 0 < u * cs (g 4) (g 0 0) := Nat.mul_pos (by omega) (by omega)
      -- the rows go back
      obtain ⟨s1, hs1⟩ : ∃ s1, s1 = cpr (cpr (cpr (M 22) m1 0 7) m1 2 60) m1 1 30 := ⟨_, rfl⟩
      have E4 : P_L_isDrawn_189 lc_FU (nI u) (nI (cs (g 4) (g 0 0))) (nI 0) (va_up M 23 m1) = P_L_isDrawn_264 lc_FU (nI u) (nI (cs (g 4) (g 0 0))) (nI 0) (va_up (va_up M 23 m1) 22 s1) := by
        rw [l_dr189 (nI u) (nI (cs (g 4) (g 0 0))) (M 22) m1 7 0 lc_FU _ (by omega) (q_FUn (by omega)) (by rw [cpr_0, lc_up_off _ _ (by omega)]) (by rw [lc_up_at])]
        rw [l_dr214 (nI u) (nI (cs (g 4) (g 0 0))) (cpr (M 22) m1 0 7) m1 60 0 lc_FU _ (by omega) (q_FUn (by omega)) (by rw [cpr_0, lc_up_at]) (by rw [lc_up_off _ _ (by omega), lc_up_at])]
        rw [l_dr239 (nI u) (nI (cs (g 4) (g 0 0))) (cpr (cpr (M 22) m1 0 7) m1 2 60) m1 30 0 lc_FU _ (by omega) (q_FUn (by omega)) (by rw [cpr_0, lc_up_at]) (by rw [lc_up_off _ _ (by omega), lc_up_off _ _ (by omega), lc_up_at])]
        rw [lc_up_up, lc_up_up, hs1]
      have qs : QM 8 s1 t1 := QM_ag p1 p2.2.1 (fun i hh => by rw [hs1, cpr_off _ _ (by omega), cpr_off _ _ (by omega), cpr_in _ _ _ _ _ hh]) (fun i hh => by rw [hs1, cpr_in _ _ _ _ _ hh]) (fun i hh => by rw [hs1, cpr_off _ _ (by omega), cpr_in _ _ _ _ _ hh])
      obtain ⟨m3, w1, w2⟩ := z2 (va_up (va_up M 23 m1) 22 s1) lc_FU (by rw [lc_up_at]; exact qs) (q_FUn (by omega))
      rw [lc_up_up] at w1
      have r3 := QM_a4 w2 (g1 0 4 + u * cs (g 4) (g 0 0))
      obtain ⟨m4, hm4⟩ : ∃ m4, m4 = lc_ss m3 0 4 (nI (g1 0 4 + u * cs (g 4) (g 0 0))) := ⟨_, rfl⟩
      rw [← hm4] at r3
      have e00 : g1 0 0 = g 0 0 := by rw [z7, p5]
      have ncl := qm_nc w2
      rw [e00] at ncl
      have usl := qm_us w2
      obtain ⟨MM, hMM⟩ : ∃ MM, MM = va_up (va_up M 23 m1) 22 m4 := ⟨_, rfl⟩
      have k0 : Hk MM := by rw [hMM]; exact hk.of (by rw [lc_up_off _ _ (by omega), lc_up_off _ _ (by omega)])
      obtain ⟨g2, lv2, hok⟩ := w_draw (M := MM) (g := g) (by rw [hMM, lc_up_off _ _ (by omega), lc_up_off _ _ (by omega)]; exact h0) k0 (gt := gt) (by rw [hMM, lc_up_off _ _ (by omega), lc_up_off _ _ (by omega)]; exact ht) hu1 hu (Iv_a z4 (by omega) _) hpos (by omega) p7
      have cn : Cn (gs g1 0 4 (g1 0 4 + u * cs (g 4) (g 0 0))) := by
        unfold Cn at p3 ⊢
        simp (disch := omega) only [gs_r, gs_i, gs_at]
        rw [z7 0, z7 3, z7 4, z7 5, p5]
        rw [p5] at p3
        omega
      obtain ⟨M5, a5, s5, s5'⟩ := St.ok hok (by rw [hMM, lc_up_at]; exact lv2.qm r3) (lv2.iv (Iv_a z4 (by omega) _)) (lv2.cn cn)
      refine ⟨g2, M5, ?_, s5, ?_⟩
      · rw [E4, w1, P_L_isDrawn_264]
        simp only [q_0, q_1, q_2, q_3, q_4, q_5, q_6, q_7, q_8, q_10, q_11, q_12, q_13, q_14, q_20, q_26, q_30, q_40, q_50, q_51, q_56, q_60, q_90, q_99, q_100, q_19]
        simp (disch := omega) only [nI_ltI, nI_leI, nI_eq, q_okn, nI_clamp, nI_add, pk_mul, pk_sub, pk_div, q_nlt9, q_neg0, q_ne9, q_9ne, q_nle9, lc_up_at, lc_up_up, ncl, usl, Nat.le_refl, ↓reduceIte, lc_let]
        rw [← hm4, ← hMM, bE2 a5, if_pos rfl, s5', if_pos rfl]
      · rw [lv2.1 0 (by omega), gs_i _ _ _ (by omega), e00]; exact Nat.le_refl _
theorem a_drawn (h : St M g) (x : Int32) : Good M g (P_L_isDrawn x M) := by
  obtain ⟨t, lt, et⟩ := l_low (x >>> ((nI 8) &&& 31)) (n := 3) (by omega) (by omega)
  obtain ⟨a, la, ea⟩ := l_low x (n := 60) (by omega) (by omega)
  obtain ⟨b, lb, eb⟩ := l_low x (n := 8) (by omega) (by omega)
  unfold P_L_isDrawn P_L_isDrawn_22
  simp only [q_0, q_1, q_2, q_3, q_4, q_5, q_6, q_7, q_8, q_10, q_11, q_12, q_13, q_14, q_20, q_26, q_30, q_40, q_50, q_51, q_56, q_60, q_90, q_99, q_100, q_19]
  rw [bE et]
  by_cases q : t = 0
  · rw [if_pos (by rw [q]), bE ea]
    simp only [lc_let, nI_add]
    exact a_drawn34 h (u := 1 + a) (by omega) (by omega)
  · rw [if_neg (by rw [nI_eq (by omega) (by omega)]; exact q), bE eb]
    simp only [lc_let, nI_add]
    exact a_drawn34 h (u := 1 + b) (by omega) (by omega)
