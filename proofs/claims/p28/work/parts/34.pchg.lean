/-! ===== the pure claim: charging ===== -/
variable {e : Nat} {m : lc_St} {g : Nat → Nat → Nat}
theorem l_fill {u : Nat} (hu : u ≤ 99) : ∀ k c a (g : Nat → Nat → Nat) (m : lc_St) n, QM 8 m g → Iv g → a ≤ 99 * c → tn (g 2) (g 0 0) + g 0 4 + g 0 5 + a = g 0 3 → c + k = g 0 0 → k < n → ∃ r g1 m1, P_X0_fillEach_4 n (nI u) (nI a) (nI c) (nB g) = some (nI r, nB (gs g1 0 5 (g1 0 5 + r))) ∧ (∀ (M : lc_MM) n2, M 22 = m → k < n2 → P_L_isCharged_34 n2 (nI u) (nI a) (nI c) M = P_L_isCharged_34 (0 + 1) (nI u) (nI r) (nI (g 0 0)) (va_up M 22 m1)) ∧ QM 8 m1 g1 ∧ Iv g1 ∧ tn (g1 2) (g1 0 0) + g1 0 4 + g1 0 5 + r = g1 0 3 ∧ g1 0 0 = g 0 0 ∧ r ≤ 1000 := by
  intro k
  induction k with
  | zero =>
    intro c a g m n hr hi ha hn hk h1
    have h8 := hi.1
    obtain ⟨n, rfl⟩ : ∃ q, n = q + 1 := ⟨n - 1, by omega⟩
    have hce : c = g 0 0 := by omega
    have nc := qm_nc hr
    refine ⟨a, g, m, ?_, fun M n2 hM h2 => ?_, hr, hi, hn, rfl, by omega⟩
    · rw [P_X0_fillEach_4]
      simp (disch := omega) only [nI_ltI, nI_leI, nI_eq, q_okn, nI_clamp, nI_add, pk_mul, pk_sub, pk_div, q_nlt9, q_neg0, q_ne9, q_9ne, q_nle9, nB_at, show g 0 0 ≤ c by omega, ↓reduceIte, lc_let, nB_ss]
    · obtain ⟨n2, rfl⟩ : ∃ q, n2 = q + 1 := ⟨n2 - 1, by omega⟩
      rw [← hM, lc_up_self, hce, P_L_isCharged_34, P_L_isCharged_34]
      rw [hM, nc, if_pos (by rw [nI_leI (by omega) (by omega)]; exact Nat.le_refl _), if_pos (by rw [nI_leI (by omega) (by omega)]; exact Nat.le_refl _)]
  | succ k ih =>
    intro c a g m n hr hi ha hn hk h1
    have h8 := hi.1
    have h6 := hr.2.2.2.2
    obtain ⟨n, rfl⟩ : ∃ q, n = q + 1 := ⟨n - 1, by omega⟩
    have hlt : c < g 0 0 := by omega
    have hcl := hi.2.2.1 c hlt
    have nc := qm_nc hr
    have c0 := qm_c0 hr hlt
    have c1 := qm_c1 hr hlt
    have c4 := qm_c4 hr hlt
    have hpi := qm_pi hr
    by_cases h3 : g 4 c < 3
    · rw [if_pos h3] at c4
      have fin : ∀ t, t ≤ u → g 2 c + t ≤ g 1 c → ∃ r g1 m1, P_X0_fillEach_4 n (nI u) (nI (a + (u - t))) (nI (c + 1)) (nB (gs (gs g 2 c (g 2 c + t)) 0 3 (g 0 3 + u))) = some (nI r, nB (gs g1 0 5 (g1 0 5 + r))) ∧ (∀ (M : lc_MM) n2, M 22 = lc_ss m 0 3 (nI (g 0 3 + u)) → k < n2 → P_L_isCharged_103 (fun x5 x6 x7 M => P_L_isCharged_34 n2 x5 x6 x7 M) (nI u) (nI a) (nI c) (nI (g 2 c + u)) (nI (5 * c + 1)) (nI (g 2 c + t)) M = P_L_isCharged_34 (0 + 1) (nI u) (nI r) (nI (g 0 0)) (va_up M 22 m1)) ∧ QM 8 m1 g1 ∧ Iv g1 ∧ tn (g1 2) (g1 0 0) + g1 0 4 + g1 0 5 + r = g1 0 3 ∧ g1 0 0 = g 0 0 ∧ r ≤ 1000 := by
        intro t ht hcap
        have t1 := tn_gs g 2 c (g 2 c + t) hlt
        have r1 := QM_c1 (QM_a3 hr (g 0 3 + u)) (c := c) (by rw [gs_i _ _ _ (by omega)]; exact hlt) (g 2 c + t)
        rw [gs_swr _ _ _ _ _ (show (0 : Nat) ≠ 2 by omega)] at r1
        obtain ⟨r, g1, m1, z1, z2, z3, z4, z5, z6, z7⟩ := ih (c + 1) (a + (u - t)) _ _ n r1 (Iv_a (Iv_c1 hi hlt hcap) (by omega) _) (by omega) (by
          rw [gs_r _ _ _ (show (2 : Nat) ≠ 0 by omega)]
          simp (disch := omega) only [gs_r, gs_i, gs_at]
          omega) (by rw [gs_i _ _ _ (by omega), gs_r _ _ _ (by omega)]; omega) (by omega)
        have e00 : gs (gs g 2 c (g 2 c + t)) 0 3 (g 0 3 + u) 0 0 = g 0 0 := by rw [gs_i _ _ _ (by omega), gs_r _ _ _ (by omega)]
        rw [e00] at z2 z6
        refine ⟨r, g1, m1, z1, fun M n2 hM h2 => ?_, z3, z4, z5, z6, z7⟩
        have w := z2 (va_up M 22 (lc_ss (lc_ss m 0 3 (nI (g 0 3 + u))) 1 (5 * c + 1) (nI (g 2 c + t)))) n2 (lc_up_at _ _ _) h2
        rw [lc_up_up] at w
        rw [← w]
        unfold P_L_isCharged_103 P_L_isCharged_120
        simp only [q_0, q_1, q_2, q_3, q_4, q_5, q_6, q_7, q_8, q_10, q_11, q_12, q_13, q_14, q_20, q_26, q_30, q_40, q_50, q_51, q_56, q_60, q_90, q_99, q_100, q_19]
        simp (disch := omega) only [nI_ltI, nI_leI, nI_eq, q_okn, nI_clamp, nI_add, pk_mul, pk_sub, pk_div, q_nlt9, q_neg0, q_ne9, q_9ne, q_nle9, q_0, q_1, q_2, q_3, q_4, q_5, q_6, q_7, q_8, q_10, q_11, q_12, q_13, q_14, q_20, q_26, q_30, q_40, q_50, q_51, q_56, q_60, q_90, q_99, q_100, q_19, hM, lc_up_at, q_ift, q_ifT, lc_let, ss_eq, show g 2 c + u - (g 2 c + t) = u - t by omega]
      have C : ∀ t, t = (if g 1 c - g 2 c < u then g 1 c - g 2 c else u) → P_X0_fillEach_4 (n + 1) (nI u) (nI a) (nI c) (nB g) = P_X0_fillEach_4 n (nI u) (nI (a + (u - t))) (nI (c + 1)) (nB (gs (gs g 2 c (g 2 c + t)) 0 3 (g 0 3 + u))) := by
        intro t ht
        have emin : (if g 1 c - g 2 c < u then nI (g 1 c - g 2 c) else nI u) = nI t := by rw [ht]; split <;> rfl
        have htu : t ≤ u := by rw [ht]; split <;> omega
        rw [P_X0_fillEach_4]
        simp only [q_0, q_1, q_2, q_3, q_4, q_5, q_6, q_7, q_8, q_10, q_11, q_12, q_13, q_14, q_20, q_26, q_30, q_40, q_50, q_51, q_56, q_60, q_90, q_99, q_100, q_19]
        simp (disch := omega) only [nI_ltI, nI_leI, nI_eq, q_okn, nI_clamp, nI_add, pk_mul, pk_sub, pk_div, q_nlt9, q_neg0, q_ne9, q_9ne, q_nle9, ↓bE (x0_bank hi hlt), ↓bE (x0_room hi hlt), nB_at, Nat.not_le.mpr hlt, h3, ↓reduceIte, q_ift, q_ifT, lc_let, emin, nB_ss, gs_r, P_X0_fillEach_59, q_0, q_1, q_2, q_3, q_4, q_5, q_6, q_7, q_8, q_10, q_11, q_12, q_13, q_14, q_20, q_26, q_30, q_40, q_50, q_51, q_56, q_60, q_90, q_99, q_100, q_19]
      have L : ∀ (M : lc_MM) n2 t, t = (if g 1 c - g 2 c < u then g 1 c - g 2 c else u) → M 22 = m → P_L_isCharged_34 (n2 + 1) (nI u) (nI a) (nI c) M = P_L_isCharged_103 (fun x5 x6 x7 M => P_L_isCharged_34 n2 x5 x6 x7 M) (nI u) (nI a) (nI c) (nI (g 2 c + u)) (nI (5 * c + 1)) (nI (g 2 c + t)) (va_up M 22 (lc_ss m 0 3 (nI (g 0 3 + u)))) := by
        intro M n2 t ht hM
        rw [P_L_isCharged_34]
        simp only [q_0, q_1, q_2, q_3, q_4, q_5, q_6, q_7, q_8, q_10, q_11, q_12, q_13, q_14, q_20, q_26, q_30, q_40, q_50, q_51, q_56, q_60, q_90, q_99, q_100, q_19]
        simp (disch := omega) only [nI_ltI, nI_leI, nI_eq, q_okn, nI_clamp, nI_add, pk_mul, pk_sub, pk_div, q_nlt9, q_neg0, q_ne9, q_9ne, q_nle9, q_0, q_1, q_2, q_3, q_4, q_5, q_6, q_7, q_8, q_10, q_11, q_12, q_13, q_14, q_20, q_26, q_30, q_40, q_50, q_51, q_56, q_60, q_90, q_99, q_100, q_19, hM, lc_up_at, nc, c4, c1, hpi, Nat.not_le.mpr hlt, ↓reduceIte, q_ift, q_ifT, lc_let, ss_off, c0]
        by_cases hA : g 2 c + u ≤ g 1 c
        · rw [if_neg (by omega)] at ht
          rw [if_pos hA, ht]
        · rw [if_pos (by omega)] at ht
          rw [if_neg hA, ht, show g 2 c + (g 1 c - g 2 c) = g 1 c by omega]
      obtain ⟨t, ht⟩ : ∃ t, t = (if g 1 c - g 2 c < u then g 1 c - g 2 c else u) := ⟨_, rfl⟩
      obtain ⟨r, g1, m1, z1, z2, z3⟩ := fin t (by rw [ht]; split <;> omega) (by rw [ht]; split <;> omega)
      refine ⟨r, g1, m1, by rw [C t ht]; exact z1, fun M n2 hM h2 => ?_, z3⟩
      obtain ⟨n2, rfl⟩ : ∃ q, n2 = q + 1 := ⟨n2 - 1, by omega⟩
      have w := z2 (va_up M 22 (lc_ss m 0 3 (nI (g 0 3 + u)))) n2 (lc_up_at _ _ _) (by omega)
      rw [lc_up_up] at w
      rw [L M n2 t ht hM]; exact w
    · rw [if_neg h3] at c4
      obtain ⟨r, g1, m1, z1, z2, z3⟩ := ih (c + 1) a g m n hr hi (by omega) hn (by omega) (by omega)
      refine ⟨r, g1, m1, ?_, fun M n2 hM h2 => ?_, z3⟩
      · rw [← z1, P_X0_fillEach_4]
        simp only [q_0, q_1, q_2, q_3, q_4, q_5, q_6, q_7, q_8, q_10, q_11, q_12, q_13, q_14, q_20, q_26, q_30, q_40, q_50, q_51, q_56, q_60, q_90, q_99, q_100, q_19]
        simp (disch := omega) only [nI_ltI, nI_leI, nI_eq, q_okn, nI_clamp, nI_add, pk_mul, pk_sub, pk_div, q_nlt9, q_neg0, q_ne9, q_9ne, q_nle9, ↓bE (x0_bank hi hlt), nB_at, Nat.not_le.mpr hlt, h3, ↓reduceIte, lc_let, Nat.one_ne_zero, P_X0_fillEach_59, q_0, q_1, q_2, q_3, q_4, q_5, q_6, q_7, q_8, q_10, q_11, q_12, q_13, q_14, q_20, q_26, q_30, q_40, q_50, q_51, q_56, q_60, q_90, q_99, q_100, q_19]
      · obtain ⟨n2, rfl⟩ : ∃ q, n2 = q + 1 := ⟨n2 - 1, by omega⟩
        rw [← z2 M n2 hM (by omega), P_L_isCharged_34]
        simp only [q_0, q_1, q_2, q_3, q_4, q_5, q_6, q_7, q_8, q_10, q_11, q_12, q_13, q_14, q_20, q_26, q_30, q_40, q_50, q_51, q_56, q_60, q_90, q_99, q_100, q_19]
        simp (disch := omega) only [nI_ltI, nI_leI, nI_eq, q_okn, nI_clamp, nI_add, pk_mul, pk_sub, pk_div, q_nlt9, q_neg0, q_ne9, q_9ne, q_nle9, q_0, q_1, q_2, q_3, q_4, q_5, q_6, q_7, q_8, q_10, q_11, q_12, q_13, q_14, q_20, q_26, q_30, q_40, q_50, q_51, q_56, q_60, q_90, q_99, q_100, q_19, hM, nc, c4, Nat.not_le.mpr hlt, ↓reduceIte, q_ift, lc_let, Nat.one_ne_zero, P_L_isCharged_120]
