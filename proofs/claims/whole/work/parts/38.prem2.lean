/-! ===== the pure claim: cell, loan, bestLender; remembering ===== -/
variable {M M' : lc_MM} {s s' : lc_St}
theorem r_cell (h : Rel M s) (x y : Int32) : Cl kB M (P_X3_cell x y M) (P_X4_cell x y s) := by
  obtain ⟨g, d, hb, hi, hr⟩ := h.1.rm h.2.1
  have h8 := hi.1
  have no : P_X0_hasCell x (M 0) = some (nI 0) → P_X4_isCell x s = some (nI 0) → Cl kB M (P_X3_cell x y M) (P_X4_cell x y s) := by
    intro q1 q2
    refine Cl.no (e := 3) (w := nI 1) h (by omega) ?_ ?_ rfl
    · unfold P_X3_cell
      rw [bE q1]
      simp (disch := omega) only [q_0, q_1, q_2, q_3, q_4, q_5, q_6, q_7, q_8, q_10, q_12, q_14, q_20, q_47, q_50, q_99, q_100, q_107, q_120, q_792, nI_ltI, nI_leI, nI_eq, q_okn, nI_clamp, nI_add, pk_mul, pk_sub, pk_div, q_nlt9, q_neg0, q_ne9, q_9ne, q_nle9, ↓reduceIte]
    · unfold P_X4_cell P_X4_cell_28
      rw [bE q2]
      simp (disch := omega) only [q_0, q_1, q_2, q_3, q_4, q_5, q_6, q_7, q_8, q_10, q_12, q_14, q_20, q_47, q_50, q_99, q_100, q_107, q_120, q_792, nI_ltI, nI_leI, nI_eq, q_okn, nI_clamp, nI_add, pk_mul, pk_sub, pk_div, q_nlt9, q_neg0, q_ne9, q_9ne, q_nle9, ↓reduceIte, lc_let, ss_eq, Nat.reduceLeDiff]
  rcases q_cases x with hx | ⟨c, hc31, rfl⟩
  · exact no (x0_hasn hx) (x4_isCelln hx)
  · have e1 := x0_has hi hc31
    have e2 := x4_isCell hr hi hc31
    by_cases hc : c < g 0 0
    · rw [if_pos hc] at e1 e2
      have hc8 : c < 8 := by omega
      have bad : P_X4_in y (nI 0) (nI 7) = some (nI 0) → (∀ k, k < 8 → (y = nI k) = False) → Cl kB M (P_X3_cell (nI c) y M) (P_X4_cell (nI c) y s) := by
        intro q1 q2
        refine Cl.no (e := 1) (w := nI 2) h (by omega) ?_ ?_ rfl
        · unfold P_X3_cell
          rw [hb, bE e1]
          simp (disch := omega) only [q_0, q_1, q_2, q_3, q_4, q_5, q_6, q_7, q_8, q_10, q_12, q_14, q_20, q_47, q_50, q_99, q_100, q_107, q_120, q_792, nI_ltI, nI_leI, nI_eq, q_okn, nI_clamp, nI_add, pk_mul, pk_sub, pk_div, q_nlt9, q_neg0, q_ne9, q_9ne, q_nle9, ↓reduceIte, q2, Nat.one_ne_zero]
        · unfold P_X4_cell P_X4_cell_28
          simp only [q_0, q_1, q_2, q_3, q_4, q_5, q_6, q_7, q_8, q_10, q_12, q_14, q_20, q_47, q_50, q_99, q_100, q_107, q_120, q_792]
          rw [bE e2]
          simp (disch := omega) only [nI_ltI, nI_leI, nI_eq, q_okn, nI_clamp, nI_add, pk_mul, pk_sub, pk_div, q_nlt9, q_neg0, q_ne9, q_9ne, q_nle9, ↓reduceIte, Nat.one_ne_zero]
          rw [bE q1]
          simp (disch := omega) only [nI_ltI, nI_leI, nI_eq, q_okn, nI_clamp, nI_add, pk_mul, pk_sub, pk_div, q_nlt9, q_neg0, q_ne9, q_9ne, q_nle9, ↓reduceIte, lc_let, ss_eq, Nat.reduceLeDiff]
      rcases q_cases y with hy | ⟨n, hn, rfl⟩
      · exact bad (x4_inn 0 7 hy (by omega)) (fun k hk => eq_false (q_nne hy (by omega)))
      · have ein := x4_in 0 7 n (by omega) (by omega) hn
        by_cases hn8 : n < 8
        · rw [if_pos (by omega)] at ein
          have hr2 := RM_00 hr (nI 0)
          have hs : n = 0 ∨ n = 1 ∨ n = 2 ∨ n = 3 ∨ n = 4 ∨ n = 5 ∨ n = 6 ∨ n = 7 := by omega
          obtain ⟨r6, i1, i2⟩ := q_interestBy hr2 hi hc8
          obtain ⟨r7, k1, k2⟩ := q_kind hr2 hi hc
          have fin : ∀ r, P_X3_cell (nI c) (nI n) M = some (0, r, M) → P_X4_cell_28 (nI c) (nI n) (nI 0) s = some (r, lc_ss s 0 0 (nI 0)) → Cl kB M (P_X3_cell (nI c) (nI n) M) (P_X4_cell (nI c) (nI n) s) := by
            intro r z1 z2
            refine Cl.ask h rfl (r := r) z1 ?_
            unfold P_X4_cell
            simp only [q_0, q_1, q_2, q_3, q_4, q_5, q_6, q_7, q_8, q_10, q_12, q_14, q_20, q_47, q_50, q_99, q_100, q_107, q_120, q_792]
            rw [bE e2]
            simp (disch := omega) only [nI_ltI, nI_leI, nI_eq, q_okn, nI_clamp, nI_add, pk_mul, pk_sub, pk_div, q_nlt9, q_neg0, q_ne9, q_9ne, q_nle9, ↓reduceIte, Nat.one_ne_zero]
            rw [bE ein]
            simp (disch := omega) only [nI_ltI, nI_leI, nI_eq, q_okn, nI_clamp, nI_add, pk_mul, pk_sub, pk_div, q_nlt9, q_neg0, q_ne9, q_9ne, q_nle9, ↓reduceIte, Nat.one_ne_zero]
            exact z2
          rcases hs with q | q | q | q | q | q | q | q <;> subst q
          · refine fin (nI (g 1 c)) ?_ ?_
            · unfold P_X3_cell; rw [hb, bE e1]
              simp (disch := omega) only [q_0, q_1, q_2, q_3, q_4, q_5, q_6, q_7, q_8, q_10, q_12, q_14, q_20, q_47, q_50, q_99, q_100, q_107, q_120, q_792, nI_ltI, nI_leI, nI_eq, q_okn, nI_clamp, nI_add, pk_mul, pk_sub, pk_div, q_nlt9, q_neg0, q_ne9, q_9ne, q_nle9, ↓reduceIte, Nat.one_ne_zero, Nat.reduceEqDiff, q_ift, nB_at]
            · unfold P_X4_cell_28
              simp (disch := omega) only [q_0, q_1, q_2, q_3, q_4, q_5, q_6, q_7, q_8, q_10, q_12, q_14, q_20, q_47, q_50, q_99, q_100, q_107, q_120, q_792, nI_ltI, nI_leI, nI_eq, q_okn, nI_clamp, nI_add, pk_mul, pk_sub, pk_div, q_nlt9, q_neg0, q_ne9, q_9ne, q_nle9, ↓reduceIte, lc_let, ss_eq, Nat.le_refl, Nat.reduceEqDiff, ↓bE (x4_of0 hr2 hi hc)]
          · refine fin (nI (g 2 c)) ?_ ?_
            · unfold P_X3_cell; rw [hb, bE e1]
              simp (disch := omega) only [q_0, q_1, q_2, q_3, q_4, q_5, q_6, q_7, q_8, q_10, q_12, q_14, q_20, q_47, q_50, q_99, q_100, q_107, q_120, q_792, nI_ltI, nI_leI, nI_eq, q_okn, nI_clamp, nI_add, pk_mul, pk_sub, pk_div, q_nlt9, q_neg0, q_ne9, q_9ne, q_nle9, ↓reduceIte, Nat.one_ne_zero, Nat.reduceEqDiff, q_ift, nB_at]
            · unfold P_X4_cell_28
              simp (disch := omega) only [q_0, q_1, q_2, q_3, q_4, q_5, q_6, q_7, q_8, q_10, q_12, q_14, q_20, q_47, q_50, q_99, q_100, q_107, q_120, q_792, nI_ltI, nI_leI, nI_eq, q_okn, nI_clamp, nI_add, pk_mul, pk_sub, pk_div, q_nlt9, q_neg0, q_ne9, q_9ne, q_nle9, ↓reduceIte, lc_let, ss_eq, Nat.le_refl, Nat.reduceEqDiff, ↓bE (x4_of1 hr2 hi hc)]
          · refine fin (nI (g 3 c)) ?_ ?_
            · unfold P_X3_cell; rw [hb, bE e1]
              simp (disch := omega) only [q_0, q_1, q_2, q_3, q_4, q_5, q_6, q_7, q_8, q_10, q_12, q_14, q_20, q_47, q_50, q_99, q_100, q_107, q_120, q_792, nI_ltI, nI_leI, nI_eq, q_okn, nI_clamp, nI_add, pk_mul, pk_sub, pk_div, q_nlt9, q_neg0, q_ne9, q_9ne, q_nle9, ↓reduceIte, Nat.one_ne_zero, Nat.reduceEqDiff, q_ift, nB_at]
            · unfold P_X4_cell_28
              simp (disch := omega) only [q_0, q_1, q_2, q_3, q_4, q_5, q_6, q_7, q_8, q_10, q_12, q_14, q_20, q_47, q_50, q_99, q_100, q_107, q_120, q_792, nI_ltI, nI_leI, nI_eq, q_okn, nI_clamp, nI_add, pk_mul, pk_sub, pk_div, q_nlt9, q_neg0, q_ne9, q_9ne, q_nle9, ↓reduceIte, lc_let, ss_eq, Nat.le_refl, Nat.reduceEqDiff, ↓bE (x4_of2 hr2 hi hc)]
          · refine fin (nI (g 4 c)) ?_ ?_
            · unfold P_X3_cell; rw [hb, bE e1]
              simp (disch := omega) only [q_0, q_1, q_2, q_3, q_4, q_5, q_6, q_7, q_8, q_10, q_12, q_14, q_20, q_47, q_50, q_99, q_100, q_107, q_120, q_792, nI_ltI, nI_leI, nI_eq, q_okn, nI_clamp, nI_add, pk_mul, pk_sub, pk_div, q_nlt9, q_neg0, q_ne9, q_9ne, q_nle9, ↓reduceIte, Nat.one_ne_zero, Nat.reduceEqDiff, q_ift, nB_at]
            · unfold P_X4_cell_28
              simp (disch := omega) only [q_0, q_1, q_2, q_3, q_4, q_5, q_6, q_7, q_8, q_10, q_12, q_14, q_20, q_47, q_50, q_99, q_100, q_107, q_120, q_792, nI_ltI, nI_leI, nI_eq, q_okn, nI_clamp, nI_add, pk_mul, pk_sub, pk_div, q_nlt9, q_neg0, q_ne9, q_9ne, q_nle9, ↓reduceIte, lc_let, ss_eq, Nat.le_refl, Nat.reduceEqDiff, ↓bE (x4_of3 hr2 hi hc)]
          · refine fin (nI (ow g 6 c (g 0 1))) ?_ ?_
            · unfold P_X3_cell; rw [hb, bE e1]
              simp (disch := omega) only [q_0, q_1, q_2, q_3, q_4, q_5, q_6, q_7, q_8, q_10, q_12, q_14, q_20, q_47, q_50, q_99, q_100, q_107, q_120, q_792, nI_ltI, nI_leI, nI_eq, q_okn, nI_clamp, nI_add, pk_mul, pk_sub, pk_div, q_nlt9, q_neg0, q_ne9, q_9ne, q_nle9, ↓reduceIte, Nat.one_ne_zero, Nat.reduceEqDiff, ↓bE (x0_owedBy hi hc8)]
            · unfold P_X4_cell_28
              simp (disch := omega) only [q_0, q_1, q_2, q_3, q_4, q_5, q_6, q_7, q_8, q_10, q_12, q_14, q_20, q_47, q_50, q_99, q_100, q_107, q_120, q_792, nI_ltI, nI_leI, nI_eq, q_okn, nI_clamp, nI_add, pk_mul, pk_sub, pk_div, q_nlt9, q_neg0, q_ne9, q_9ne, q_nle9, ↓reduceIte, lc_let, ss_eq, Nat.le_refl, Nat.reduceEqDiff, ↓bE (x4_owedBy hr2 hi hc8)]
          · refine fin (nI (ow g 5 c (g 0 1))) ?_ ?_
            · unfold P_X3_cell; rw [hb, bE e1]
              simp (disch := omega) only [q_0, q_1, q_2, q_3, q_4, q_5, q_6, q_7, q_8, q_10, q_12, q_14, q_20, q_47, q_50, q_99, q_100, q_107, q_120, q_792, nI_ltI, nI_leI, nI_eq, q_okn, nI_clamp, nI_add, pk_mul, pk_sub, pk_div, q_nlt9, q_neg0, q_ne9, q_9ne, q_nle9, ↓reduceIte, Nat.one_ne_zero, Nat.reduceEqDiff, ↓bE (x0_owedTo hi hc8)]
            · unfold P_X4_cell_28
              simp (disch := omega) only [q_0, q_1, q_2, q_3, q_4, q_5, q_6, q_7, q_8, q_10, q_12, q_14, q_20, q_47, q_50, q_99, q_100, q_107, q_120, q_792, nI_ltI, nI_leI, nI_eq, q_okn, nI_clamp, nI_add, pk_mul, pk_sub, pk_div, q_nlt9, q_neg0, q_ne9, q_9ne, q_nle9, ↓reduceIte, lc_let, ss_eq, Nat.le_refl, Nat.reduceEqDiff, ↓bE (x4_owedTo hr2 hi hc8)]
          · refine fin r6 ?_ ?_
            · unfold P_X3_cell; rw [hb, bE e1]
              simp (disch := omega) only [q_0, q_1, q_2, q_3, q_4, q_5, q_6, q_7, q_8, q_10, q_12, q_14, q_20, q_47, q_50, q_99, q_100, q_107, q_120, q_792, nI_ltI, nI_leI, nI_eq, q_okn, nI_clamp, nI_add, pk_mul, pk_sub, pk_div, q_nlt9, q_neg0, q_ne9, q_9ne, q_nle9, ↓reduceIte, Nat.one_ne_zero, Nat.reduceEqDiff, ↓bE i1]
            · unfold P_X4_cell_28
              simp (disch := omega) only [q_0, q_1, q_2, q_3, q_4, q_5, q_6, q_7, q_8, q_10, q_12, q_14, q_20, q_47, q_50, q_99, q_100, q_107, q_120, q_792, nI_ltI, nI_leI, nI_eq, q_okn, nI_clamp, nI_add, pk_mul, pk_sub, pk_div, q_nlt9, q_neg0, q_ne9, q_9ne, q_nle9, ↓reduceIte, lc_let, ss_eq, Nat.le_refl, Nat.reduceEqDiff, ↓bE i2]
          · refine fin r7 ?_ ?_
            · unfold P_X3_cell; rw [hb, bE e1]
              simp (disch := omega) only [q_0, q_1, q_2, q_3, q_4, q_5, q_6, q_7, q_8, q_10, q_12, q_14, q_20, q_47, q_50, q_99, q_100, q_107, q_120, q_792, nI_ltI, nI_leI, nI_eq, q_okn, nI_clamp, nI_add, pk_mul, pk_sub, pk_div, q_nlt9, q_neg0, q_ne9, q_9ne, q_nle9, ↓reduceIte, Nat.one_ne_zero, Nat.reduceEqDiff, ↓bE k1]
            · unfold P_X4_cell_28
              simp (disch := omega) only [q_0, q_1, q_2, q_3, q_4, q_5, q_6, q_7, q_8, q_10, q_12, q_14, q_20, q_47, q_50, q_99, q_100, q_107, q_120, q_792, nI_ltI, nI_leI, nI_eq, q_okn, nI_clamp, nI_add, pk_mul, pk_sub, pk_div, q_nlt9, q_neg0, q_ne9, q_9ne, q_nle9, ↓reduceIte, lc_let, ss_eq, Nat.le_refl, Nat.reduceEqDiff, ↓bE k2]
        · rw [if_neg (by omega)] at ein
          exact bad ein (fun k hk => by rw [nI_eq (by omega) (by omega)]; exact eq_false (by omega))
    · rw [if_neg hc] at e1 e2
      exact no (by rw [hb]; exact e1) e2
theorem r_loan (h : Rel M s) (x y : Int32) : Cl kB M (P_X3_loan x y M) (P_X4_loan x y s) := by
  obtain ⟨g, d, hb, hi, hr⟩ := h.1.rm h.2.1
  have h12 := hi.2.1
  have no : P_X0_hasLoan x (M 0) = some (nI 0) → P_X4_isLoan x s = some (nI 0) → Cl kB M (P_X3_loan x y M) (P_X4_loan x y s) := by
    intro q1 q2
    refine Cl.no (e := 3) (w := nI 1) h (by omega) ?_ ?_ rfl
    · unfold P_X3_loan
      rw [bE q1]
      simp (disch := omega) only [q_0, q_1, q_2, q_3, q_4, q_5, q_6, q_7, q_8, q_10, q_12, q_14, q_20, q_47, q_50, q_99, q_100, q_107, q_120, q_792, nI_ltI, nI_leI, nI_eq, q_okn, nI_clamp, nI_add, pk_mul, pk_sub, pk_div, q_nlt9, q_neg0, q_ne9, q_9ne, q_nle9, ↓reduceIte]
    · unfold P_X4_loan P_X4_loan_27
      rw [bE q2]
      simp (disch := omega) only [q_0, q_1, q_2, q_3, q_4, q_5, q_6, q_7, q_8, q_10, q_12, q_14, q_20, q_47, q_50, q_99, q_100, q_107, q_120, q_792, nI_ltI, nI_leI, nI_eq, q_okn, nI_clamp, nI_add, pk_mul, pk_sub, pk_div, q_nlt9, q_neg0, q_ne9, q_9ne, q_nle9, ↓reduceIte, lc_let, ss_eq, Nat.reduceLeDiff]
  rcases q_cases x with hx | ⟨c, hc31, rfl⟩
  · exact no (x0_hasLn hx) (x4_isLoann hx)
  · have e1 := x0_hasL hi hc31
    have e2 := x4_isLoan hr hi hc31
    by_cases hc : c < g 0 1
    · rw [if_pos hc] at e1 e2
      have bad : P_X4_in y (nI 0) (nI 5) = some (nI 0) → (∀ k, k < 6 → (y = nI k) = False) → Cl kB M (P_X3_loan (nI c) y M) (P_X4_loan (nI c) y s) := by
        intro q1 q2
        refine Cl.no (e := 1) (w := nI 2) h (by omega) ?_ ?_ rfl
        · unfold P_X3_loan
          rw [hb, bE e1]
          simp (disch := omega) only [q_0, q_1, q_2, q_3, q_4, q_5, q_6, q_7, q_8, q_10, q_12, q_14, q_20, q_47, q_50, q_99, q_100, q_107, q_120, q_792, nI_ltI, nI_leI, nI_eq, q_okn, nI_clamp, nI_add, pk_mul, pk_sub, pk_div, q_nlt9, q_neg0, q_ne9, q_9ne, q_nle9, ↓reduceIte, q2, Nat.one_ne_zero]
        · unfold P_X4_loan P_X4_loan_27
          simp only [q_0, q_1, q_2, q_3, q_4, q_5, q_6, q_7, q_8, q_10, q_12, q_14, q_20, q_47, q_50, q_99, q_100, q_107, q_120, q_792]
          rw [bE e2]
          simp (disch := omega) only [nI_ltI, nI_leI, nI_eq, q_okn, nI_clamp, nI_add, pk_mul, pk_sub, pk_div, q_nlt9, q_neg0, q_ne9, q_9ne, q_nle9, ↓reduceIte, Nat.one_ne_zero]
          rw [bE q1]
          simp (disch := omega) only [nI_ltI, nI_leI, nI_eq, q_okn, nI_clamp, nI_add, pk_mul, pk_sub, pk_div, q_nlt9, q_neg0, q_ne9, q_9ne, q_nle9, ↓reduceIte, lc_let, ss_eq, Nat.reduceLeDiff]
      rcases q_cases y with hy | ⟨n, hn, rfl⟩
      · exact bad (x4_inn 0 5 hy (by omega)) (fun k hk => eq_false (q_nne hy (by omega)))
      · have ein := x4_in 0 5 n (by omega) (by omega) hn
        by_cases hn8 : n < 6
        · rw [if_pos (by omega)] at ein
          have hr2 := RM_00 hr (nI 0)
          have hs : n = 0 ∨ n = 1 ∨ n = 2 ∨ n = 3 ∨ n = 4 ∨ n = 5 := by omega
          have fin : ∀ r, P_X3_loan (nI c) (nI n) M = some (0, r, M) → P_X4_loan_27 (nI c) (nI n) (nI 0) s = some (r, lc_ss s 0 0 (nI 0)) → Cl kB M (P_X3_loan (nI c) (nI n) M) (P_X4_loan (nI c) (nI n) s) := by
            intro r z1 z2
            refine Cl.ask h rfl (r := r) z1 ?_
            unfold P_X4_loan
            simp only [q_0, q_1, q_2, q_3, q_4, q_5, q_6, q_7, q_8, q_10, q_12, q_14, q_20, q_47, q_50, q_99, q_100, q_107, q_120, q_792]
            rw [bE e2]
            simp (disch := omega) only [nI_ltI, nI_leI, nI_eq, q_okn, nI_clamp, nI_add, pk_mul, pk_sub, pk_div, q_nlt9, q_neg0, q_ne9, q_9ne, q_nle9, ↓reduceIte, Nat.one_ne_zero]
            rw [bE ein]
            simp (disch := omega) only [nI_ltI, nI_leI, nI_eq, q_okn, nI_clamp, nI_add, pk_mul, pk_sub, pk_div, q_nlt9, q_neg0, q_ne9, q_9ne, q_nle9, ↓reduceIte, Nat.one_ne_zero]
            exact z2
          rcases hs with q | q | q | q | q | q <;> subst q
          · refine fin (nI (g 5 c)) ?_ ?_
            · unfold P_X3_loan; rw [hb, bE e1]
              simp (disch := omega) only [q_0, q_1, q_2, q_3, q_4, q_5, q_6, q_7, q_8, q_10, q_12, q_14, q_20, q_47, q_50, q_99, q_100, q_107, q_120, q_792, nI_ltI, nI_leI, nI_eq, q_okn, nI_clamp, nI_add, pk_mul, pk_sub, pk_div, q_nlt9, q_neg0, q_ne9, q_9ne, q_nle9, ↓reduceIte, Nat.one_ne_zero, Nat.reduceEqDiff, q_ift, nB_at]
            · unfold P_X4_loan_27
              simp (disch := omega) only [q_0, q_1, q_2, q_3, q_4, q_5, q_6, q_7, q_8, q_10, q_12, q_14, q_20, q_47, q_50, q_99, q_100, q_107, q_120, q_792, nI_ltI, nI_leI, nI_eq, q_okn, nI_clamp, nI_add, pk_mul, pk_sub, pk_div, q_nlt9, q_neg0, q_ne9, q_9ne, q_nle9, ↓reduceIte, lc_let, ss_eq, Nat.le_refl, Nat.reduceEqDiff, Nat.reduceLeDiff, ↓bE (x4_ol0 hr2 hi hc)]
          · refine fin (nI (g 6 c)) ?_ ?_
            · unfold P_X3_loan; rw [hb, bE e1]
              simp (disch := omega) only [q_0, q_1, q_2, q_3, q_4, q_5, q_6, q_7, q_8, q_10, q_12, q_14, q_20, q_47, q_50, q_99, q_100, q_107, q_120, q_792, nI_ltI, nI_leI, nI_eq, q_okn, nI_clamp, nI_add, pk_mul, pk_sub, pk_div, q_nlt9, q_neg0, q_ne9, q_9ne, q_nle9, ↓reduceIte, Nat.one_ne_zero, Nat.reduceEqDiff, q_ift, nB_at]
            · unfold P_X4_loan_27
              simp (disch := omega) only [q_0, q_1, q_2, q_3, q_4, q_5, q_6, q_7, q_8, q_10, q_12, q_14, q_20, q_47, q_50, q_99, q_100, q_107, q_120, q_792, nI_ltI, nI_leI, nI_eq, q_okn, nI_clamp, nI_add, pk_mul, pk_sub, pk_div, q_nlt9, q_neg0, q_ne9, q_9ne, q_nle9, ↓reduceIte, lc_let, ss_eq, Nat.le_refl, Nat.reduceEqDiff, Nat.reduceLeDiff, ↓bE (x4_ol1 hr2 hi hc)]
          · refine fin (nI (g 7 c)) ?_ ?_
            · unfold P_X3_loan; rw [hb, bE e1]
              simp (disch := omega) only [q_0, q_1, q_2, q_3, q_4, q_5, q_6, q_7, q_8, q_10, q_12, q_14, q_20, q_47, q_50, q_99, q_100, q_107, q_120, q_792, nI_ltI, nI_leI, nI_eq, q_okn, nI_clamp, nI_add, pk_mul, pk_sub, pk_div, q_nlt9, q_neg0, q_ne9, q_9ne, q_nle9, ↓reduceIte, Nat.one_ne_zero, Nat.reduceEqDiff, q_ift, nB_at]
            · unfold P_X4_loan_27
              simp (disch := omega) only [q_0, q_1, q_2, q_3, q_4, q_5, q_6, q_7, q_8, q_10, q_12, q_14, q_20, q_47, q_50, q_99, q_100, q_107, q_120, q_792, nI_ltI, nI_leI, nI_eq, q_okn, nI_clamp, nI_add, pk_mul, pk_sub, pk_div, q_nlt9, q_neg0, q_ne9, q_9ne, q_nle9, ↓reduceIte, lc_let, ss_eq, Nat.le_refl, Nat.reduceEqDiff, Nat.reduceLeDiff, ↓bE (x4_ol2 hr2 hi hc)]
          · refine fin (nI (g 8 c)) ?_ ?_
            · unfold P_X3_loan; rw [hb, bE e1]
              simp (disch := omega) only [q_0, q_1, q_2, q_3, q_4, q_5, q_6, q_7, q_8, q_10, q_12, q_14, q_20, q_47, q_50, q_99, q_100, q_107, q_120, q_792, nI_ltI, nI_leI, nI_eq, q_okn, nI_clamp, nI_add, pk_mul, pk_sub, pk_div, q_nlt9, q_neg0, q_ne9, q_9ne, q_nle9, ↓reduceIte, Nat.one_ne_zero, Nat.reduceEqDiff, q_ift, nB_at]
            · unfold P_X4_loan_27
              simp (disch := omega) only [q_0, q_1, q_2, q_3, q_4, q_5, q_6, q_7, q_8, q_10, q_12, q_14, q_20, q_47, q_50, q_99, q_100, q_107, q_120, q_792, nI_ltI, nI_leI, nI_eq, q_okn, nI_clamp, nI_add, pk_mul, pk_sub, pk_div, q_nlt9, q_neg0, q_ne9, q_9ne, q_nle9, ↓reduceIte, lc_let, ss_eq, Nat.le_refl, Nat.reduceEqDiff, Nat.reduceLeDiff, ↓bE (x4_ol3 hr2 hi hc)]
          · refine fin (nI (itr g c)) ?_ ?_
            · unfold P_X3_loan; rw [hb, bE e1]
              simp (disch := omega) only [q_0, q_1, q_2, q_3, q_4, q_5, q_6, q_7, q_8, q_10, q_12, q_14, q_20, q_47, q_50, q_99, q_100, q_107, q_120, q_792, nI_ltI, nI_leI, nI_eq, q_okn, nI_clamp, nI_add, pk_mul, pk_sub, pk_div, q_nlt9, q_neg0, q_ne9, q_9ne, q_nle9, ↓reduceIte, Nat.one_ne_zero, Nat.reduceEqDiff, ↓bE (x0_interest hi hc)]
            · unfold P_X4_loan_27
              simp (disch := omega) only [q_0, q_1, q_2, q_3, q_4, q_5, q_6, q_7, q_8, q_10, q_12, q_14, q_20, q_47, q_50, q_99, q_100, q_107, q_120, q_792, nI_ltI, nI_leI, nI_eq, q_okn, nI_clamp, nI_add, pk_mul, pk_sub, pk_div, q_nlt9, q_neg0, q_ne9, q_9ne, q_nle9, ↓reduceIte, lc_let, ss_eq, Nat.le_refl, Nat.reduceEqDiff, Nat.reduceLeDiff, ↓bE (x4_interest hr2 hi hc)]
          · refine fin (nI (g 9 c)) ?_ ?_
            · unfold P_X3_loan; rw [hb, bE e1]
              simp (disch := omega) only [q_0, q_1, q_2, q_3, q_4, q_5, q_6, q_7, q_8, q_10, q_12, q_14, q_20, q_47, q_50, q_99, q_100, q_107, q_120, q_792, nI_ltI, nI_leI, nI_eq, q_okn, nI_clamp, nI_add, pk_mul, pk_sub, pk_div, q_nlt9, q_neg0, q_ne9, q_9ne, q_nle9, ↓reduceIte, Nat.one_ne_zero, Nat.reduceEqDiff, q_ift, nB_at]
            · unfold P_X4_loan_27
              simp (disch := omega) only [q_0, q_1, q_2, q_3, q_4, q_5, q_6, q_7, q_8, q_10, q_12, q_14, q_20, q_47, q_50, q_99, q_100, q_107, q_120, q_792, nI_ltI, nI_leI, nI_eq, q_okn, nI_clamp, nI_add, pk_mul, pk_sub, pk_div, q_nlt9, q_neg0, q_ne9, q_9ne, q_nle9, ↓reduceIte, lc_let, ss_eq, Nat.le_refl, Nat.reduceEqDiff, Nat.reduceLeDiff, ↓bE (x4_ol4 hr2 hi hc)]
        · rw [if_neg (by omega)] at ein
          exact bad ein (fun k hk => by rw [nI_eq (by omega) (by omega)]; exact eq_false (by omega))
    · rw [if_neg hc] at e1 e2
      exact no (by rw [hb]; exact e1) e2
/-- in a range, on both sides -/
theorem in_cases (x : Int32) (a b : Nat) (ha : a < 2 ^ 31) (hb : b < 2 ^ 31) : (P_X4_in x (nI a) (nI b) = some (nI 0)) ∨ ∃ n, a ≤ n ∧ n ≤ b ∧ x = nI n ∧ P_X4_in x (nI a) (nI b) = some (nI 1) := by
  rcases q_cases x with hx | ⟨n, hn, rfl⟩
  · exact Or.inl (x4_inn a b hx ha)
  · have e := x4_in a b n ha hb hn
    by_cases h : a ≤ n ∧ n ≤ b
    · rw [if_pos h] at e; exact Or.inr ⟨n, h.1, h.2, rfl, e⟩
    · rw [if_neg h] at e; exact Or.inl e
theorem x3_units (x : Int32) {r : Nat} (h : P_X4_in x (nI 1) (nI 99) = some (nI r)) (hr : r ≤ 1) : P_X3_isUnits x = some (nI r) := by
  have h2 : P_X3_isWithin x (nI 1) (nI 99) = some (nI r) := h
  unfold P_X3_isUnits
  simp only [q_0, q_1, q_2, q_3, q_4, q_5, q_6, q_7, q_8, q_10, q_12, q_14, q_20, q_47, q_50, q_99, q_100, q_107, q_120, q_792]
  rw [bE h2]
  apply q_ift
  by_cases q : r = 0
  · subst q; exact Or.inl rfl
  · rw [show r = 1 by omega]; exact Or.inr rfl
theorem r_best (h : Rel M s) (x y : Int32) : Cl kB M (P_X3_bestLender x y M) (P_X4_bestLender x y s) := by
  obtain ⟨g, d, hb, hi, hr⟩ := h.1.rm h.2.1
  have h8 := hi.1
  have no : P_X0_hasCell x (M 0) = some (nI 0) → P_X4_isCell x s = some (nI 0) → Cl kB M (P_X3_bestLender x y M) (P_X4_bestLender x y s) := by
    intro q1 q2
    refine Cl.no (e := 3) (w := nI 1) h (by omega) ?_ ?_ rfl
    · unfold P_X3_bestLender
      rw [bE q1]
      simp (disch := omega) only [q_0, q_1, q_2, q_3, q_4, q_5, q_6, q_7, q_8, q_10, q_12, q_14, q_20, q_47, q_50, q_99, q_100, q_107, q_120, q_792, nI_ltI, nI_leI, nI_eq, q_okn, nI_clamp, nI_add, pk_mul, pk_sub, pk_div, q_nlt9, q_neg0, q_ne9, q_9ne, q_nle9, ↓reduceIte]
    · unfold P_X4_bestLender P_X4_bestLender_28
      rw [bE q2]
      simp (disch := omega) only [q_0, q_1, q_2, q_3, q_4, q_5, q_6, q_7, q_8, q_10, q_12, q_14, q_20, q_47, q_50, q_99, q_100, q_107, q_120, q_792, nI_ltI, nI_leI, nI_eq, q_okn, nI_clamp, nI_add, pk_mul, pk_sub, pk_div, q_nlt9, q_neg0, q_ne9, q_9ne, q_nle9, ↓reduceIte, lc_let, ss_eq, Nat.reduceLeDiff]
  rcases q_cases x with hx | ⟨c, hc31, rfl⟩
  · exact no (x0_hasn hx) (x4_isCelln hx)
  · have e1 := x0_has hi hc31
    have e2 := x4_isCell hr hi hc31
    by_cases hc : c < g 0 0
    · rw [if_pos hc] at e1 e2
      rcases in_cases y 1 99 (by omega) (by omega) with hy | ⟨n, hn1, hn2, rfl, hy⟩
      · have hu := x3_units y hy (by omega)
        refine Cl.no (e := 1) (w := nI 2) h (by omega) ?_ ?_ rfl
        · unfold P_X3_bestLender
          rw [hb, bE e1]
          simp (disch := omega) only [q_0, q_1, q_2, q_3, q_4, q_5, q_6, q_7, q_8, q_10, q_12, q_14, q_20, q_47, q_50, q_99, q_100, q_107, q_120, q_792, nI_ltI, nI_leI, nI_eq, q_okn, nI_clamp, nI_add, pk_mul, pk_sub, pk_div, q_nlt9, q_neg0, q_ne9, q_9ne, q_nle9, ↓reduceIte, Nat.one_ne_zero, ↓bE hu]
        · unfold P_X4_bestLender P_X4_bestLender_28
          simp only [q_0, q_1, q_2, q_3, q_4, q_5, q_6, q_7, q_8, q_10, q_12, q_14, q_20, q_47, q_50, q_99, q_100, q_107, q_120, q_792]
          rw [bE e2]
          simp (disch := omega) only [nI_ltI, nI_leI, nI_eq, q_okn, nI_clamp, nI_add, pk_mul, pk_sub, pk_div, q_nlt9, q_neg0, q_ne9, q_9ne, q_nle9, ↓reduceIte, Nat.one_ne_zero]
          rw [bE hy]
          simp (disch := omega) only [nI_ltI, nI_leI, nI_eq, q_okn, nI_clamp, nI_add, pk_mul, pk_sub, pk_div, q_nlt9, q_neg0, q_ne9, q_9ne, q_nle9, ↓reduceIte, lc_let, ss_eq, Nat.reduceLeDiff]
      · have hu := x3_units (nI n) hy (by omega)
        obtain ⟨r, z1, z2⟩ := q_cheap (RM_00 hr (nI 0)) hi hc hn2
        refine Cl.ask h rfl (r := r) ?_ ?_
        · unfold P_X3_bestLender
          rw [hb, bE e1]
          simp (disch := omega) only [q_0, q_1, q_2, q_3, q_4, q_5, q_6, q_7, q_8, q_10, q_12, q_14, q_20, q_47, q_50, q_99, q_100, q_107, q_120, q_792, nI_ltI, nI_leI, nI_eq, q_okn, nI_clamp, nI_add, pk_mul, pk_sub, pk_div, q_nlt9, q_neg0, q_ne9, q_9ne, q_nle9, ↓reduceIte, Nat.one_ne_zero, ↓bE hu, ↓bE z1]
        · unfold P_X4_bestLender P_X4_bestLender_28
          simp only [q_0, q_1, q_2, q_3, q_4, q_5, q_6, q_7, q_8, q_10, q_12, q_14, q_20, q_47, q_50, q_99, q_100, q_107, q_120, q_792]
          rw [bE e2]
          simp (disch := omega) only [nI_ltI, nI_leI, nI_eq, q_okn, nI_clamp, nI_add, pk_mul, pk_sub, pk_div, q_nlt9, q_neg0, q_ne9, q_9ne, q_nle9, ↓reduceIte, Nat.one_ne_zero]
          rw [bE hy]
          simp (disch := omega) only [nI_ltI, nI_leI, nI_eq, q_okn, nI_clamp, nI_add, pk_mul, pk_sub, pk_div, q_nlt9, q_neg0, q_ne9, q_9ne, q_nle9, ↓reduceIte, Nat.one_ne_zero, lc_let, ss_eq, Nat.le_refl]
          exact z2
    · rw [if_neg hc] at e1 e2
      exact no (by rw [hb]; exact e1) e2
