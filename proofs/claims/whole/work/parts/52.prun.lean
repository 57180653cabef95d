/-! ===== the pure claim: runScript ===== -/
theorem ql_G : (100000 : Int64) = lN 100000 := by decide +kernel
theorem l_wlg : ∀ k i j S n, i + k = j → j < 100 → S < 2 ^ 63 → k < n → P_X3_withoutLastGroups_5 n (nI j) (lN S) (nI i) = some (lN (S / 100000 ^ k)) := by
  intro k
  induction k with
  | zero =>
    intro i j S n hij hj hS hn
    obtain ⟨n, rfl⟩ : ∃ q, n = q + 1 := ⟨n - 1, by omega⟩
    have : i = j := by omega
    subst this
    rw [P_X3_withoutLastGroups_5, if_pos (nI_le (Nat.le_refl _) (by omega)), Nat.pow_zero, Nat.div_one]
  | succ k ih =>
    intro i j S n hij hj hS hn
    obtain ⟨n, rfl⟩ : ∃ q, n = q + 1 := ⟨n - 1, by omega⟩
    have hd : S / 100000 < 2 ^ 63 := Nat.lt_of_le_of_lt (Nat.div_le_self _ _) hS
    have z := ih (i + 1) j (S / 100000) n (by omega) hj hd (by omega)
    rw [P_X3_withoutLastGroups_5, if_neg (by rw [nI_leI (by omega) (by omega)]; omega)]
    simp only [q_let, ql_G, q_0, q_1, q_2, q_3, q_4, q_5, q_6, q_7, q_8, q_10, q_12, q_14, q_20, q_47, q_50, q_99, q_100, q_107, q_120, q_792, nI_add]
    rw [pk_lDiv hS (by omega) (by omega), z, Nat.div_div_eq_div_mul, Nat.pow_succ, Nat.mul_comm 100000]
theorem x3_wlg {S j : Nat} (hS : S < 2 ^ 63) (hj : j < 100) : P_X3_withoutLastGroups (lN S) (nI j) = some (lN (S / 100000 ^ j)) := l_wlg j 0 j S lc_FU (by omega) hj hS (q_FUn (by omega))
theorem pw_bd {k : Nat} (hk : k ≤ 3) : 0 < 100000 ^ k ∧ 100000 ^ k < 2 ^ 63 := by
  have : k = 0 ∨ k = 1 ∨ k = 2 ∨ k = 3 := by omega
  rcases this with h | h | h | h <;> subst h <;> decide
theorem pw_dv (k : Nat) : 100000 ^ (k + 1) / 100000 = 100000 ^ k := by
  rw [Nat.pow_succ, Nat.mul_div_cancel _ (by decide)]
theorem l_run {N S : Nat} (hN : N ≤ 3) (hS : S < 2 ^ 63) : ∀ k i (g : Nat → Nat → Nat) (d : Option Int32) (m : lc_St) (M2 : lc_MM) n1 n2, i + k = N → M2 1 = nB g → Iv g → RM 8 d m g → k < n1 → k + 1 < n2 → ∃ r M3 m', P_X3_runScript_61 n1 (nI N) (lN S) (nI i) M2 = some (0, r, M3) ∧ P_X4_runScript_86 n2 (nI N) (lN S) (-9) (lN (100000 ^ k / 100000)) (nI i) m = some (r, crw m' 1 0 2 0 107) ∧ Fw m m' ∧ ∀ j, j ≠ 1 → M3 j = M2 j := by
  intro k
  induction k with
  | zero =>
    intro i g d m M2 n1 n2 hik h1 hi hr h1n h2n
    obtain ⟨n1, rfl⟩ : ∃ q, n1 = q + 1 := ⟨n1 - 1, by omega⟩; obtain ⟨n2, rfl⟩ : ∃ q, n2 = q + 1 := ⟨n2 - 1, by omega⟩
    have : i = N := by omega
    subst this
    refine ⟨-9, M2, m, ?_, ?_, Fw.rf m, fun _ _ => rfl⟩
    · rw [P_X3_runScript_61, if_pos (nI_le (Nat.le_refl _) (by omega))]
    · rw [P_X4_runScript_86, if_pos (nI_le (Nat.le_refl _) (by omega))]
      unfold P_X4_runScript_138
      rw [bE (x4_putBack m)]
  | succ k ih =>
    intro i g d m M2 n1 n2 hik h1 hi hr h1n h2n
    obtain ⟨n1, rfl⟩ : ∃ q, n1 = q + 1 := ⟨n1 - 1, by omega⟩
    obtain ⟨n2, rfl⟩ : ∃ q, n2 = q + 1 + 1 := ⟨n2 - 2, by omega⟩
    obtain ⟨b1, b2⟩ := pw_bd (k := k) (by omega)
    have hc : S / 100000 ^ k % 100000 < 100000 := Nat.mod_lt _ (by omega)
    have hd : S / 100000 ^ k < 2 ^ 63 := Nat.lt_of_le_of_lt (Nat.div_le_self _ _) hS
    have ec : (lN (S / 100000 ^ k) - lN (S / 100000 ^ k) / lN 100000 * lN 100000).toInt32 = nI (S / 100000 ^ k % 100000) := by
      rw [pk_lRem hd (by omega) (by omega), lN_i]
    obtain ⟨ok, g', m', k1, k2, k3, k4, k5⟩ := q_succ hr hi hc
    have hw : P_X3_withoutLastGroups (lN S) (nI N - nI 1 - nI i) = some (lN (S / 100000 ^ k)) := by
      rw [pk_sub (by omega), pk_sub (by omega), show N - 1 - i = k by omega]
      exact x3_wlg hS (by omega)
    have hx0 : ¬ lN (100000 ^ k) = lN 0 := by rw [pk_lEQ b2 (by omega)]; omega
    have hx1 : ¬ lN (100000 ^ k) = (0 : Int64) := hx0
    rw [P_X3_runScript_61, P_X4_runScript_86, if_neg (by rw [nI_leI (by omega) (by omega)]; omega), if_neg (by rw [nI_leI (by omega) (by omega)]; omega), if_pos rfl, pw_dv, q_ift hx1]
    simp only [q_let, ql_G, q_0, q_1, q_2, q_3, q_4, q_5, q_6, q_7, q_8, q_10, q_12, q_14, q_20, q_47, q_50, q_99, q_100, q_107, q_120, q_792]
    rw [bE hw, pk_lDiv hS b1 b2, ec, h1, bE2 k2, bE2 k3]
    by_cases q : ok = 0
    · subst q
      refine ⟨nI i, va_up M2 1 (nB g'), m', if_pos rfl, ?_, k4, fun j hj => lc_up_off _ _ hj⟩
      rw [if_pos rfl]
      unfold P_X4_runScript_122
      simp only [q_let, ql_G, q_0, q_1, q_2, q_3, q_4, q_5, q_6, q_7, q_8, q_10, q_12, q_14, q_20, q_47, q_50, q_99, q_100, q_107, q_120, q_792, nI_add]
      rw [P_X4_runScript_86]
      unfold P_X4_runScript_138
      rw [bE (x4_putBack m'), if_neg (show ¬ nI i = -9 by rw [q_ne9 (by omega)]; exact not_false)]
      split <;> rfl
    · obtain ⟨q1, q2⟩ := k5 (by omega)
      have e0 : ¬ nI ok = nI 0 := by rw [nI_eq (by omega) (by omega)]; exact q
      obtain ⟨r, M3, m2, z1, z2, z3, z4⟩ := ih (i + 1) g' d m' (va_up M2 1 (nB g')) n1 (n2 + 1) (by omega) (lc_up_at _ _ _) q2 q1 (by omega) (by omega)
      refine ⟨r, M3, m2, ?_, ?_, k4.tr z3, fun j hj => by rw [z4 j hj, lc_up_off _ _ hj]⟩
      · rw [if_neg e0, nI_add]; exact z1
      · rw [if_neg e0]
        unfold P_X4_runScript_122
        simp only [q_let, ql_G, q_0, q_1, q_2, q_3, q_4, q_5, q_6, q_7, q_8, q_10, q_12, q_14, q_20, q_47, q_50, q_99, q_100, q_107, q_120, q_792, nI_add]
        rw [pk_lDiv b2 (by omega) (by omega)]
        exact z2
variable {M M' : lc_MM} {s s' : lc_St}
theorem ql_0 : (0 : Int64) = lN 0 := by decide +kernel
theorem r_runScript (h : Rel M s) (x : Int32) (y : Int64) : Cl kA M (P_X3_runScript x y M) (P_X4_runScript x y s) := by
  obtain ⟨g, d, hcp, hi, hr, -⟩ := q_try h (M 1)
  have n55 : ∀ t, P_X4_runScript_55 x y t 1 s = some (nI 0, lc_ss s 0 0 (nI 1)) := fun t => by
    unfold P_X4_runScript_55
    simp (disch := omega) only [q_0, q_1, q_2, q_3, q_4, q_5, q_6, q_7, q_8, q_10, q_12, q_14, q_20, q_47, q_50, q_99, q_100, q_107, q_120, q_792, nI_ltI, nI_leI, nI_eq, q_okn, nI_clamp, nI_add, pk_mul, pk_sub, pk_div, q_nlt9, q_neg0, q_ne9, q_9ne, q_nle9, ↓reduceIte, q_let, ss_eq, Nat.reduceLeDiff]
  rcases in_cases x 1 3 (by omega) (by omega) with hx | ⟨N, hN1, hN3, rfl, hx⟩
  · have hx2 : P_X3_isWithin x 1 3 = some (nI 0) := hx
    have hx3 : P_X4_in x 1 3 = some (nI 0) := hx
    have n25 : ∀ t, P_X4_runScript_25 x y t s = some (nI 0, lc_ss s 0 0 (nI 1)) := fun t => by
      unfold P_X4_runScript_25 P_X4_runScript_54
      rw [bE hx3, if_pos n00, n55]
    refine Cl.no (e := 1) (w := nI 1) h (by omega) ?_ ?_ rfl
    · unfold P_X3_runScript; rw [bE hx2, if_pos n00]
    · unfold P_X4_runScript
      rw [n25, n25, n25]
      split
      · rfl
      · split <;> rfl
  · have hx2 : P_X3_isWithin (nI N) 1 3 = some (nI 1) := hx
    have hx3 : P_X4_in (nI N) 1 3 = some (nI 1) := hx
    have key : P_X4_runScript (nI N) y s = P_X4_runScript_25 (nI N) y (lN (100000 ^ N)) s := by
      have : N = 1 ∨ N = 2 ∨ N = 3 := by omega
      have e1 : (100000 : Int64) = lN (100000 ^ 1) := by decide +kernel
      have e2 : (10000000000 : Int64) = lN (100000 ^ 2) := by decide +kernel
      have e3 : (1000000000000000 : Int64) = lN (100000 ^ 3) := by decide +kernel
      unfold P_X4_runScript
      simp only [q_0, q_1, q_2, q_3, q_4, q_5, q_6, q_7, q_8, q_10, q_12, q_14, q_20, q_47, q_50, q_99, q_100, q_107, q_120, q_792]
      rcases this with q | q | q <;> subst q
      · rw [if_pos rfl, e1]
      · rw [if_neg (by decide +kernel), if_pos rfl, e2]
      · rw [if_neg (by decide +kernel), if_neg (by decide +kernel), e3]
    rw [key]
    by_cases hy : y < 0
    · have hl : lg_cmp y 0 < 0 := (lg_cmp_lt y 0).mpr hy
      refine Cl.no (e := 1) (w := nI 1) h (by omega) ?_ ?_ rfl
      · unfold P_X3_runScript; rw [bE hx2, if_neg (by decide +kernel), if_pos hl]
      · unfold P_X4_runScript_25 P_X4_runScript_54
        rw [bE hx3, if_neg (by decide +kernel), if_pos hl, n55]
    · have hl : ¬ lg_cmp y 0 < 0 := fun z => hy ((lg_cmp_lt y 0).mp z)
      obtain ⟨S, hS, rfl⟩ := pk_lOf hy
      have hw := x3_wlg hS (show N < 100 by omega)
      obtain ⟨b1, b2⟩ := pw_bd (k := N) (by omega)
      have hd : S / 100000 ^ N < 2 ^ 63 := Nat.lt_of_le_of_lt (Nat.div_le_self _ _) hS
      by_cases hb : S < 100000 ^ N
      · have h1 : lg_cmp (lN (S / 100000 ^ N)) 0 ≤ 0 := by
          rw [lg_cmp_le, ql_0, pk_lLE hd (by omega), Nat.div_eq_of_lt hb]
          exact Nat.le_refl _
        have h2 : ¬ 0 ≤ lg_cmp (lN S) (lN (100000 ^ N)) := by
          rw [lg_cmp_ge, pk_lLE b2 hS]; omega
        obtain ⟨r, M3, m', z1, z2, z3, z4⟩ := l_run hN3 hS N 0 g d _ (va_up M 1 (nB g)) lc_FU lc_FU (by omega) (lc_up_at _ _ _) hi hr (q_FUn (by omega)) (q_FUn (by omega))
        have zM : ∀ k, k ≠ 1 → M3 k = M k := fun k k1 => by rw [z4 k k1, lc_up_off _ _ k1]
        obtain ⟨w1, w2⟩ := h.back (M' := M3) z3 (fun k hk => zM k (by omega)) (zM 19 (by omega))
        refine ⟨0, r, M3, r, _, ?_, ?_, zM 22 (by omega), by rw [w2]; rfl, fun _ => rfl, w1⟩
        · unfold P_X3_runScript
          rw [bE hx2, if_neg (by decide +kernel), if_neg hl, bE hw, if_pos h1, bE hcp]
          simp only [q_let]
          exact z1
        · unfold P_X4_runScript_25 P_X4_runScript_55
          rw [bE hx3, if_neg (by decide +kernel), if_neg hl, if_neg h2]
          simp (disch := omega) only [q_0, q_1, q_2, q_3, q_4, q_5, q_6, q_7, q_8, q_10, q_12, q_14, q_20, q_47, q_50, q_99, q_100, q_107, q_120, q_792, nI_ltI, nI_leI, nI_eq, q_okn, nI_clamp, nI_add, pk_mul, pk_sub, pk_div, q_nlt9, q_neg0, q_ne9, q_9ne, q_nle9, ↓reduceIte, q_let, ss_eq, Nat.le_refl, ql_G]
          rw [bE (x4_layPut _), pk_lDiv b2 (by omega) (by omega)]
          exact z2
      · have h1 : ¬ lg_cmp (lN (S / 100000 ^ N)) 0 ≤ 0 := by
          rw [lg_cmp_le, ql_0, pk_lLE hd (by omega)]
          have := Nat.div_pos (Nat.not_lt.mp hb) b1
          omega
        have h2 : 0 ≤ lg_cmp (lN S) (lN (100000 ^ N)) := by
          rw [lg_cmp_ge, pk_lLE b2 hS]; omega
        refine Cl.no (e := 1) (w := nI 1) h (by omega) ?_ ?_ rfl
        · unfold P_X3_runScript; rw [bE hx2, if_neg (by decide +kernel), if_neg hl, bE hw, if_neg h1]
        · unfold P_X4_runScript_25 P_X4_runScript_54
          rw [bE hx3, if_neg (by decide +kernel), if_neg hl, if_pos h2, n55]
