/-! ===== the pure claim: save, restore, clearText, append ===== -/
variable {M M' : lc_MM} {s s' : lc_St}
theorem l_save (s : lc_St) {a : Nat} (ha : a < 2) : ∀ k i n, i + k = 107 → k < n → P_X4_save_29 n (nI a) (nI i) (crw s 3 (107 * a) 1 0 i) = lc_bd (P_X4_allCharge (lc_ss (crw s 3 (107 * a) 1 0 107) 4 a (nI 1))) (fun r66 => some (r66, lc_ss (crw s 3 (107 * a) 1 0 107) 4 a (nI 1))) := by
  intro k
  induction k with
  | zero =>
    intro i n h1 h2
    obtain ⟨n, rfl⟩ : ∃ q, n = q + 1 := ⟨n - 1, by omega⟩
    have : i = 107 := by omega
    subst this
    rw [P_X4_save_29]
    simp only [q_0, q_1, q_2, q_3, q_4, q_5, q_6, q_7, q_8, q_10, q_12, q_14, q_20, q_47, q_50, q_99, q_100, q_107, q_120, q_792]
    rw [if_pos (by rw [nI_leI (by omega) (by omega)]; omega), q_ift ((q_okn (by omega)).mpr ha), nI_clamp (by omega), nar1]
    rfl
  | succ k ih =>
    intro i n h1 h2
    obtain ⟨n, rfl⟩ : ∃ q, n = q + 1 := ⟨n - 1, by omega⟩
    have z := ih (i + 1) n (by omega) (by omega)
    have st := crw_step s (a := 3) (b := 1) (107 * a) 0 i
    rw [Nat.zero_add] at st
    have c1 : crw s 3 (107 * a) 1 0 i 1 i = s 1 i := by rw [crw_off _ _ _ _ _ _ (by omega)]
    rw [P_X4_save_29]
    simp (disch := omega) only [q_0, q_1, q_2, q_3, q_4, q_5, q_6, q_7, q_8, q_10, q_12, q_14, q_20, q_47, q_50, q_99, q_100, q_107, q_120, q_792, nI_ltI, nI_leI, nI_eq, q_okn, nI_clamp, nI_add, pk_mul, pk_sub, pk_div, q_nlt9, q_neg0, q_ne9, q_9ne, q_nle9, show ¬ 107 ≤ i by omega, ↓reduceIte, q_ift, q_ifT, lc_let, c1, st]
    exact z
theorem r_save (h : Rel M s) (x : Int32) : Cl kF M (P_X3_save x M) (P_X4_save x s) := by
  obtain ⟨g, d, hb, hi, hr⟩ := h.1.rm h.2.1
  have C : P_X3_save x M = lc_bd (P_X4_in x (nI 0) (nI 1)) _ := rfl
  have D : P_X4_save x s = lc_bd (P_X4_in x (nI 0) (nI 1)) _ := rfl
  rcases in_cases x 0 1 (by omega) (by omega) with hx | ⟨a, ha1, ha2, rfl, hx⟩
  · refine Cl.no (e := 3) (w := nI 1) h (by omega) ?_ ?_ rfl
    · rw [C, bE hx, if_pos n00]
    · rw [D, bE hx, if_pos n00]
      unfold P_X4_save_15
      simp (disch := omega) only [q_0, q_1, q_2, q_3, q_4, q_5, q_6, q_7, q_8, q_10, q_12, q_14, q_20, q_47, q_50, q_99, q_100, q_107, q_120, q_792, nI_ltI, nI_leI, nI_eq, q_okn, nI_clamp, nI_add, pk_mul, pk_sub, pk_div, q_nlt9, q_neg0, q_ne9, q_9ne, q_nle9, ↓reduceIte, lc_let, ss_eq, Nat.reduceLeDiff]
  · obtain ⟨b', c1, c2⟩ := h.1.cp (M (3 + a))
    have z := l_save (lc_ss s 0 0 (nI 0)) (a := a) (by omega) 107 0 lc_FU (by omega) (q_FUn (by omega))
    rw [crw_0] at z
    have hr2 : RM 8 d (lc_ss (crw (lc_ss s 0 0 (nI 0)) 3 (107 * a) 1 0 107) 4 a (nI 1)) g := by
      refine RM_03 hr ?_ ?_ ?_
      · rw [ss_off _ _ _ (by omega), crw_off _ _ _ _ _ _ (by omega), ss_off _ _ _ (by omega)]
      · rw [ss_off _ _ _ (by omega), crw_off _ _ _ _ _ _ (by omega), ss_ne _ _ _ (by omega)]
      · rw [ss_off _ _ _ (by omega), crw_off _ _ _ _ _ _ (by omega), ss_ne _ _ _ (by omega)]
    obtain ⟨r, z1, z2⟩ := q_allCharge hr2 hi
    refine ⟨0, r, va_up (va_up M (3 + a) b') 21 (lc_ss (M 21) 2 a (nI 1)), r, lc_ss (crw (lc_ss s 0 0 (nI 0)) 3 (107 * a) 1 0 107) 4 a (nI 1), ?_, ?_, by rw [lc_up_off _ _ (by omega), lc_up_off _ _ (by omega)], ?_, fun _ => rfl, ?_⟩
    · rw [C, bE hx, if_neg (by decide +kernel)]
      simp (disch := omega) only [q_okn, q_ift, q_ifT, nI_clamp, lc_let]
      rw [bE c1, lc_up_off _ _ (show (21 : Nat) ≠ 3 + a by omega)]
      simp only [q_0, q_1, q_2, q_3, q_4, q_5, q_6, q_7, q_8, q_10, q_12, q_14, q_20, q_47, q_50, q_99, q_100, q_107, q_120, q_792]
      rw [nar1, lc_up_off _ _ (show (0 : Nat) ≠ 21 by omega), lc_up_off _ _ (show (0 : Nat) ≠ 3 + a by omega), hb, bE z1]
    · rw [D, bE hx, if_neg (by decide +kernel)]
      unfold P_X4_save_15
      simp (disch := omega) only [q_0, q_1, q_2, q_3, q_4, q_5, q_6, q_7, q_8, q_10, q_12, q_14, q_20, q_47, q_50, q_99, q_100, q_107, q_120, q_792, nI_ltI, nI_leI, nI_eq, q_okn, nI_clamp, nI_add, pk_mul, pk_sub, pk_div, q_nlt9, q_neg0, q_ne9, q_9ne, q_nle9, ↓reduceIte, lc_let, ss_eq, Nat.le_refl]
      rw [z, bE z2]
    · rw [ss_off _ _ _ (by omega), crw_off _ _ _ _ _ _ (by omega), ss_eq]; rfl
    · obtain ⟨hp, h3, hsl, ⟨f, n, hf, hn, e1, e2, e3, hh⟩, ⟨len, t1, t2, t3, t4⟩⟩ := h
      have S0 : ∀ k, k ≠ 0 → lc_ss (crw (lc_ss s 0 0 (nI 0)) 3 (107 * a) 1 0 107) 4 a (nI 1) 0 k = s 0 k := fun k hk => by
        rw [ss_off _ _ _ (by omega), crw_off _ _ _ _ _ _ (by omega), ss_ne _ _ _ hk]
      have Sr : ∀ r, r ≠ 0 → r ≠ 3 → r ≠ 4 → lc_ss (crw (lc_ss s 0 0 (nI 0)) 3 (107 * a) 1 0 107) 4 a (nI 1) r = s r := fun r h0 h3 h4 => by
        rw [ss_off _ _ _ h4, crw_off _ _ _ _ _ _ h3, ss_off _ _ _ h0]
      refine ⟨?_, by rw [S0 3 (by omega)]; exact h3, fun k hk => ?_, ⟨f, n, hf, hn, by rw [lc_up_off _ _ (by omega), lc_up_off _ _ (by omega)]; exact e1, by rw [lc_up_off _ _ (by omega), lc_up_off _ _ (by omega)]; exact e2, by rw [S0 1 (by omega)]; exact e3, fun i hi => ?_⟩, ⟨len, t1, by rw [lc_up_off _ _ (by omega), lc_up_off _ _ (by omega)]; exact t2, by rw [S0 2 (by omega)]; exact t3, fun i hi => ?_⟩⟩
      · rw [lc_up_off _ _ (by omega), lc_up_off _ _ (by omega), Sr 1 (by omega) (by omega) (by omega)]; exact hp
      · unfold Sl
        rw [lc_up_at, lc_up_off _ _ (show 3 + k ≠ 21 by omega)]
        by_cases q : k = a
        · subst q
          rw [ss_eq, ss_eq, lc_up_at]
          refine Or.inr ⟨rfl, rfl, c2.row (fun j hj => ?_)⟩
          rw [ss_off _ _ _ (by omega), crw_in _ _ _ _ _ _ _ hj, ss_off _ _ _ (by omega), Nat.zero_add]
        · have := hsl k hk
          unfold Sl at this
          rw [ss_ne _ _ _ q, ss_ne _ _ _ q, crw_off _ _ _ _ _ _ (by omega), ss_off _ _ _ (by omega), lc_up_off _ _ (by omega)]
          rcases this with q1 | ⟨q1, q2, q3⟩
          · exact Or.inl q1
          · refine Or.inr ⟨q1, q2, q3.row (fun j hj => ?_)⟩
            rw [ss_off _ _ _ (by omega), crw_out _ _ _ _ _ _ _ (by omega), ss_off _ _ _ (by omega)]
      · rw [lc_up_off _ _ (by omega), lc_up_off _ _ (by omega), Sr 5 (by omega) (by omega) (by omega)]; exact hh i hi
      · rw [lc_up_off _ _ (by omega), lc_up_off _ _ (by omega), Sr 6 (by omega) (by omega) (by omega)]; exact t4 i hi
theorem l_restore (s : lc_St) {a : Nat} (ha : a < 2) : ∀ k i n, i + k = 107 → k < n → P_X4_restore_42 n (nI a) (nI i) (crw s 1 0 3 (107 * a) i) = lc_bd (P_X4_allCharge (lc_ss (crw s 1 0 3 (107 * a) 107) 0 1 (nI 0))) (fun r77 => some (r77, lc_ss (crw s 1 0 3 (107 * a) 107) 0 1 (nI 0))) := by
  intro k
  induction k with
  | zero =>
    intro i n h1 h2
    obtain ⟨n, rfl⟩ : ∃ q, n = q + 1 := ⟨n - 1, by omega⟩
    have : i = 107 := by omega
    subst this
    rw [P_X4_restore_42]
    simp only [q_0, q_1, q_2, q_3, q_4, q_5, q_6, q_7, q_8, q_10, q_12, q_14, q_20, q_47, q_50, q_99, q_100, q_107, q_120, q_792]
    rw [if_pos (by rw [nI_leI (by omega) (by omega)]; omega)]
    rfl
  | succ k ih =>
    intro i n h1 h2
    obtain ⟨n, rfl⟩ : ∃ q, n = q + 1 := ⟨n - 1, by omega⟩
    have z := ih (i + 1) n (by omega) (by omega)
    have st := crw_step s (a := 1) (b := 3) 0 (107 * a) i
    rw [Nat.zero_add] at st
    have c1 : crw s 1 0 3 (107 * a) i 3 (107 * a + i) = s 3 (107 * a + i) := by rw [crw_off _ _ _ _ _ _ (by omega)]
    rw [P_X4_restore_42]
    simp (disch := omega) only [q_0, q_1, q_2, q_3, q_4, q_5, q_6, q_7, q_8, q_10, q_12, q_14, q_20, q_47, q_50, q_99, q_100, q_107, q_120, q_792, nI_ltI, nI_leI, nI_eq, q_okn, nI_clamp, nI_add, pk_mul, pk_sub, pk_div, q_nlt9, q_neg0, q_ne9, q_9ne, q_nle9, show ¬ 107 ≤ i by omega, ↓reduceIte, q_ift, q_ifT, lc_let, c1, st]
    exact z
theorem r_restore (h : Rel M s) (x : Int32) : Cl kG M (P_X3_restore x M) (P_X4_restore x s) := by
  have C : P_X3_restore x M = lc_bd (P_X4_in x (nI 0) (nI 1)) _ := rfl
  have D : P_X4_restore x s = lc_bd (P_X4_in x (nI 0) (nI 1)) _ := rfl
  rcases in_cases x 0 1 (by omega) (by omega) with hx | ⟨a, ha1, ha2, rfl, hx⟩
  · refine Cl.no (e := 3) (w := nI 1) h (by omega) ?_ ?_ rfl
    · rw [C, bE hx, if_pos n00]
    · rw [D, bE hx, if_pos n00]
      unfold P_X4_restore_28
      simp (disch := omega) only [q_0, q_1, q_2, q_3, q_4, q_5, q_6, q_7, q_8, q_10, q_12, q_14, q_20, q_47, q_50, q_99, q_100, q_107, q_120, q_792, nI_ltI, nI_leI, nI_eq, q_okn, nI_clamp, nI_add, pk_mul, pk_sub, pk_div, q_nlt9, q_neg0, q_ne9, q_9ne, q_nle9, ↓reduceIte, lc_let, ss_eq, Nat.reduceLeDiff]
  · rcases h.2.2.1 a (by omega) with ⟨q1, q2⟩ | ⟨q1, q2, q3⟩
    · refine Cl.no (e := 2) (w := nI 2) h (by omega) ?_ ?_ rfl
      · rw [C, bE hx, if_neg (by decide +kernel)]
        simp (disch := omega) only [q_okn, q_ift, q_ifT, nI_clamp, lc_let, q1]
        rw [if_pos n00]
      · rw [D, bE hx, if_neg (by decide +kernel), q_ift ((q_okn (by omega)).mpr (by omega)), nI_clamp (by omega), q2, if_pos n00]
        unfold P_X4_restore_28
        simp (disch := omega) only [q_0, q_1, q_2, q_3, q_4, q_5, q_6, q_7, q_8, q_10, q_12, q_14, q_20, q_47, q_50, q_99, q_100, q_107, q_120, q_792, nI_ltI, nI_leI, nI_eq, q_okn, nI_clamp, nI_add, pk_mul, pk_sub, pk_div, q_nlt9, q_neg0, q_ne9, q_9ne, q_nle9, ↓reduceIte, lc_let, ss_eq, Nat.reduceLeDiff]
    · obtain ⟨b', c1, c2⟩ := q3.cp (M 0)
      have z := l_restore (lc_ss s 0 0 (nI 0)) (a := a) (by omega) 107 0 lc_FU (by omega) (q_FUn (by omega))
      rw [crw_0] at z
      have S0 : ∀ k, k ≠ 0 → k ≠ 1 → lc_ss (crw (lc_ss s 0 0 (nI 0)) 1 0 3 (107 * a) 107) 0 1 (nI 0) 0 k = s 0 k := fun k hk h1 => by
        rw [ss_ne _ _ _ h1, crw_off _ _ _ _ _ _ (by omega), ss_ne _ _ _ hk]
      have Sr : ∀ r, r ≠ 0 → r ≠ 1 → lc_ss (crw (lc_ss s 0 0 (nI 0)) 1 0 3 (107 * a) 107) 0 1 (nI 0) r = s r := fun r h0 h1 => by
        rw [ss_off _ _ _ h0, crw_off _ _ _ _ _ _ h1, ss_off _ _ _ h0]
      have c3 : Pr b' (lc_ss (crw (lc_ss s 0 0 (nI 0)) 1 0 3 (107 * a) 107) 0 1 (nI 0) 1) := c2.row (fun k hk => by
        have zz := crw_in (lc_ss s 0 0 (nI 0)) 1 0 3 (107 * a) 107 k hk
        rw [Nat.zero_add] at zz
        rw [ss_off _ _ _ (by omega), zz, ss_off _ _ _ (by omega)])
      obtain ⟨g, d, hb, hi, hr⟩ := c3.rm (by rw [S0 3 (by omega) (by omega)]; exact h.2.1)
      obtain ⟨r, z1, z2⟩ := q_allCharge hr hi
      refine ⟨0, r, va_up (va_up M 0 b') 20 (lc_ss (M 20) 0 1 (nI 0)), r, lc_ss (crw (lc_ss s 0 0 (nI 0)) 1 0 3 (107 * a) 107) 0 1 (nI 0), ?_, ?_, by rw [lc_up_off _ _ (by omega), lc_up_off _ _ (by omega)], ?_, fun _ => rfl, ?_⟩
      · rw [C, bE hx, if_neg (by decide +kernel)]
        simp (disch := omega) only [q_okn, q_ift, q_ifT, nI_clamp, lc_let, q1]
        rw [if_neg (by decide +kernel), bE c1]
        unfold P_X1_forgetAll
        simp only [lc_let, q_bd, lc_up_off M b' (show (20 : Nat) ≠ 0 by omega), q_0, q_1, q_2, q_3, q_4, q_5, q_6, q_7, q_8, q_10, q_12, q_14, q_20, q_47, q_50, q_99, q_100, q_107, q_120, q_792]
        rw [lc_up_off _ _ (show (0 : Nat) ≠ 20 by omega), lc_up_at, hb, bE z1]
      · rw [D, bE hx, if_neg (by decide +kernel), q_ift ((q_okn (by omega)).mpr (by omega)), nI_clamp (by omega), q2, if_neg (by decide +kernel)]
        unfold P_X4_restore_28
        simp (disch := omega) only [q_0, q_1, q_2, q_3, q_4, q_5, q_6, q_7, q_8, q_10, q_12, q_14, q_20, q_47, q_50, q_99, q_100, q_107, q_120, q_792, nI_ltI, nI_leI, nI_eq, q_okn, nI_clamp, nI_add, pk_mul, pk_sub, pk_div, q_nlt9, q_neg0, q_ne9, q_9ne, q_nle9, ↓reduceIte, lc_let, ss_eq, Nat.le_refl]
        rw [z, bE z2]
      · rw [ss_ne _ _ _ (by omega), crw_off _ _ _ _ _ _ (by omega), ss_eq]; rfl
      · obtain ⟨hp, h3, hsl, ⟨f, n, hf, hn, e1, e2, e3, hh⟩, ⟨len, t1, t2, t3, t4⟩⟩ := h
        refine ⟨by rw [lc_up_off _ _ (by omega), lc_up_at]; exact c3, by rw [S0 3 (by omega) (by omega)]; exact h3, fun k hk => ?_, ⟨f, 0, hf, by omega, by rw [lc_up_at, ss_ne _ _ _ (by omega)]; exact e1, by rw [lc_up_at, ss_eq], by rw [ss_eq], fun i hi => absurd hi (by omega)⟩, ⟨len, t1, by rw [lc_up_off _ _ (by omega), lc_up_off _ _ (by omega)]; exact t2, by rw [S0 2 (by omega) (by omega)]; exact t3, fun i hi => ?_⟩⟩
        · have := hsl k hk
          unfold Sl at this ⊢
          rw [lc_up_off _ _ (by omega), lc_up_off _ _ (by omega), lc_up_off _ _ (by omega), lc_up_off _ _ (by omega), Sr 4 (by omega) (by omega), Sr 3 (by omega) (by omega)]
          exact this
        · rw [lc_up_off _ _ (by omega), lc_up_off _ _ (by omega), Sr 6 (by omega) (by omega)]; exact t4 i hi
/-- two calls that never throw -/
theorem r_clearText (h : Rel M s) : ∃ r M' s', P_X3_clearText M = some (r, M') ∧ P_X4_clearText s = some (r, s') ∧ M' 22 = M 22 ∧ Rel M' s' := by
  obtain ⟨len, t1, t2, t3, t4⟩ := h.2.2.2.2
  refine ⟨nI len, va_up M 19 (lc_ss (M 19) 0 0 (nI 0)), lc_ss (lc_ss s 0 0 (nI 0)) 0 2 (nI 0), ?_, ?_, lc_up_off _ _ (by omega), ?_⟩
  · unfold P_X3_clearText P_X2_becomeEmpty
    simp only [lc_let, q_bd, q_0, q_1, q_2, q_3, q_4, q_5, q_6, q_7, q_8, q_10, q_12, q_14, q_20, q_47, q_50, q_99, q_100, q_107, q_120, q_792, t2]
  · unfold P_X4_clearText
    simp only [lc_let, q_0, q_1, q_2, q_3, q_4, q_5, q_6, q_7, q_8, q_10, q_12, q_14, q_20, q_47, q_50, q_99, q_100, q_107, q_120, q_792]
    rw [ss_ne _ _ _ (by omega), t3]
  · obtain ⟨hp, h3, hsl, ⟨f, n, hf, hn, e1, e2, e3, hh⟩, _⟩ := h
    have S0 : ∀ k, k ≠ 0 → k ≠ 2 → lc_ss (lc_ss s 0 0 (nI 0)) 0 2 (nI 0) 0 k = s 0 k := fun k hk h1 => by
      rw [ss_ne _ _ _ h1, ss_ne _ _ _ hk]
    have Sr : ∀ r, r ≠ 0 → lc_ss (lc_ss s 0 0 (nI 0)) 0 2 (nI 0) r = s r := fun r h0 => by
      rw [ss_off _ _ _ h0, ss_off _ _ _ h0]
    refine ⟨by rw [lc_up_off _ _ (by omega), Sr 1 (by omega)]; exact hp, by rw [S0 3 (by omega) (by omega)]; exact h3, fun k hk => ?_, ⟨f, n, hf, hn, by rw [lc_up_off _ _ (by omega)]; exact e1, by rw [lc_up_off _ _ (by omega)]; exact e2, by rw [S0 1 (by omega) (by omega)]; exact e3, fun i hi => ?_⟩, ⟨0, by omega, by rw [lc_up_at, ss_eq], by rw [ss_eq], fun i hi => absurd hi (by omega)⟩⟩
    · have := hsl k hk
      unfold Sl at this ⊢
      rw [lc_up_off _ _ (by omega), lc_up_off _ _ (by omega), Sr 4 (by omega), Sr 3 (by omega)]
      exact this
    · rw [lc_up_off _ _ (by omega), Sr 5 (by omega)]; exact hh i hi
theorem narC {v : Nat} (h : v < 256) : vp_nar .char ((nI v).toUInt32 % 65536).toInt32 = nI v := by
  rw [pk_vc, pk_char, pk_tn (by omega), Nat.mod_eq_of_lt (by omega)]
theorem r_append (h : Rel M s) (x : Int32) : Cl kD M (P_X3_append x M) (P_X4_append x s) := by
  obtain ⟨len, t1, t2, t3, t4⟩ := h.2.2.2.2
  have q255 : (255 : Int32) = nI 255 := by decide +kernel
  have C : P_X3_append x M = lc_bd (P_X4_in x (nI 0) (nI 255)) _ := rfl
  have D : P_X4_append x s = lc_bd (P_X4_in x (nI 0) (nI 255)) _ := rfl
  rcases in_cases x 0 255 (by omega) (by omega) with hx | ⟨v, hv1, hv2, rfl, hx⟩
  · refine Cl.no (e := 1) (w := nI 1) h (by omega) ?_ ?_ rfl
    · rw [C, bE hx, if_pos n00]
    · rw [D, bE hx, if_pos n00]
      unfold P_X4_append_30
      simp (disch := omega) only [q_0, q_1, q_2, q_3, q_4, q_5, q_6, q_7, q_8, q_10, q_12, q_14, q_20, q_47, q_50, q_99, q_100, q_107, q_120, q_792, nI_ltI, nI_leI, nI_eq, q_okn, nI_clamp, nI_add, pk_mul, pk_sub, pk_div, q_nlt9, q_neg0, q_ne9, q_9ne, q_nle9, ↓reduceIte, lc_let, ss_eq, Nat.reduceLeDiff]
  · by_cases hl : len < 120
    · refine ⟨0, nI (len + 1), va_up M 19 (lc_ss (lc_ss (M 19) 1 len (nI v)) 0 0 (nI (len + 1))), nI (len + 1), lc_ss (lc_ss (lc_ss s 0 0 (nI 0)) 6 len (nI v)) 0 2 (nI (len + 1)), ?_, ?_, lc_up_off _ _ (by omega), by rw [ss_ne _ _ _ (by omega), ss_off _ _ _ (by omega), ss_eq]; rfl, fun _ => rfl, ?_⟩
      · rw [C, bE hx, if_neg (by decide +kernel), t2, if_pos (by simp only [q_0, q_1, q_2, q_3, q_4, q_5, q_6, q_7, q_8, q_10, q_12, q_14, q_20, q_47, q_50, q_99, q_100, q_107, q_120, q_792]; rw [nI_ltI (by omega) (by omega)]; exact hl)]
        unfold P_X2_put
        rw [t2, if_neg (by simp only [q_0, q_1, q_2, q_3, q_4, q_5, q_6, q_7, q_8, q_10, q_12, q_14, q_20, q_47, q_50, q_99, q_100, q_107, q_120, q_792]; rw [nI_leI (by omega) (by omega)]; omega), q_ift ((q_okn (by omega)).mpr hl), nI_clamp (by omega)]
        have hc : (nI v).toUInt32 % 65536 = ((nI v).toUInt32 % 65536).toInt32.toUInt32 := by simp
        have n2 : vp_nar .char ((nI v).toUInt32 % 65536).toInt32 = nI v := narC (by omega)
        simp only [lc_let]
        rw [n2, ss_off _ _ _ (show (0 : Nat) ≠ 1 by omega), t2]
        simp only [q_0, q_1, q_2, q_3, q_4, q_5, q_6, q_7, q_8, q_10, q_12, q_14, q_20, q_47, q_50, q_99, q_100, q_107, q_120, q_792, nI_add]
        rw [q_bd2, ss_eq]
      · rw [D, bE hx, if_neg (by decide +kernel), t3, if_neg (by simp only [q_0, q_1, q_2, q_3, q_4, q_5, q_6, q_7, q_8, q_10, q_12, q_14, q_20, q_47, q_50, q_99, q_100, q_107, q_120, q_792]; rw [nI_eq (by omega) (by omega)]; omega)]
        unfold P_X4_append_30
        simp only [lc_let, q_0, q_1, q_2, q_3, q_4, q_5, q_6, q_7, q_8, q_10, q_12, q_14, q_20, q_47, q_50, q_99, q_100, q_107, q_120, q_792]
        rw [ss_eq, if_pos (by decide +kernel), ss_ne _ _ _ (show (2 : Nat) ≠ 0 by omega), t3, q_ift ((q_okn (by omega)).mpr hl), nI_clamp (by omega), ss_off _ _ _ (show (0 : Nat) ≠ 6 by omega), ss_ne _ _ _ (show (2 : Nat) ≠ 0 by omega), t3, nI_add, ss_eq]
      · obtain ⟨hp, h3, hsl, ⟨f, n, hf, hn, e1, e2, e3, hh⟩, _⟩ := h
        have S0 : ∀ k, k ≠ 0 → k ≠ 2 → lc_ss (lc_ss (lc_ss s 0 0 (nI 0)) 6 len (nI v)) 0 2 (nI (len + 1)) 0 k = s 0 k := fun k hk h1 => by
          rw [ss_ne _ _ _ h1, ss_off _ _ _ (by omega), ss_ne _ _ _ hk]
        have Sr : ∀ r, r ≠ 0 → r ≠ 6 → lc_ss (lc_ss (lc_ss s 0 0 (nI 0)) 6 len (nI v)) 0 2 (nI (len + 1)) r = s r := fun r h0 h6 => by
          rw [ss_off _ _ _ h0, ss_off _ _ _ h6, ss_off _ _ _ h0]
        refine ⟨by rw [lc_up_off _ _ (by omega), Sr 1 (by omega) (by omega)]; exact hp, by rw [S0 3 (by omega) (by omega)]; exact h3, fun k hk => ?_, ⟨f, n, hf, hn, by rw [lc_up_off _ _ (by omega)]; exact e1, by rw [lc_up_off _ _ (by omega)]; exact e2, by rw [S0 1 (by omega) (by omega)]; exact e3, fun i hi => ?_⟩, ⟨len + 1, by omega, by rw [lc_up_at, ss_eq], by rw [ss_eq], fun i hi => ?_⟩⟩
        · have := hsl k hk
          unfold Sl at this ⊢
          rw [lc_up_off _ _ (by omega), lc_up_off _ _ (by omega), Sr 4 (by omega) (by omega), Sr 3 (by omega) (by omega)]
          exact this
        · rw [lc_up_off _ _ (by omega), Sr 5 (by omega) (by omega)]; exact hh i hi
        · have A1 : lc_ss (lc_ss (M 19) 1 len (nI v)) 0 0 (nI (len + 1)) 1 = lc_ss (M 19) 1 len (nI v) 1 := ss_off _ _ _ (by omega)
          have A2 : lc_ss (lc_ss (lc_ss s 0 0 (nI 0)) 6 len (nI v)) 0 2 (nI (len + 1)) 6 = lc_ss (lc_ss s 0 0 (nI 0)) 6 len (nI v) 6 := ss_off _ _ _ (by omega)
          rw [lc_up_at, A1, A2]
          by_cases q : i = len
          · subst q
            exact ⟨v, by omega, by rw [ss_eq], by rw [ss_eq]⟩
          · obtain ⟨u, u1, u2, u3⟩ := t4 i (by omega)
            exact ⟨u, u1, by rw [ss_ne _ _ _ q]; exact u2, by rw [ss_ne _ _ _ q, ss_off _ _ _ (by omega)]; exact u3⟩
    · refine Cl.no (e := 2) (w := nI 2) h (by omega) ?_ ?_ rfl
      · rw [C, bE hx, if_neg (by decide +kernel), t2, if_neg (by simp only [q_0, q_1, q_2, q_3, q_4, q_5, q_6, q_7, q_8, q_10, q_12, q_14, q_20, q_47, q_50, q_99, q_100, q_107, q_120, q_792]; rw [nI_ltI (by omega) (by omega)]; exact hl)]
      · rw [D, bE hx, if_neg (by decide +kernel), t3, if_pos (by simp only [q_0, q_1, q_2, q_3, q_4, q_5, q_6, q_7, q_8, q_10, q_12, q_14, q_20, q_47, q_50, q_99, q_100, q_107, q_120, q_792]; rw [nI_eq (by omega) (by omega)]; omega)]
        unfold P_X4_append_30
        simp (disch := omega) only [q_0, q_1, q_2, q_3, q_4, q_5, q_6, q_7, q_8, q_10, q_12, q_14, q_20, q_47, q_50, q_99, q_100, q_107, q_120, q_792, nI_ltI, nI_leI, nI_eq, q_okn, nI_clamp, nI_add, pk_mul, pk_sub, pk_div, q_nlt9, q_neg0, q_ne9, q_9ne, q_nle9, ↓reduceIte, lc_let, ss_eq, Nat.reduceLeDiff]
