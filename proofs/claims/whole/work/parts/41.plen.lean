/-! ===== the pure claim: lend, repay ===== -/
variable {M M' : lc_MM} {s s' : lc_St}
theorem le00 : nI 0 ≤ (0 : Int32) := by decide +kernel
theorem r_lend (h : Rel M s) (x y z w : Int32) : Cl kC M (P_X3_lend x y z w M) (P_X4_lend x y z w s) := by
  obtain ⟨g, d, hb, hi, hr⟩ := h.1.rm h.2.1
  have h8 := hi.1
  -- a refusal: what whyNoLend says
  have no : ∀ e k, e ≠ 0 → 0 < k → k < 4 → kC e = some (nI k) → P_X3_lend x y z w M = some (e, 0, M) → P_X4_whyNoLend x y z w s = some (nI k) → Cl kC M (P_X3_lend x y z w M) (P_X4_lend x y z w s) := by
    intro e k he hk hk4 hkC q1 q2
    refine Cl.no (e := e) (w := nI k) h he q1 ?_ hkC
    unfold P_X4_lend
    rw [bE q2]
    simp only [lc_let, ss_eq]
    rw [if_neg (nI_nle hk (by omega))]; rfl
  have noc : P_X0_hasCell x (M 0) = some (nI 0) → P_X4_isCell x s = some (nI 0) → Cl kC M (P_X3_lend x y z w M) (P_X4_lend x y z w s) := by
    intro q1 q2
    refine no 3 1 (by omega) (by omega) (by omega) rfl ?_ ?_
    · unfold P_X3_lend; rw [bE q1, if_pos n00]
    · unfold P_X4_whyNoLend; rw [bE q2, if_pos n00]; rfl
  rcases q_cases x with hx | ⟨a, ha31, rfl⟩
  · exact noc (x0_hasn hx) (x4_isCelln hx)
  · have a1 := x0_has hi ha31
    have a2 := x4_isCell hr hi ha31
    by_cases ha : a < g 0 0
    · rw [if_pos ha] at a1 a2
      have noy : P_X0_hasCell y (M 0) = some (nI 0) → P_X4_isCell y s = some (nI 0) → Cl kC M (P_X3_lend (nI a) y z w M) (P_X4_lend (nI a) y z w s) := by
        intro q1 q2
        refine no 3 1 (by omega) (by omega) (by omega) rfl ?_ ?_
        · unfold P_X3_lend; rw [hb, bE a1, if_neg (by decide +kernel), ← hb, bE q1, if_pos n00]
        · unfold P_X4_whyNoLend; rw [bE a2, if_neg (by decide +kernel), bE q2, if_pos n00]; rfl
      rcases q_cases y with hy | ⟨b, hb31, rfl⟩
      · exact noy (x0_hasn hy) (x4_isCelln hy)
      · have b1 := x0_has hi hb31
        have b2 := x4_isCell hr hi hb31
        by_cases hbc : b < g 0 0
        · rw [if_pos hbc] at b1 b2
          by_cases hab : a = b
          · refine no 1 2 (by omega) (by omega) (by omega) rfl ?_ ?_
            · unfold P_X3_lend; rw [hb, bE a1, if_neg (by decide +kernel), bE b1, if_neg (by decide +kernel), if_pos (by rw [hab])]
            · unfold P_X4_whyNoLend; rw [bE a2, if_neg (by decide +kernel), bE b2, if_neg (by decide +kernel), if_pos (by rw [hab])]; rfl
          · have hab' : ¬ nI a = nI b := by rw [nI_eq (by omega) (by omega)]; exact hab
            rcases in_cases z 1 99 (by omega) (by omega) with hz | ⟨u, hu1, hu2, rfl, hz⟩
            · refine no 1 2 (by omega) (by omega) (by omega) rfl ?_ ?_
              · have hu := x3_units z hz (by omega)
                unfold P_X3_lend; rw [hb, bE a1, if_neg (by decide +kernel), bE b1, if_neg (by decide +kernel), if_neg hab', bE hu, if_pos n00]
              · have hz' : P_X4_in z 1 99 = some (nI 0) := hz
                unfold P_X4_whyNoLend; rw [bE a2, if_neg (by decide +kernel), bE b2, if_neg (by decide +kernel), if_neg hab', bE hz', if_pos n00]; rfl
            · have hu := x3_units (nI u) hz (by omega)
              have hz' : P_X4_in (nI u) 1 99 = some (nI 1) := hz
              rcases in_cases w 0 50 (by omega) (by omega) with hw | ⟨r, hr1, hr2, rfl, hw⟩
              · refine no 1 2 (by omega) (by omega) (by omega) rfl ?_ ?_
                · have hw' : P_X3_isWithin w 0 50 = some (nI 0) := hw
                  unfold P_X3_lend; rw [hb, bE a1, if_neg (by decide +kernel), bE b1, if_neg (by decide +kernel), if_neg hab', bE hu, if_neg (by decide +kernel), bE hw', if_pos n00]
                · have hw' : P_X4_in w 0 50 = some (nI 0) := hw
                  unfold P_X4_whyNoLend; rw [bE a2, if_neg (by decide +kernel), bE b2, if_neg (by decide +kernel), if_neg hab', bE hz', if_neg (by decide +kernel), bE hw', if_pos n00]; rfl
              · have hw' : P_X3_isWithin (nI r) 0 50 = some (nI 1) := hw
                have hcl := x0_canLend hi ha hbc hab (show u ≤ 1000 by omega)
                have hwhy := x4_whyLend hr hi ha hbc hab hu1 hu2 hr2
                by_cases hG : clG g a b u
                · rw [if_pos hG] at hcl hwhy
                  obtain ⟨M1, s1, p1, p2, p3, p4, p5, p6, p7, p8, p9, p10⟩ := q_rem2 h hr
                  obtain ⟨m', q1, q2, q3, q4⟩ := x4_makeLoan p4 hi ha hbc hab hu1 hu2 hr2 hG
                  have hL := x0_makeLoan (r := r) hi ha hbc hab (show u ≤ 1000 by omega)
                  rw [if_pos hG] at hL
                  refine Cl.yes (M1 := M1) (s1 := s1) (r := nI (arr u a b)) rfl p3 p7 p8 q2 q3 q4.w ?_ ?_
                  · unfold P_X3_lend; rw [hb, bE a1, if_neg (by decide +kernel), bE b1, if_neg (by decide +kernel), if_neg hab', bE hu, if_neg (by decide +kernel), bE hw', if_neg (by decide +kernel), bE hcl, if_neg (by decide +kernel), bE p1, p5, hb, bE2 hL]
                    rfl
                  · unfold P_X4_lend
                    rw [bE hwhy]
                    simp only [lc_let, ss_eq]
                    rw [if_pos le00, bE p2, bE2 q1]
                · rw [if_neg hG] at hcl hwhy
                  refine no 2 3 (by omega) (by omega) (by omega) rfl ?_ hwhy
                  unfold P_X3_lend; rw [hb, bE a1, if_neg (by decide +kernel), bE b1, if_neg (by decide +kernel), if_neg hab', bE hu, if_neg (by decide +kernel), bE hw', if_neg (by decide +kernel), bE hcl, if_pos n00]
        · rw [if_neg hbc] at b1 b2
          exact noy (by rw [hb]; exact b1) b2
    · rw [if_neg ha] at a1 a2
      exact noc (by rw [hb]; exact a1) a2
theorem r_repay (h : Rel M s) (x y : Int32) : Cl kC M (P_X3_repay x y M) (P_X4_repay x y s) := by
  obtain ⟨g, d, hb, hi, hr⟩ := h.1.rm h.2.1
  have h12 := hi.2.1
  have no : ∀ e k, e ≠ 0 → 0 < k → k < 4 → kC e = some (nI k) → P_X3_repay x y M = some (e, 0, M) → P_X4_whyNoRepay x y s = some (nI k) → Cl kC M (P_X3_repay x y M) (P_X4_repay x y s) := by
    intro e k he hk hk4 hkC q1 q2
    refine Cl.no (e := e) (w := nI k) h he q1 ?_ hkC
    unfold P_X4_repay
    rw [bE q2]
    simp only [lc_let, ss_eq]
    rw [if_neg (nI_nle hk (by omega))]; rfl
  have noc : P_X0_hasLoan x (M 0) = some (nI 0) → P_X4_isLoan x s = some (nI 0) → Cl kC M (P_X3_repay x y M) (P_X4_repay x y s) := by
    intro q1 q2
    refine no 3 1 (by omega) (by omega) (by omega) rfl ?_ ?_
    · unfold P_X3_repay; rw [bE q1, if_pos n00]
    · unfold P_X4_whyNoRepay; rw [bE q2, if_pos n00]; rfl
  rcases q_cases x with hx | ⟨i, hi31, rfl⟩
  · exact noc (x0_hasLn hx) (x4_isLoann hx)
  · have a1 := x0_hasL hi hi31
    have a2 := x4_isLoan hr hi hi31
    by_cases ha : i < g 0 1
    · rw [if_pos ha] at a1 a2
      rcases in_cases y 1 99 (by omega) (by omega) with hz | ⟨u, hu1, hu2, rfl, hz⟩
      · refine no 1 2 (by omega) (by omega) (by omega) rfl ?_ ?_
        · have hu := x3_units y hz (by omega)
          unfold P_X3_repay; rw [hb, bE a1, if_neg (by decide +kernel), bE hu, if_pos n00]
        · have hz' : P_X4_in y 1 99 = some (nI 0) := hz
          unfold P_X4_whyNoRepay; rw [bE a2, if_neg (by decide +kernel), bE hz', if_pos n00]; rfl
      · have hu := x3_units (nI u) hz (by omega)
        have hcl := x0_canPay hi ha (show u ≤ 1000 by omega)
        have hwhy := x4_whyPay hr hi ha hu1 hu2
        by_cases hG : cpG g i u
        · rw [if_pos hG] at hcl hwhy
          obtain ⟨M1, s1, p1, p2, p3, p4, p5, p6, p7, p8, p9, p10⟩ := q_rem2 h hr
          obtain ⟨r, g', m', q1, q2, q3, q4, q5, q6⟩ := q_pay p4 hi ha hu2 hG
          refine Cl.yes (M1 := M1) (s1 := s1) (r := nI r) rfl p3 p7 p8 q3 q4 q5.w ?_ ?_
          · unfold P_X3_repay; rw [hb, bE a1, if_neg (by decide +kernel), bE hu, if_neg (by decide +kernel), bE hcl, if_neg (by decide +kernel), bE p1, p5, hb, bE2 q1]
            rfl
          · unfold P_X4_repay
            rw [bE hwhy]
            simp only [lc_let, ss_eq]
            rw [if_pos le00, bE p2, bE2 q2]
        · rw [if_neg hG] at hcl hwhy
          refine no 2 3 (by omega) (by omega) (by omega) rfl ?_ hwhy
          unfold P_X3_repay; rw [hb, bE a1, if_neg (by decide +kernel), bE hu, if_neg (by decide +kernel), bE hcl, if_pos n00]
    · rw [if_neg ha] at a1 a2
      exact noc (by rw [hb]; exact a1) a2
/-! ===== undo, save, restore ===== -/
theorem l_undo (s : lc_St) {a : Nat} (ha : a < 14) (h : s 0 1 = nI a) : ∀ k i n, i + k = 107 → k < n → P_X4_undo_37 n (nI i) (crw s 1 0 5 (107 * a) i) = some (nI a, crw s 1 0 5 (107 * a) 107) := by
  intro k
  induction k with
  | zero =>
    intro i n h1 h2
    obtain ⟨n, rfl⟩ : ∃ q, n = q + 1 := ⟨n - 1, by omega⟩
    have : i = 107 := by omega
    subst this
    rw [P_X4_undo_37]
    simp only [q_0, q_1, q_2, q_3, q_4, q_5, q_6, q_7, q_8, q_10, q_12, q_14, q_20, q_47, q_50, q_99, q_100, q_107, q_120, q_792]
    rw [if_pos (by rw [nI_leI (by omega) (by omega)]; omega), crw_off _ _ _ _ _ _ (show (0 : Nat) ≠ 1 by omega), h]
  | succ k ih =>
    intro i n h1 h2
    obtain ⟨n, rfl⟩ : ∃ q, n = q + 1 := ⟨n - 1, by omega⟩
    have z := ih (i + 1) n (by omega) (by omega)
    have st := crw_step s (a := 1) (b := 5) 0 (107 * a) i
    rw [Nat.zero_add] at st
    have c0 : crw s 1 0 5 (107 * a) i 0 1 = nI a := by rw [crw_off _ _ _ _ _ _ (by omega), h]
    have c1 : crw s 1 0 5 (107 * a) i 5 (107 * a + i) = s 5 (107 * a + i) := by rw [crw_off _ _ _ _ _ _ (by omega)]
    rw [P_X4_undo_37]
    simp (disch := omega) only [q_0, q_1, q_2, q_3, q_4, q_5, q_6, q_7, q_8, q_10, q_12, q_14, q_20, q_47, q_50, q_99, q_100, q_107, q_120, q_792, nI_ltI, nI_leI, nI_eq, q_okn, nI_clamp, nI_add, pk_mul, pk_sub, pk_div, q_nlt9, q_neg0, q_ne9, q_9ne, q_nle9, show ¬ 107 ≤ i by omega, ↓reduceIte, q_ift, q_ifT, lc_let, c0, c1, st]
    exact z
theorem r_undo (h : Rel M s) : Cl kE M (P_X3_undo M) (P_X4_undo s) := by
  obtain ⟨hp, h3, hsl, ⟨f, n, hf, hn, e1, e2, e3, hh⟩, htx⟩ := id h
  by_cases hn0 : n = 0
  · subst hn0
    refine Cl.no (e := 2) (w := nI 1) h (by omega) ?_ ?_ rfl
    · unfold P_X3_undo
      rw [e2, if_pos n00]
    · unfold P_X4_undo P_X4_undo_13
      rw [e3, if_pos n00]
      simp (disch := omega) only [q_0, q_1, q_2, q_3, q_4, q_5, q_6, q_7, q_8, q_10, q_12, q_14, q_20, q_47, q_50, q_99, q_100, q_107, q_120, q_792, nI_ltI, nI_leI, nI_eq, q_okn, nI_clamp, nI_add, pk_mul, pk_sub, pk_div, q_nlt9, q_neg0, q_ne9, q_9ne, q_nle9, ↓reduceIte, lc_let, ss_eq, Nat.reduceLeDiff]
  · have hj : (f + (n - 1)) % 14 < 14 := Nat.mod_lt _ (by omega)
    obtain ⟨b', c1, c2⟩ := (hh (n - 1) (by omega)).cp (M 0)
    have hne : ¬ nI n = (0 : Int32) := nI_ne0 (by omega) (by omega)
    have u1 := l_undo (lc_ss (lc_ss s 0 0 (nI 0)) 0 1 (nI (n - 1))) (a := n - 1) (by omega) (ss_eq _ _ _ _) 107 0 lc_FU (by omega) (q_FUn (by omega))
    rw [crw_0] at u1
    refine ⟨0, nI (n - 1), va_up (va_up M 20 (lc_ss (M 20) 0 1 (nI (n - 1)))) 0 b', nI (n - 1), crw (lc_ss (lc_ss s 0 0 (nI 0)) 0 1 (nI (n - 1))) 1 0 5 (107 * (n - 1)) 107, ?_, ?_, by rw [lc_up_off _ _ (by omega), lc_up_off _ _ (by omega)], ?_, fun _ => rfl, ?_⟩
    · unfold P_X3_undo P_X1_takeBack
      rw [e2, if_neg hne, if_neg (nI_nle (by omega) (by omega))]
      have o20 : va_up M 20 (lc_ss (M 20) 0 1 (nI (n - 1))) 20 = lc_ss (M 20) 0 1 (nI (n - 1)) := lc_up_at _ _ _
      have o5 : va_up M 20 (lc_ss (M 20) 0 1 (nI (n - 1))) (5 + (f + (n - 1)) % 14) = M (5 + (f + (n - 1)) % 14) := lc_up_off _ _ (by omega)
      have o0 : va_up M 20 (lc_ss (M 20) 0 1 (nI (n - 1))) 0 = M 0 := lc_up_off _ _ (by omega)
      simp only [q_0, q_1, q_2, q_3, q_4, q_5, q_6, q_7, q_8, q_10, q_12, q_14, q_20, q_47, q_50, q_99, q_100, q_107, q_120, q_792, lc_let]
      rw [pk_sub (by omega), o20, ss_eq, ss_ne _ _ _ (show (0 : Nat) ≠ 1 by omega), e1, nI_add, q_mod14 (by omega), q_ift ((q_okn (by omega)).mpr hj), nI_clamp (by omega), o5, o0, bE c1, q_bd, lc_up_off _ _ (show (20 : Nat) ≠ 0 by omega), o20, ss_eq]
    · unfold P_X4_undo P_X4_undo_13
      rw [e3, if_neg hne]
      simp (disch := omega) only [q_0, q_1, q_2, q_3, q_4, q_5, q_6, q_7, q_8, q_10, q_12, q_14, q_20, q_47, q_50, q_99, q_100, q_107, q_120, q_792, nI_ltI, nI_leI, nI_eq, q_okn, nI_clamp, nI_add, pk_mul, pk_sub, pk_div, q_nlt9, q_neg0, q_ne9, q_9ne, q_nle9, ↓reduceIte, lc_let, ss_eq, ss_ne, Nat.le_refl, e3]
      exact u1
    · rw [crw_off _ _ _ _ _ _ (by omega), ss_ne _ _ _ (by omega), ss_eq]; rfl
    · have r5 : crw (lc_ss (lc_ss s 0 0 (nI 0)) 0 1 (nI (n - 1))) 1 0 5 (107 * (n - 1)) 107 5 = s 5 := by rw [crw_off _ _ _ _ _ _ (by omega), ss_off _ _ _ (by omega), ss_off _ _ _ (by omega)]
      have r4 : crw (lc_ss (lc_ss s 0 0 (nI 0)) 0 1 (nI (n - 1))) 1 0 5 (107 * (n - 1)) 107 4 = s 4 := by rw [crw_off _ _ _ _ _ _ (by omega), ss_off _ _ _ (by omega), ss_off _ _ _ (by omega)]
      have r3 : crw (lc_ss (lc_ss s 0 0 (nI 0)) 0 1 (nI (n - 1))) 1 0 5 (107 * (n - 1)) 107 3 = s 3 := by rw [crw_off _ _ _ _ _ _ (by omega), ss_off _ _ _ (by omega), ss_off _ _ _ (by omega)]
      have r6 : crw (lc_ss (lc_ss s 0 0 (nI 0)) 0 1 (nI (n - 1))) 1 0 5 (107 * (n - 1)) 107 6 = s 6 := by rw [crw_off _ _ _ _ _ _ (by omega), ss_off _ _ _ (by omega), ss_off _ _ _ (by omega)]
      refine ⟨?_, ?_, fun k hk => ?_, ⟨f, n - 1, hf, by omega, ?_, ?_, ?_, fun i hii => ?_⟩, ?_⟩
      · rw [lc_up_at]
        refine c2.row (fun k hk => ?_)
        have z := crw_in (lc_ss (lc_ss s 0 0 (nI 0)) 0 1 (nI (n - 1))) 1 0 5 (107 * (n - 1)) 107 k hk
        rw [Nat.zero_add] at z
        rw [z, ss_off _ _ _ (by omega), ss_off _ _ _ (by omega)]
      · rw [crw_off _ _ _ _ _ _ (by omega), ss_ne _ _ _ (by omega), ss_ne _ _ _ (by omega)]; exact h3
      · have := hsl k hk
        unfold Sl at this ⊢
        rw [r3, r4, lc_up_off _ _ (by omega), lc_up_off _ _ (by omega), lc_up_off _ _ (by omega), lc_up_off _ _ (by omega)]
        exact this
      · rw [lc_up_off _ _ (by omega), lc_up_at, ss_ne _ _ _ (by omega)]; exact e1
      · rw [lc_up_off _ _ (by omega), lc_up_at, ss_eq]
      · rw [crw_off _ _ _ _ _ _ (by omega), ss_eq]
      · rw [r5, lc_up_off _ _ (by omega), lc_up_off _ _ (by omega)]
        exact hh i (by omega)
      · obtain ⟨len, t1, t2, t3, t4⟩ := htx
        refine ⟨len, t1, by rw [lc_up_off _ _ (by omega), lc_up_off _ _ (by omega)]; exact t2, ?_, fun i hi => ?_⟩
        · rw [crw_off _ _ _ _ _ _ (by omega), ss_ne _ _ _ (by omega), ss_ne _ _ _ (by omega)]; exact t3
        · rw [lc_up_off _ _ (by omega), lc_up_off _ _ (by omega), r6]
          exact t4 i hi
