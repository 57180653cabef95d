/-! ===== the pure claim: draw ===== -/
variable {M M' : lc_MM} {s s' : lc_St}
theorem l_dr62 (m : lc_St) (w : Int32) : ∀ k i n, i + k = 107 → k < n → P_X4_draw_62 n w (nI i) (crw m 8 0 1 0 i) = lc_bd (P_X4_putBack (crw m 8 0 1 0 107)) (fun s5 => lc_bd (P_X4_remember s5) (fun s6 => P_X4_draw_96 lc_FU w (nI 0) s6)) := by
  intro k
  induction k with
  | zero =>
    intro i n h h1
    obtain ⟨n, rfl⟩ : ∃ q, n = q + 1 := ⟨n - 1, by omega⟩
    have : i = 107 := by omega
    subst this
    rw [P_X4_draw_62]
    simp only [q_0, q_1, q_2, q_3, q_4, q_5, q_6, q_7, q_8, q_10, q_12, q_14, q_20, q_47, q_50, q_99, q_100, q_107, q_120, q_792]
    rw [if_pos (by rw [nI_leI (by omega) (by omega)]; omega)]
  | succ k ih =>
    intro i n h h1
    obtain ⟨n, rfl⟩ : ∃ q, n = q + 1 := ⟨n - 1, by omega⟩
    have z := ih (i + 1) n (by omega) (by omega)
    have s := crw_step m (a := 8) (b := 1) 0 0 i
    rw [Nat.zero_add] at s
    rw [P_X4_draw_62]
    simp (disch := omega) only [q_0, q_1, q_2, q_3, q_4, q_5, q_6, q_7, q_8, q_10, q_12, q_14, q_20, q_47, q_50, q_99, q_100, q_107, q_120, q_792, nI_ltI, nI_leI, nI_eq, q_okn, nI_clamp, nI_add, pk_mul, pk_sub, pk_div, q_nlt9, q_neg0, q_ne9, q_9ne, q_nle9, show ¬ 107 ≤ i by omega, ↓reduceIte, q_ift, q_ifT, lc_let, crw_off, s]
    exact z
theorem l_dr96 (m : lc_St) (w : Int32) : ∀ k i n, i + k = 107 → k < n → P_X4_draw_96 n w (nI i) (crw m 1 0 8 0 i) = some (w, crw m 1 0 8 0 107) := by
  intro k
  induction k with
  | zero =>
    intro i n h h1
    obtain ⟨n, rfl⟩ : ∃ q, n = q + 1 := ⟨n - 1, by omega⟩
    have : i = 107 := by omega
    subst this
    rw [P_X4_draw_96]
    simp only [q_0, q_1, q_2, q_3, q_4, q_5, q_6, q_7, q_8, q_10, q_12, q_14, q_20, q_47, q_50, q_99, q_100, q_107, q_120, q_792]
    rw [if_pos (by rw [nI_leI (by omega) (by omega)]; omega)]
  | succ k ih =>
    intro i n h h1
    obtain ⟨n, rfl⟩ : ∃ q, n = q + 1 := ⟨n - 1, by omega⟩
    have z := ih (i + 1) n (by omega) (by omega)
    have s := crw_step m (a := 1) (b := 8) 0 0 i
    rw [Nat.zero_add] at s
    rw [P_X4_draw_96]
    simp (disch := omega) only [q_0, q_1, q_2, q_3, q_4, q_5, q_6, q_7, q_8, q_10, q_12, q_14, q_20, q_47, q_50, q_99, q_100, q_107, q_120, q_792, nI_ltI, nI_leI, nI_eq, q_okn, nI_clamp, nI_add, pk_mul, pk_sub, pk_div, q_nlt9, q_neg0, q_ne9, q_9ne, q_nle9, show ¬ 107 ≤ i by omega, ↓reduceIte, q_ift, q_ifT, lc_let, crw_off, s]
    exact z
theorem r_draw (h : Rel M s) (x : Int32) : Cl kD M (P_X3_draw x M) (P_X4_draw x s) := by
  obtain ⟨g, d, hcp, hi, hr, -⟩ := q_try h (M 1)
  rcases in_cases x 1 99 (by omega) (by omega) with hx | ⟨u, hu1, hu2, rfl, hx⟩
  · have hu := x3_units x hx (by omega)
    refine Cl.no (e := 1) (w := nI 1) h (by omega) ?_ ?_ rfl
    · unfold P_X3_draw; rw [bE hu, if_pos n00]
    · unfold P_X4_draw P_X4_draw_16
      simp only [q_0, q_1, q_2, q_3, q_4, q_5, q_6, q_7, q_8, q_10, q_12, q_14, q_20, q_47, q_50, q_99, q_100, q_107, q_120, q_792]
      rw [bE hx]
      simp (disch := omega) only [nI_ltI, nI_leI, nI_eq, q_okn, nI_clamp, nI_add, pk_mul, pk_sub, pk_div, q_nlt9, q_neg0, q_ne9, q_9ne, q_nle9, ↓reduceIte, lc_let, ss_eq, Nat.reduceLeDiff]
  · have hu := x3_units (nI u) hx (by omega)
    obtain ⟨r, g', m', p1, p2, p3, p4, p5, p6⟩ := q_drawn hr hi hu2
    have X : P_X4_draw (nI u) s = (if r = 0 then P_X4_draw_48 (nI r) (nI 2) m' else P_X4_draw_48 (nI r) (nI 0) m') := by
      unfold P_X4_draw P_X4_draw_16
      simp only [q_0, q_1, q_2, q_3, q_4, q_5, q_6, q_7, q_8, q_10, q_12, q_14, q_20, q_47, q_50, q_99, q_100, q_107, q_120, q_792]
      rw [bE hx]
      simp (disch := omega) only [nI_ltI, nI_leI, nI_eq, q_okn, nI_clamp, nI_add, pk_mul, pk_sub, pk_div, q_nlt9, q_neg0, q_ne9, q_9ne, q_nle9, ↓reduceIte, lc_let, ss_eq, Nat.le_refl, Nat.one_ne_zero]
      rw [bE (x4_layPut _), bE2 p2]
      simp (disch := omega) only [nI_eq]
    rw [X]
    by_cases q : r = 0
    · subst q
      obtain ⟨-, p7⟩ := p6 rfl
      refine ⟨2, 0, va_up M 1 (nB g'), nI 0, lc_ss m' 0 0 (nI 2), ?_, ?_, lc_up_off _ _ (by omega), by rw [ss_eq]; rfl, fun z => absurd z (by omega), ?_⟩
      · unfold P_X3_draw
        rw [bE hu, if_neg (by decide +kernel), bE hcp]
        simp only [lc_let]
        rw [lc_up_at, bE2 p1, if_pos n00, lc_up_up]
      · rw [if_pos rfl]
        unfold P_X4_draw_48
        simp (disch := omega) only [q_0, q_1, q_2, q_3, q_4, q_5, q_6, q_7, q_8, q_10, q_12, q_14, q_20, q_47, q_50, q_99, q_100, q_107, q_120, q_792, nI_ltI, nI_leI, nI_eq, q_okn, nI_clamp, nI_add, pk_mul, pk_sub, pk_div, q_nlt9, q_neg0, q_ne9, q_9ne, q_nle9, ↓reduceIte, lc_let, ss_eq, Nat.reduceLeDiff]
      · refine h.try (fun k hk => lc_up_off _ _ (by omega)) (by rw [lc_up_off _ _ (by omega)]) (by rw [lc_up_off _ _ (by omega)]) (fun k hk => ?_) (fun r h3 h6 => ?_) (fun k hk => ?_)
        · rw [ss_off _ _ _ (by omega), p7 k hk, q_putf s (by omega) (by omega)]
        · rw [ss_off _ _ _ (by omega), p3.1 r (by omega), q_putf s (by omega) (by omega)]
        · rw [ss_ne _ _ _ (by omega)]
          rw [p3.2.1 k (by omega) (by omega), q_put0 s (by omega)]
    · obtain ⟨p7, p8, -⟩ := p5 q
      have hne : ¬ nI r = nI 0 := by rw [nI_eq (by omega) (by omega)]; exact q
      -- the model: ahead, back, remember
      have D1 := l_dr62 (lc_ss m' 0 0 (nI 0)) (nI r) 107 0 lc_FU (by omega) (q_FUn (by omega))
      rw [crw_0, bE (x4_putBack _)] at D1
      have hB : Rel (va_up M 1 (nB g')) (crw (crw (lc_ss m' 0 0 (nI 0)) 8 0 1 0 107) 1 0 2 0 107) := by
        refine h.try (fun k hk => lc_up_off _ _ (by omega)) (by rw [lc_up_off _ _ (by omega)]) (by rw [lc_up_off _ _ (by omega)]) (fun k hk => ?_) (fun r h3 h6 => ?_) (fun k hk => ?_)
        · have z := crw_in (crw (lc_ss m' 0 0 (nI 0)) 8 0 1 0 107) 1 0 2 0 107 k hk
          rw [Nat.zero_add] at z
          rw [z, crw_off _ _ _ _ _ _ (by omega), ss_off _ _ _ (by omega), p3.1 2 (by omega), q_put s k hk]
        · rw [crw_off _ _ _ _ _ _ (by omega), crw_off _ _ _ _ _ _ (by omega), ss_off _ _ _ (by omega), p3.1 r (by omega), q_putf s (by omega) (by omega)]
        · rw [crw_off _ _ _ _ _ _ (by omega), crw_off _ _ _ _ _ _ (by omega), ss_ne _ _ _ (by omega)]
          rw [p3.2.1 k (by omega) (by omega), q_put0 s (by omega)]
      obtain ⟨M5, s6, a1, a2, a3, a4, a5, a6⟩ := q_rem hB
      have D2 := l_dr96 s6 (nI r) 107 0 lc_FU (by omega) (q_FUn (by omega))
      rw [crw_0] at D2
      -- the copy of trial
      have m51 : M5 1 = nB g' := by rw [a4 1 (by omega), lc_up_at]
      obtain ⟨gt, hgt⟩ := nB_ex (M5 0)
      have l := cpS_lv g' gt p8
      have c0 := x0_copy g' gt
      rw [← hgt, ← m51] at c0
      have frow : ∀ k, k < 107 → crw s6 1 0 8 0 107 1 k = m' 1 k := fun k hk => by
        have z := crw_in s6 1 0 8 0 107 k hk
        have z2 := crw_in (lc_ss m' 0 0 (nI 0)) 8 0 1 0 107 k hk
        rw [Nat.zero_add] at z z2
        rw [z, a5 8 (by omega) (by omega), crw_off _ _ _ _ _ _ (by omega), z2, ss_off _ _ _ (by omega)]
      have rf := RM_tr (m' := crw s6 1 0 8 0 107) p7 p8 frow
      have rf2 := l.rm rf
      refine ⟨0, nI r, va_up M5 0 (nB (cpS g' gt)), nI r, crw s6 1 0 8 0 107, ?_, ?_, ?_, ?_, fun _ => rfl, a3.now rf2 (l.iv p8) (crw1_fr _ _ _).w⟩
      · unfold P_X3_draw
        rw [bE hu, if_neg (by decide +kernel), bE hcp]
        simp only [lc_let]
        rw [lc_up_at, bE2 p1, if_neg (show ¬ nI r = (0 : Int32) from hne), lc_up_up, bE a1, bE c0]
      · rw [if_neg q]
        unfold P_X4_draw_48
        simp (disch := omega) only [q_0, q_1, q_2, q_3, q_4, q_5, q_6, q_7, q_8, q_10, q_12, q_14, q_20, q_47, q_50, q_99, q_100, q_107, q_120, q_792, nI_ltI, nI_leI, nI_eq, q_okn, nI_clamp, nI_add, pk_mul, pk_sub, pk_div, q_nlt9, q_neg0, q_ne9, q_9ne, q_nle9, ↓reduceIte, lc_let, ss_eq, Nat.le_refl]
        rw [D1, bE a2, D2]
      · rw [lc_up_off _ _ (by omega), a4 22 (by omega), lc_up_off _ _ (by omega)]
      · rw [crw_off _ _ _ _ _ _ (by omega), a6 0 (by omega), crw_off _ _ _ _ _ _ (by omega), crw_off _ _ _ _ _ _ (by omega), ss_eq]; rfl
