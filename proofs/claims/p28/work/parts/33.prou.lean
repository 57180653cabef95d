/-! ===== the pure claim: a round ===== -/
variable {e : Nat} {m : lc_St} {g : Nat → Nat → Nat}
theorem l_late : ∀ k c a rho (g : Nat → Nat → Nat) (m : lc_St) n1 n2, QM 8 m g → Iv g → Cn g → a < 256 → c + k = g 0 0 → k < n1 → k < n2 → ∃ r g' m', P_X0_countLateRounds_4 n1 (nI a) (nI rho) (nI c) (nB g) = some (nI r, nB g') ∧ P_L_round_187 n2 (nI a) (nI rho) (nI c) m = some (nI r, m') ∧ QM 8 m' (gs g' 0 2 (g' 0 2 + 1)) ∧ Iv g' ∧ Cn g' ∧ g' 0 0 = g 0 0 := by
  intro k
  induction k with
  | zero =>
    intro c a rho g m n1 n2 hr hi hn ha hc h1 h2
    have h8 := hi.1
    obtain ⟨n1, rfl⟩ : ∃ q, n1 = q + 1 := ⟨n1 - 1, by omega⟩; obtain ⟨n2, rfl⟩ : ∃ q, n2 = q + 1 := ⟨n2 - 1, by omega⟩
    have hle : g 0 0 ≤ c := by omega
    have e0 : m 0 0 = nI (g 0 2) := hr.1.1
    rw [P_X0_countLateRounds_4, P_L_round_187]
    simp (disch := omega) only [nI_ltI, nI_leI, nI_eq, q_okn, nI_clamp, nI_add, pk_mul, pk_sub, pk_div, q_nlt9, q_neg0, q_ne9, q_9ne, q_nle9, q_0, q_1, q_2, q_3, q_4, q_5, q_6, q_7, q_8, q_10, q_11, q_12, q_13, q_14, q_20, q_26, q_30, q_40, q_50, q_51, q_56, q_60, q_90, q_99, q_100, q_19, nB_at, hle, qm_nc hr, ↓reduceIte, lc_let, e0]
    exact ⟨_, g, _, rfl, rfl, QM_a0 hr _, hi, hn, rfl⟩
  | succ k ih =>
    intro c a rho g m n1 n2 hr hi hn ha hc h1 h2
    have h8 := hi.1
    have h6 := hr.2.2.2.2
    obtain ⟨n1, rfl⟩ : ∃ q, n1 = q + 1 := ⟨n1 - 1, by omega⟩; obtain ⟨n2, rfl⟩ : ∃ q, n2 = q + 1 := ⟨n2 - 1, by omega⟩
    have hlt : c < g 0 0 := by omega
    have hc8 : c < 8 := by omega
    have hcl := hi.2.2.1 c hlt
    have next : ∀ rho g1 m1, QM 8 m1 g1 → Iv g1 → Cn g1 → g1 0 0 = g 0 0 → ∃ r g' m', P_X0_countLateRounds_85 (fun x1 x2 x3 s => P_X0_countLateRounds_4 n1 x1 x2 x3 s) (nI a) (nI rho) (nI c) (nB g1) = some (nI r, nB g') ∧ P_L_round_267 (fun x3 x4 x5 s => P_L_round_187 n2 x3 x4 x5 s) (nI a) (nI rho) (nI c) m1 = some (nI r, m') ∧ QM 8 m' (gs g' 0 2 (g' 0 2 + 1)) ∧ Iv g' ∧ Cn g' ∧ g' 0 0 = g 0 0 := by
      intro rho g1 m1 r1 i1 n1' g00
      obtain ⟨r, g', m', z1, z2, z3, z4, z5, z6⟩ := ih (c + 1) a rho g1 m1 n1 n2 r1 i1 n1' ha (by omega) (by omega) (by omega)
      refine ⟨r, g', m', ?_, ?_, z3, z4, z5, by rw [z6, g00]⟩
      · unfold P_X0_countLateRounds_85
        simp only [lc_let, q_0, q_1, q_2, q_3, q_4, q_5, q_6, q_7, q_8, q_10, q_11, q_12, q_13, q_14, q_20, q_26, q_30, q_40, q_50, q_51, q_56, q_60, q_90, q_99, q_100, q_19, nI_add]; exact z1
      · unfold P_L_round_267
        simp only [lc_let, q_0, q_1, q_2, q_3, q_4, q_5, q_6, q_7, q_8, q_10, q_11, q_12, q_13, q_14, q_20, q_26, q_30, q_40, q_50, q_51, q_56, q_60, q_90, q_99, q_100, q_19, nI_add]; exact z2
    have hq := q_tb a ha c hc8
    rw [P_X0_countLateRounds_4, P_L_round_187]
    simp only [q_0, q_1, q_2, q_3, q_4, q_5, q_6, q_7, q_8, q_10, q_11, q_12, q_13, q_14, q_20, q_26, q_30, q_40, q_50, q_51, q_56, q_60, q_90, q_99, q_100, q_19]
    have c4 := qm_c4 hr hlt
    by_cases h3 : g 4 c < 3
    · rw [if_pos h3] at c4
      have eb : (nI 1 <<< (nI c &&& 31)) = bit c := rfl
      by_cases hmiss : nI a &&& bit c = 0
      · -- the interest was met: late falls to 0
        have hl : ¬ (nI a >>> (nI c &&& 31)) &&& nI 1 = nI 1 := hq.mp hmiss
        have r1 := QM_c3 hr hlt 0 (fun _ => by rw [if_pos (by omega)]; exact c4)
        have i1 := Iv_c3 hi hlt (show 0 ≤ 3 by omega)
        have hb := x0_bank (c := c) i1 (by rw [gs_r _ _ _ (by omega)]; exact hlt)
        rw [gs_at, if_pos (by omega)] at hb
        have hz : (nI a &&& bit c = nI 0) = True := eq_true hmiss
        have nx := next rho _ _ r1 i1 (by unfold Cn at hn ⊢; simpa (disch := omega) only [gs_r] using hn) (by rw [gs_r _ _ _ (by omega)])
        obtain ⟨r, g', m', z1, z2, z3⟩ := nx
        refine ⟨r, g', m', ?_, ?_, z3⟩
        · rw [← z1]
          simp (disch := omega) only [nI_ltI, nI_leI, nI_eq, q_okn, nI_clamp, nI_add, pk_mul, pk_sub, pk_div, q_nlt9, q_neg0, q_ne9, q_9ne, q_nle9, ↓bE (x0_bank hi hlt), nB_at, Nat.not_le.mpr hlt, h3, ↓reduceIte, q_ift, q_ifT, lc_let, eb, hz, Nat.one_ne_zero, P_X0_countLateRounds_36, P_X0_countLateRounds_60, q_0, q_1, q_2, q_3, q_4, q_5, q_6, q_7, q_8, q_10, q_11, q_12, q_13, q_14, q_20, q_26, q_30, q_40, q_50, q_51, q_56, q_60, q_90, q_99, q_100, q_19, nB_ss]
          rw [bE hb]
          simp (disch := omega) only [nI_ltI, nI_leI, nI_eq, q_okn, nI_clamp, nI_add, pk_mul, pk_sub, pk_div, q_nlt9, q_neg0, q_ne9, q_9ne, q_nle9, ↓reduceIte]
        · rw [← z2]
          simp (disch := omega) only [nI_ltI, nI_leI, nI_eq, q_okn, nI_clamp, nI_add, pk_mul, pk_sub, pk_div, q_nlt9, q_neg0, q_ne9, q_9ne, q_nle9, q_0, q_1, q_2, q_3, q_4, q_5, q_6, q_7, q_8, q_10, q_11, q_12, q_13, q_14, q_20, q_26, q_30, q_40, q_50, q_51, q_56, q_60, q_90, q_99, q_100, q_19, qm_nc hr, c4, Nat.not_le.mpr hlt, ↓reduceIte, q_ift, q_ifT, lc_let, hl, P_L_round_237, ss_eq, Nat.reduceEqDiff]
      · have hl : (nI a >>> (nI c &&& 31)) &&& nI 1 = nI 1 := Classical.byContradiction (fun z => hmiss (hq.mpr z))
        have hz : (nI a &&& bit c = nI 0) = False := eq_false hmiss
        have i1 := Iv_c3 hi hlt (show g 4 c + 1 ≤ 3 by omega)
        have hcl' : c < gs g 4 c (g 4 c + 1) 0 0 := by rw [gs_r _ _ _ (by omega)]; exact hlt
        have nn : Cn (gs g 4 c (g 4 c + 1)) := by unfold Cn at hn ⊢; simpa (disch := omega) only [gs_r] using hn
        have hb := x0_bank (c := c) i1 hcl'
        rw [gs_at] at hb
        have C : P_X0_countLateRounds_36 (fun x1 x2 x3 s => P_X0_countLateRounds_4 n1 x1 x2 x3 s) (nI a) (nI rho) (nI c) (nI 1) (nB g) = lc_bd (P_X0_isBankrupt (nI c) (nB (gs g 4 c (g 4 c + 1)))) (fun r63 => if r63 = nI 0 then P_X0_countLateRounds_85 (fun x1 x2 x3 s => P_X0_countLateRounds_4 n1 x1 x2 x3 s) (nI a) (nI rho) (nI c) (nB (gs g 4 c (g 4 c + 1))) else lc_bd (P_X0_shareOut (nI c) (nB (gs g 4 c (g 4 c + 1)))) (fun s2 => lc_bd (P_X0_dropLoansOf (nI c) s2) (fun s3 => P_X0_countLateRounds_85 (fun x1 x2 x3 s => P_X0_countLateRounds_4 n1 x1 x2 x3 s) (nI a) (nI rho ||| bit c) (nI c) s3))) := by
          unfold P_X0_countLateRounds_36 P_X0_countLateRounds_60
          simp only [q_0, q_1, q_2, q_3, q_4, q_5, q_6, q_7, q_8, q_10, q_11, q_12, q_13, q_14, q_20, q_26, q_30, q_40, q_50, q_51, q_56, q_60, q_90, q_99, q_100, q_19]
          simp (disch := omega) only [nI_ltI, nI_leI, nI_eq, q_okn, nI_clamp, nI_add, pk_mul, pk_sub, pk_div, q_nlt9, q_neg0, q_ne9, q_9ne, q_nle9, nB_at, ↓reduceIte, q_ift, q_ifT, lc_let, eb, Nat.one_ne_zero, nB_ss]
        have Lw : P_L_round_237 (fun x3 x4 x5 s => P_L_round_187 n2 x3 x4 x5 s) (nI a) (nI rho) (nI c) (nI (5 * c + 3)) (nI (g 4 c + 1)) m = (if g 4 c + 1 = 3 then lc_bd (P_L_breaks (nI c) (lc_ss m 1 (5 * c + 3) (nI (g 4 c + 1)))) (fun s3 => P_L_round_267 (fun x3 x4 x5 s => P_L_round_187 n2 x3 x4 x5 s) (nI a) (nI rho ||| bit c) (nI c) s3) else P_L_round_267 (fun x3 x4 x5 s => P_L_round_187 n2 x3 x4 x5 s) (nI a) (nI rho) (nI c) (lc_ss m 1 (5 * c + 3) (nI (g 4 c + 1)))) := by
          unfold P_L_round_237
          simp only [q_0, q_1, q_2, q_3, q_4, q_5, q_6, q_7, q_8, q_10, q_11, q_12, q_13, q_14, q_20, q_26, q_30, q_40, q_50, q_51, q_56, q_60, q_90, q_99, q_100, q_19]
          simp (disch := omega) only [nI_ltI, nI_leI, nI_eq, q_okn, nI_clamp, nI_add, pk_mul, pk_sub, pk_div, q_nlt9, q_neg0, q_ne9, q_9ne, q_nle9, q_0, q_1, q_2, q_3, q_4, q_5, q_6, q_7, q_8, q_10, q_11, q_12, q_13, q_14, q_20, q_26, q_30, q_40, q_50, q_51, q_56, q_60, q_90, q_99, q_100, q_19, q_ift, lc_let, ss_eq, eb]
        have main : ∃ r g' m', P_X0_countLateRounds_36 (fun x1 x2 x3 s => P_X0_countLateRounds_4 n1 x1 x2 x3 s) (nI a) (nI rho) (nI c) (nI 1) (nB g) = some (nI r, nB g') ∧ P_L_round_237 (fun x3 x4 x5 s => P_L_round_187 n2 x3 x4 x5 s) (nI a) (nI rho) (nI c) (nI (5 * c + 3)) (nI (g 4 c + 1)) m = some (nI r, m') ∧ QM 8 m' (gs g' 0 2 (g' 0 2 + 1)) ∧ Iv g' ∧ Cn g' ∧ g' 0 0 = g 0 0 := by
          rw [C, Lw, bE hb]
          by_cases h4 : g 4 c + 1 < 3
          · have r1 := QM_c3 hr hlt (g 4 c + 1) (fun _ => by rw [if_pos h4]; exact c4)
            rw [if_pos h4, if_pos rfl, if_neg (show ¬ g 4 c + 1 = 3 by omega)]
            exact next rho _ _ r1 i1 nn (by rw [gs_r _ _ _ (by omega)])
          · -- the third time: c goes bankrupt
            have h43 : g 4 c + 1 = 3 := by omega
            have r1 := QM_c3 (QM_ex hr c) hlt (g 4 c + 1) (fun z => absurd rfl z)
            obtain ⟨g1, g2, m2, p1, p2, p3, p4, p5, p6, p7⟩ := q_breaks i1 nn r1 hcl' (by rw [gs_at]; exact h43)
            rw [if_neg h4, if_neg (show ¬ nI 1 = nI 0 by decide +kernel), if_pos h43, bE p1, bE p2, bE p3, bit_nI c hc8, nI_or]
            exact next (rho ||| 2 ^ c) g2 m2 p4 p5 p6 (by rw [p7, gs_r _ _ _ (by omega)])
        obtain ⟨r, g', m', z1, z2, z3⟩ := main
        refine ⟨r, g', m', ?_, ?_, z3⟩
        · rw [← z1]
          simp (disch := omega) only [nI_ltI, nI_leI, nI_eq, q_okn, nI_clamp, nI_add, pk_mul, pk_sub, pk_div, q_nlt9, q_neg0, q_ne9, q_9ne, q_nle9, ↓bE (x0_bank hi hlt), nB_at, Nat.not_le.mpr hlt, h3, ↓reduceIte, q_ift, q_ifT, lc_let, eb, hz, Nat.one_ne_zero, q_0, q_1, q_2, q_3, q_4, q_5, q_6, q_7, q_8, q_10, q_11, q_12, q_13, q_14, q_20, q_26, q_30, q_40, q_50, q_51, q_56, q_60, q_90, q_99, q_100, q_19]
        · rw [← z2]
          simp (disch := omega) only [nI_ltI, nI_leI, nI_eq, q_okn, nI_clamp, nI_add, pk_mul, pk_sub, pk_div, q_nlt9, q_neg0, q_ne9, q_9ne, q_nle9, q_0, q_1, q_2, q_3, q_4, q_5, q_6, q_7, q_8, q_10, q_11, q_12, q_13, q_14, q_20, q_26, q_30, q_40, q_50, q_51, q_56, q_60, q_90, q_99, q_100, q_19, qm_nc hr, c4, qm_c3 hr hlt, Nat.not_le.mpr hlt, ↓reduceIte, q_ift, q_ifT, lc_let, hl]
    · rw [if_neg h3] at c4
      obtain ⟨r, g', m', z1, z2, z3⟩ := next rho g m hr hi hn rfl
      refine ⟨r, g', m', ?_, ?_, z3⟩
      · rw [← z1]
        simp (disch := omega) only [nI_ltI, nI_leI, nI_eq, q_okn, nI_clamp, nI_add, pk_mul, pk_sub, pk_div, q_nlt9, q_neg0, q_ne9, q_9ne, q_nle9, ↓bE (x0_bank hi hlt), nB_at, Nat.not_le.mpr hlt, h3, ↓reduceIte, Nat.one_ne_zero]
      · rw [← z2]
        simp (disch := omega) only [nI_ltI, nI_leI, nI_eq, q_okn, nI_clamp, nI_add, pk_mul, pk_sub, pk_div, q_nlt9, q_neg0, q_ne9, q_9ne, q_nle9, q_0, q_1, q_2, q_3, q_4, q_5, q_6, q_7, q_8, q_10, q_11, q_12, q_13, q_14, q_20, q_26, q_30, q_40, q_50, q_51, q_56, q_60, q_90, q_99, q_100, q_19, qm_nc hr, c4, Nat.not_le.mpr hlt, ↓reduceIte, q_ift, Nat.one_ne_zero]
/-- one round -/
theorem q_round (hr : QM 8 m g) (hi : Iv g) (hn : Cn g) : ∃ s g' m', P_X0_letRoundGoBy (nB g) = some (nI s, nB g') ∧ P_L_round m = some (nI s, m') ∧ QM 8 m' g' ∧ Iv g' ∧ Cn g' ∧ g' 0 0 = g 0 0 := by
  have h8 := hi.1
  obtain ⟨g1, m1, a1, a2, a3, a4, a5, a6⟩ := l_leak (g 0 0) 0 g m lc_FU lc_FU hr hi hn (by omega) (q_FUn (by omega)) (q_FUn (by omega))
  have h12 := a4.2.1
  obtain ⟨b, g2, m2, b1, b2, b3, b4, b5, b6, b7⟩ := l_burn (g1 0 1) 0 0 g1 m1 lc_FU lc_FU a3 a4 a5 (by omega) (by omega) (q_FUn (by omega)) (q_FUn (by omega))
  have h8b := b5.1
  obtain ⟨r, g3, m3, c1, c2, c3, c4, c5, c6⟩ := l_late (g2 0 0) 0 b 0 g2 m2 lc_FU lc_FU b4 b5 b6 b3 (by omega) (q_FUn (by omega)) (q_FUn (by omega))
  refine ⟨r, gs g3 0 2 (g3 0 2 + 1), m3, ?_, ?_, c3, Iv_a c4 (by omega) _, ?_, by rw [gs_i _ _ _ (by omega), c6, b7, a6]⟩
  · unfold P_X0_letRoundGoBy
    have a1' : P_X0_leakAll (nB g) = some (nB g1) := a1
    have b1' : P_X0_burnInterest (nB g1) = some (nI b, nB g2) := b1
    have c1' : P_X0_countLateRounds (nI b) (nB g2) = some (nI r, nB g3) := c1
    rw [bE a1', bE2 b1', bE2 c1']
    simp only [lc_let, nB_at, q_0, q_1, q_2, q_3, q_4, q_5, q_6, q_7, q_8, q_10, q_11, q_12, q_13, q_14, q_20, q_26, q_30, q_40, q_50, q_51, q_56, q_60, q_90, q_99, q_100, q_19, nI_add, nB_ss]
  · have : P_L_round m = P_L_round_2 lc_FU (nI 0) m := rfl
    rw [this, a2, b2]; exact c2
  · unfold Cn at c5 ⊢
    simpa (disch := omega) only [gs_r, gs_i] using c5
/-- the class's rounds -/
theorem l_rounds {N : Nat} (hN : N ≤ 100) : ∀ k i a (g : Nat → Nat → Nat) (m : lc_St) n, QM 8 m g → Iv g → Cn g → i + k = N → k < n → ∃ r g' m', P_X0_letRoundsGoBy_4 n (nI N) (nI a) (nI i) (nB g) = some (nI r, nB g') ∧ (∀ (M : lc_MM) n2, M 22 = m → k < n2 → ∃ M', P_L_isPassed_6 n2 (nI N) (nI a) (nI i) M = P_L_isPassed_6 (0 + 1) (nI N) (nI r) (nI N) M' ∧ M' = va_up M 22 m') ∧ QM 8 m' g' ∧ Iv g' ∧ Cn g' ∧ g' 0 0 = g 0 0 := by
  intro k
  induction k with
  | zero =>
    intro i a g m n hr hi hn hk h1
    obtain ⟨n, rfl⟩ : ∃ q, n = q + 1 := ⟨n - 1, by omega⟩
    have hiN : i = N := by omega
    rw [P_X0_letRoundsGoBy_4]
    simp (disch := omega) only [nI_ltI, nI_leI, nI_eq, q_okn, nI_clamp, nI_add, pk_mul, pk_sub, pk_div, q_nlt9, q_neg0, q_ne9, q_9ne, q_nle9, show N ≤ i by omega, ↓reduceIte]
    refine ⟨a, g, m, rfl, fun M n2 hM h2 => ⟨M, ?_, by rw [← hM, lc_up_self]⟩, hr, hi, hn, rfl⟩
    obtain ⟨n2, rfl⟩ : ∃ q, n2 = q + 1 := ⟨n2 - 1, by omega⟩
    rw [hiN, P_L_isPassed_6, P_L_isPassed_6, if_pos (by rw [nI_leI (by omega) (by omega)]; exact Nat.le_refl _), if_pos (by rw [nI_leI (by omega) (by omega)]; exact Nat.le_refl _)]
  | succ k ih =>
    intro i a g m n hr hi hn hk h1
    obtain ⟨n, rfl⟩ : ∃ q, n = q + 1 := ⟨n - 1, by omega⟩
    obtain ⟨s, g1, m1, p1, p2, p3, p4, p5, p6⟩ := q_round hr hi hn
    obtain ⟨r, g', m', z1, z2, z3, z4, z5, z6⟩ := ih (i + 1) (a ||| s) g1 m1 n p3 p4 p5 (by omega) (by omega)
    refine ⟨r, g', m', ?_, fun M n2 hM h2 => ?_, z3, z4, z5, by rw [z6, p6]⟩
    · rw [P_X0_letRoundsGoBy_4]
      simp (disch := omega) only [nI_ltI, nI_leI, nI_eq, q_okn, nI_clamp, nI_add, pk_mul, pk_sub, pk_div, q_nlt9, q_neg0, q_ne9, q_9ne, q_nle9, show ¬ N ≤ i by omega, ↓reduceIte]
      rw [bE2 p1]
      simp only [lc_let, q_0, q_1, q_2, q_3, q_4, q_5, q_6, q_7, q_8, q_10, q_11, q_12, q_13, q_14, q_20, q_26, q_30, q_40, q_50, q_51, q_56, q_60, q_90, q_99, q_100, q_19, nI_add, nI_or]
      exact z1
    · obtain ⟨n2, rfl⟩ : ∃ q, n2 = q + 1 := ⟨n2 - 1, by omega⟩
      obtain ⟨M', w1, w2⟩ := z2 (va_up M 22 m1) n2 (lc_up_at _ _ _) (by omega)
      refine ⟨M', ?_, by rw [w2, lc_up_up]⟩
      rw [← w1, P_L_isPassed_6]
      simp (disch := omega) only [nI_ltI, nI_leI, nI_eq, q_okn, nI_clamp, nI_add, pk_mul, pk_sub, pk_div, q_nlt9, q_neg0, q_ne9, q_9ne, q_nle9, show ¬ N ≤ i by omega, ↓reduceIte, hM]
      rw [bE2 p2]
      simp only [lc_let, q_0, q_1, q_2, q_3, q_4, q_5, q_6, q_7, q_8, q_10, q_11, q_12, q_13, q_14, q_20, q_26, q_30, q_40, q_50, q_51, q_56, q_60, q_90, q_99, q_100, q_19, nI_add, nI_or]
