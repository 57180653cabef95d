/-! ===== the pure claim: simulate ===== -/
theorem l_sim {N : Nat} (hN : N ≤ 99) (g0 : Nat → Nat → Nat) : ∀ k i (x : Int64) a (g : Nat → Nat → Nat) (d : Option Int32) (m : lc_St) (M2 : lc_MM) n1 n2, i + k = N → M2 1 = nB g → M2 0 = nB g0 → Iv g → RM 8 d m g → a < 256 → (∀ y, a.testBit y = true → y < g 0 0 ∧ g 4 y = 3) → k < n1 → k < n2 → ∃ r M3 m', P_X3_simulate_41 n1 (nI N) x (nI (bc a)) (nI i) M2 = some (0, r, M3) ∧ P_X4_simulate_49 n2 (nI N) (nI (g0 0 4)) (nI a) x (nI i) m = some (r, crw m' 1 0 2 0 107) ∧ Fw m m' ∧ ∀ k, k ≠ 1 → k ≠ 2 → M3 k = M2 k := by
  intro k
  induction k with
  | zero =>
    intro i x a g d m M2 n1 n2 hik h1 h0 hi hr ha hset h1n h2n
    obtain ⟨n1, rfl⟩ : ∃ q, n1 = q + 1 := ⟨n1 - 1, by omega⟩; obtain ⟨n2, rfl⟩ : ∃ q, n2 = q + 1 := ⟨n2 - 1, by omega⟩
    have : i = N := by omega
    subst this
    refine ⟨(100000 : Int32) * nI (bc a) + (nI (g 0 4) - nI (g0 0 4)), M2, m, ?_, ?_, Fw.rf m, fun _ _ _ => rfl⟩
    · rw [P_X3_simulate_41, if_pos (nI_le (Nat.le_refl _) (by omega)), h1, h0]; rfl
    · rw [P_X4_simulate_49, if_pos (nI_le (Nat.le_refl _) (by omega)), hr.1.2.2.2.2.1]
      simp only [q_let]
      rw [bE (x4_putBack m), bE (x4_bits ha)]
  | succ k ih =>
    intro i x a g d m M2 n1 n2 hik h1 h0 hi hr ha hset h1n h2n
    obtain ⟨n1, rfl⟩ : ∃ q, n1 = q + 1 := ⟨n1 - 1, by omega⟩; obtain ⟨n2, rfl⟩ : ∃ q, n2 = q + 1 := ⟨n2 - 1, by omega⟩
    have h8 := hi.1
    rw [P_X3_simulate_41, P_X4_simulate_49, if_neg (by rw [nI_leI (by omega) (by omega)]; omega), if_neg (by rw [nI_leI (by omega) (by omega)]; omega)]
    simp only [q_let]
    generalize x * 6364136223846793005 + 1442695040888963407 = x'
    obtain ⟨ρ, hρ, e⟩ := sim_r x'
    rw [e]
    have rnd : ∀ (g1 : Nat → Nat → Nat) (d1 : Option Int32) (m1 : lc_St) (M1 : lc_MM), M1 1 = nB g1 → Iv g1 → RM 8 d1 m1 g1 → Fw m m1 → g1 0 0 = g 0 0 → (∀ y, y < g 0 0 → g1 4 y = g 4 y) → (∀ k, k ≠ 1 → k ≠ 2 → M1 k = M2 k) → ∃ r M3 m', P_X3_simulate_112 (fun x3 x4 x6 x7 M => P_X3_simulate_41 n1 x3 x4 x6 x7 M) (nI N) x' (nI (bc a)) (nI i) M1 = some (0, r, M3) ∧ P_X4_simulate_118 (fun x3 x4 x5 x6 x8 s => P_X4_simulate_49 n2 x3 x4 x5 x6 x8 s) (nI N) (nI (g0 0 4)) (nI a) x' (nI i) m1 = some (r, crw m' 1 0 2 0 107) ∧ Fw m m' ∧ ∀ k, k ≠ 1 → k ≠ 2 → M3 k = M2 k := by
      intro g1 d1 m1 M1 b1 b2 b3 b4 b5 b6 b7
      obtain ⟨s, g2, m2, p1, p2, p3, p4, p5, p6, p7, p8, p9⟩ := q_round b3 b2
      have dis : ∀ j, a.testBit j = true → s.testBit j = true → False := fun j z1 z2 => by
        obtain ⟨y1, y2⟩ := hset j z1
        obtain ⟨y3, y4, y5⟩ := p8 j z2
        rw [b6 j y1] at y4
        omega
      obtain ⟨r, M3, m', z1, z2, z3, z4⟩ := ih (i + 1) x' (a ||| s) g2 d1 m2 (va_up M1 1 (nB g2)) n1 n2 (by omega) (lc_up_at _ _ _) (by rw [lc_up_off _ _ (by omega), b7 0 (by omega) (by omega)]; exact h0) p4 p3 (or_256 ha p7) (fun y hy => by
        rw [Nat.testBit_or, Bool.or_eq_true] at hy
        rcases hy with hy | hy
        · obtain ⟨y1, y2⟩ := hset y hy
          exact ⟨by rw [p6, b5]; exact y1, p9 y (by rw [b6 y y1]; exact y2)⟩
        · obtain ⟨y3, y4, y5⟩ := p8 y hy
          exact ⟨by rw [p6]; exact y3, y5⟩) (by omega) (by omega)
      rw [bc_or dis] at z1
      refine ⟨r, M3, m', ?_, ?_, (b4.tr p5.w).tr z3, fun k k1 k2 => by rw [z4 k k1 k2, lc_up_off _ _ k1, b7 k k1 k2]⟩
      · unfold P_X3_simulate_112
        rw [b1, bE2 p1]
        simp only [q_let]
        rw [bE (b_cnt s p7), nI_add]
        simp only [q_0, q_1, q_2, q_3, q_4, q_5, q_6, q_7, q_8, q_10, q_12, q_14, q_20, q_47, q_50, q_99, q_100, q_107, q_120, q_792, nI_add]
        exact z1
      · unfold P_X4_simulate_118
        rw [bE2 p2]
        simp only [q_let]
        rw [nI_or]
        simp only [q_0, q_1, q_2, q_3, q_4, q_5, q_6, q_7, q_8, q_10, q_12, q_14, q_20, q_47, q_50, q_99, q_100, q_107, q_120, q_792, nI_add]
        exact z2
    simp (disch := omega) only [q_0, q_1, q_2, q_3, q_4, q_5, q_6, q_7, q_8, q_10, q_12, q_14, q_20, q_47, q_50, q_99, q_100, q_107, q_120, q_792, q_9, nI_add, pk_div, pk_mul, pk_sub, nI_eq, nI_leI]
    have hu : 1 + (ρ / 4 - ρ / 4 / 9 * 9) ≤ 99 := by omega
    by_cases q0 : ρ - ρ / 4 * 4 = 0
    · rw [if_pos q0, if_pos q0]
      obtain ⟨r, g', m', p1, p2, p3, p4, p5, p6, p7, p8⟩ := q_fill hr hi hu
      rw [h1, bE2 p1, bE2 p2]
      exact rnd g' d m' (va_up M2 1 (nB g')) (lc_up_at _ _ _) p4 p3 p5.w p7 (fun y _ => by rw [p8]) (fun k k1 _ => lc_up_off _ _ k1)
    · rw [if_neg q0, if_neg q0]
      by_cases q3 : ρ - ρ / 4 * 4 = 3
      · rw [if_pos q3, if_pos (by omega)]
        exact rnd g d m M2 h1 hi hr (Fw.rf m) rfl (fun _ _ => rfl) (fun _ _ _ => rfl)
      · rw [if_neg q3, if_neg (by omega)]
        obtain ⟨r, M', g1, d1, m1, p1, p2, p3, p4, p5, p6, p7, p8, p9⟩ := q_gip h1 hr hi hu
        rw [bE p1, bE2 p2]
        exact rnd g1 d1 m1 M' p3 p5 p6 p7 p8 p9 p4
variable {M M' : lc_MM} {s s' : lc_St}
theorem r_simulate (h : Rel M s) (x : Int64) (y : Int32) : Cl kA M (P_X3_simulate x y M) (P_X4_simulate x y s) := by
  obtain ⟨g, d, hcp, hi, hr, g0, d0, hb, hi0, hr0, hg0, hg4, hg7, hg8, hg1⟩ := q_try h (M 1)
  rcases in_cases y 1 99 (by omega) (by omega) with hy | ⟨N, hN1, hN2, rfl, hy⟩
  · have hy2 : P_X3_isWithin y 1 99 = some (nI 0) := hy
    refine Cl.no (e := 1) (w := nI 1) h (by omega) ?_ ?_ rfl
    · unfold P_X3_simulate; rw [bE hy2, if_pos n00]
    · unfold P_X4_simulate P_X4_simulate_16
      simp only [q_0, q_1, q_2, q_3, q_4, q_5, q_6, q_7, q_8, q_10, q_12, q_14, q_20, q_47, q_50, q_99, q_100, q_107, q_120, q_792]
      rw [bE hy]
      simp (disch := omega) only [nI_ltI, nI_leI, nI_eq, q_okn, nI_clamp, nI_add, pk_mul, pk_sub, pk_div, q_nlt9, q_neg0, q_ne9, q_9ne, q_nle9, ↓reduceIte, q_let, ss_eq, Nat.reduceLeDiff]
  · have hy2 : P_X3_isWithin (nI N) 1 99 = some (nI 1) := hy
    obtain ⟨r, M3, m', z1, z2, z3, z4⟩ := l_sim hN2 g0 N 0 x 0 g d _ (va_up M 1 (nB g)) lc_FU lc_FU (by omega) (lc_up_at _ _ _) (by rw [lc_up_off _ _ (by omega)]; exact hb) hi hr (by omega) (fun y hy => by rw [Nat.zero_testBit] at hy; exact absurd hy (by decide)) (q_FUn (by omega)) (q_FUn (by omega))
    have zM : ∀ k, k ≠ 1 → k ≠ 2 → M3 k = M k := fun k k1 k2 => by rw [z4 k k1 k2, lc_up_off _ _ k1]
    obtain ⟨w1, w2⟩ := h.back (M' := M3) z3 (fun k hk => zM k (by omega) (by omega)) (zM 19 (by omega) (by omega))
    have e4 : crw (lc_ss s 0 0 (nI 0)) 2 0 1 0 107 1 4 = nI (g0 0 4) := by
      rw [q_putf s (by omega) (by omega)]; exact hr0.1.2.2.2.2.1
    refine ⟨0, r, M3, r, _, ?_, ?_, zM 22 (by omega) (by omega), by rw [w2]; rfl, fun _ => rfl, w1⟩
    · unfold P_X3_simulate
      rw [bE hy2, if_neg (by decide +kernel), bE hcp]
      simp only [q_let]
      exact z1
    · unfold P_X4_simulate P_X4_simulate_16
      simp only [q_0, q_1, q_2, q_3, q_4, q_5, q_6, q_7, q_8, q_10, q_12, q_14, q_20, q_47, q_50, q_99, q_100, q_107, q_120, q_792]
      rw [bE hy]
      simp (disch := omega) only [nI_ltI, nI_leI, nI_eq, q_okn, nI_clamp, nI_add, pk_mul, pk_sub, pk_div, q_nlt9, q_neg0, q_ne9, q_9ne, q_nle9, ↓reduceIte, q_let, ss_eq, Nat.le_refl, Nat.one_ne_zero]
      rw [bE (x4_layPut _), e4]
      exact z2
