/-! ===== the pure claim: draws ===== -/
variable {M M' : lc_MM} {s s' : lc_St}
theorem l_draws {u : Nat} (hu : u ≤ 99) : ∀ t i (g : Nat → Nat → Nat) (d : Option Int32) (m : lc_St) (M2 : lc_MM) n1 n2, t + i = 792 → tn (g 2) (g 0 0) ≤ t → M2 1 = nB g → Iv g → RM 8 d m g → t < n1 → t < n2 → ∃ r b m', P_X3_draws_30 n1 (nI u) (nI i) M2 = some (0, r, va_up M2 1 b) ∧ P_X4_draws_34 n2 (nI u) (nI i) m = some (r, crw m' 1 0 2 0 107) ∧ Fw m m' := by
  intro t
  induction t with
  | zero =>
    intro i g d m M2 n1 n2 hti htn h1 hi hr n1h n2h
    obtain ⟨n1, rfl⟩ : ∃ q, n1 = q + 1 := ⟨n1 - 1, by omega⟩; obtain ⟨n2, rfl⟩ : ∃ q, n2 = q + 1 := ⟨n2 - 1, by omega⟩
    have : i = 792 := by omega
    subst this
    obtain ⟨r, g', m', p1, p2, p3, p4, p5, p6⟩ := q_drawn hr hi hu
    have hr0 : r = 0 := by
      by_cases q : r = 0
      · exact q
      · have := (p5 q).2.2.2.2; omega
    subst hr0
    refine ⟨nI 792, nB g, m', ?_, ?_, p3⟩
    · rw [P_X3_draws_30]
      simp only [q_0, q_1, q_2, q_3, q_4, q_5, q_6, q_7, q_8, q_10, q_12, q_14, q_20, q_47, q_50, q_99, q_100, q_107, q_120, q_792]
      rw [if_pos (by rw [nI_leI (by omega) (by omega)]; omega), ← h1, lc_up_self]
    · rw [P_X4_draws_34, bE2 p2, if_pos le00, bE (x4_putBack m')]
  | succ t ih =>
    intro i g d m M2 n1 n2 hti htn h1 hi hr n1h n2h
    obtain ⟨n1, rfl⟩ : ∃ q, n1 = q + 1 := ⟨n1 - 1, by omega⟩; obtain ⟨n2, rfl⟩ : ∃ q, n2 = q + 1 := ⟨n2 - 1, by omega⟩
    obtain ⟨r, g', m', p1, p2, p3, p4, p5, p6⟩ := q_drawn hr hi hu
    by_cases q : r = 0
    · subst q
      refine ⟨nI i, nB g', m', ?_, ?_, p3⟩
      · rw [P_X3_draws_30, h1]
        simp only [q_0, q_1, q_2, q_3, q_4, q_5, q_6, q_7, q_8, q_10, q_12, q_14, q_20, q_47, q_50, q_99, q_100, q_107, q_120, q_792]
        rw [if_neg (by rw [nI_leI (by omega) (by omega)]; omega), bE2 p1]
        simp only [lc_let, ↓reduceIte]
      · rw [P_X4_draws_34, bE2 p2, if_pos le00, bE (x4_putBack m')]
    · obtain ⟨q1, q2, q3, q4, q5⟩ := p5 q
      obtain ⟨r', b, m'', z1, z2, z3⟩ := ih (i + 1) g' d m' (va_up M2 1 (nB g')) n1 n2 (by omega) (by rw [q4]; omega) (lc_up_at _ _ _) q2 q1 (by omega) (by omega)
      refine ⟨r', b, m'', ?_, ?_, p3.tr z3⟩
      · rw [P_X3_draws_30, h1]
        simp only [q_0, q_1, q_2, q_3, q_4, q_5, q_6, q_7, q_8, q_10, q_12, q_14, q_20, q_47, q_50, q_99, q_100, q_107, q_120, q_792]
        rw [if_neg (by rw [nI_leI (by omega) (by omega)]; omega), bE2 p1]
        simp only [lc_let]
        rw [if_neg (by rw [nI_eq (by omega) (by omega)]; exact q), nI_add, z1, lc_up_up]
      · rw [P_X4_draws_34, bE2 p2, if_neg (nI_nle (by omega) (by omega))]
        simp only [lc_let, q_0, q_1, q_2, q_3, q_4, q_5, q_6, q_7, q_8, q_10, q_12, q_14, q_20, q_47, q_50, q_99, q_100, q_107, q_120, q_792, nI_add]
        exact z2
theorem r_draws (h : Rel M s) (x : Int32) : Cl kA M (P_X3_draws x M) (P_X4_draws x s) := by
  obtain ⟨g, d, hcp, hi, hr, g0, d0, hb, hi0, hr0, hg0, hg4, hg7, hg8, hg1⟩ := q_try h (M 1)
  have h8 := hi.1
  rcases in_cases x 1 99 (by omega) (by omega) with hx | ⟨u, hu1, hu2, rfl, hx⟩
  · have hu := x3_units x hx (by omega)
    refine Cl.no (e := 1) (w := nI 1) h (by omega) ?_ ?_ rfl
    · unfold P_X3_draws; rw [bE hu, if_pos n00]
    · unfold P_X4_draws P_X4_draws_16
      simp only [q_0, q_1, q_2, q_3, q_4, q_5, q_6, q_7, q_8, q_10, q_12, q_14, q_20, q_47, q_50, q_99, q_100, q_107, q_120, q_792]
      rw [bE hx]
      simp (disch := omega) only [nI_ltI, nI_leI, nI_eq, q_okn, nI_clamp, nI_add, pk_mul, pk_sub, pk_div, q_nlt9, q_neg0, q_ne9, q_9ne, q_nle9, ↓reduceIte, lc_let, ss_eq, Nat.reduceLeDiff]
  · have hu := x3_units (nI u) hx (by omega)
    have htn : tn (g 2) (g 0 0) ≤ 792 := by
      have := tn_le (h := g 2) (b := 99) (n := g 0 0) (fun x hx => by have := hi.2.2.1 x hx; omega)
      omega
    obtain ⟨r, b, m', z1, z2, z3⟩ := l_draws hu2 792 0 g d _ (va_up M 1 (nB g)) lc_FU lc_FU (by omega) htn (lc_up_at _ _ _) hi hr (q_FUn (by omega)) (q_FUn (by omega))
    rw [lc_up_up] at z1
    obtain ⟨w1, w2⟩ := h.back (M' := va_up M 1 b) z3 (fun k hk => lc_up_off _ _ (by omega)) (lc_up_off _ _ (by omega))
    refine ⟨0, r, va_up M 1 b, r, _, ?_, ?_, lc_up_off _ _ (by omega), by rw [w2]; rfl, fun _ => rfl, w1⟩
    · unfold P_X3_draws
      rw [bE hu, if_neg (by decide +kernel), bE hcp]
      simp only [lc_let, q_0, q_1, q_2, q_3, q_4, q_5, q_6, q_7, q_8, q_10, q_12, q_14, q_20, q_47, q_50, q_99, q_100, q_107, q_120, q_792]
      exact z1
    · unfold P_X4_draws P_X4_draws_16
      simp only [q_0, q_1, q_2, q_3, q_4, q_5, q_6, q_7, q_8, q_10, q_12, q_14, q_20, q_47, q_50, q_99, q_100, q_107, q_120, q_792]
      rw [bE hx]
      simp (disch := omega) only [nI_ltI, nI_leI, nI_eq, q_okn, nI_clamp, nI_add, pk_mul, pk_sub, pk_div, q_nlt9, q_neg0, q_ne9, q_9ne, q_nle9, ↓reduceIte, lc_let, ss_eq, Nat.le_refl, Nat.one_ne_zero]
      rw [bE (x4_layPut _)]
      exact z2
