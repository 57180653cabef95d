/-! ===== the pure claim: bits ===== -/
/-- a drawing in a simulation: the class goes back by the battery before -/
theorem q_gip {d : Option Int32} {m : lc_St} {g : Nat → Nat → Nat} {M : lc_MM} (h1 : M 1 = nB g) (hr : RM 8 d m g) (hi : Iv g) {u : Nat} (hu : u ≤ 99) : ∃ r M' g1 d1 m1, P_X3_giveIfPossible (nI u) M = some M' ∧ P_X4_drawn (nI u) m = some (nI r, m1) ∧ M' 1 = nB g1 ∧ (∀ k, k ≠ 1 → k ≠ 2 → M' k = M k) ∧ Iv g1 ∧ RM 8 d1 m1 g1 ∧ Fw m m1 ∧ g1 0 0 = g 0 0 ∧ ∀ y, y < g 0 0 → g1 4 y = g 4 y := by
  obtain ⟨r, g', m', p1, p2, p3, p4, p5, p6⟩ := q_drawn hr hi hu
  obtain ⟨gt, hgt⟩ := nB_ex (M 2)
  have c0 := x0_copy g gt
  rw [← hgt, ← h1] at c0
  by_cases q : r = 0
  · subst q
    obtain ⟨q1, -⟩ := p6 rfl
    have l1 := cpS_lv g gt hi
    have l2 := cpS_lv (cpS g gt) g' (l1.iv hi)
    have c1 := x0_copy (cpS g gt) g'
    refine ⟨0, va_up (va_up (va_up M 2 (nB (cpS g gt))) 1 (nB g')) 1 (nB (cpS (cpS g gt) g')), cpS (cpS g gt) g', none, m', ?_, p2, lc_up_at _ _ _, fun k k1 k2 => ?_, l2.iv (l1.iv hi), l2.rm (l1.rm q1), p3, (l2.1 0 (by omega)).trans (l1.1 0 (by omega)), fun y hy => ?_⟩
    · unfold P_X3_giveIfPossible
      rw [bE c0]
      simp only [q_let]
      rw [lc_up_off _ _ (show (1 : Nat) ≠ 2 by omega), h1, bE2 p1, if_pos n00, lc_up_off _ _ (show (2 : Nat) ≠ 1 by omega), lc_up_at, lc_up_at, bE c1]
    · rw [lc_up_off _ _ k1, lc_up_off _ _ k1, lc_up_off _ _ k2]
    · rw [(l2.2.1 y (by rw [l1.1 0 (by omega)]; exact hy)).2.2.2, (l1.2.1 y hy).2.2.2]
  · obtain ⟨q1, q2, q3, q4, -⟩ := p5 q
    refine ⟨r, va_up (va_up M 2 (nB (cpS g gt))) 1 (nB g'), g', d, m', ?_, p2, lc_up_at _ _ _, fun k k1 k2 => ?_, q2, q1, p3, q4, fun y hy => by rw [q3]⟩
    · unfold P_X3_giveIfPossible
      rw [bE c0]
      simp only [q_let]
      rw [lc_up_off _ _ (show (1 : Nat) ≠ 2 by omega), h1, bE2 p1, if_neg (show ¬ nI r = (0 : Int32) by rw [← n00, nI_eq (by omega) (by omega)]; exact q)]
    · rw [lc_up_off _ _ k1, lc_up_off _ _ k2]
