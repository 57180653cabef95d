/-! ===== the pure claim: costs ===== -/
variable {M M' : lc_MM} {s s' : lc_St}
theorem RM_d {e : Nat} {d d' : Option Int32} {g : Nat → Nat → Nat} {m m' : lc_St} (hr : RM e d m g) (h1 : m' 1 = m 1) (h3 : W3 d' (m' 0 3) (g 0 7)) (h4 : W4 d' (m' 0 4) (g 0 8)) : RM e d' m' g := by
  obtain ⟨⟨a0, a1, a2, a3, a4, a5, a6, a7, a8⟩, hcc, hll⟩ := hr
  unfold RM RMa RMc RMl at *
  rw [h1]
  exact ⟨⟨a0, a1, a2, a3, a4, a5, a6, h3, h4⟩, hcc, hll⟩
/-- the loan c is watched -/
theorem cos_rm {d : Option Int32} {g : Nat → Nat → Nat} {m : lc_St} (hr : RM 8 d m g) (hg8 : g 0 8 = 0) (c : Nat) : RM 8 (some (nI 0)) (lc_ss (lc_ss m 0 3 (nI c)) 0 4 (nI 0)) (gs g 0 7 c) := by
  have h0 := RM_d (d' := none) hr rfl trivial trivial
  refine RM_d (RM_w3 h0 c (nI c) trivial) (ss_off _ _ _ (by omega)) ?_ ?_
  · show lc_ss (lc_ss m 0 3 (nI c)) 0 4 (nI 0) 0 3 = nI (gs g 0 7 c 0 7)
    rw [ss_ne _ _ _ (by omega), ss_eq, gs_at]
  · show lc_ss (lc_ss m 0 3 (nI c)) 0 4 (nI 0) 0 4 + nI 0 = nI (gs g 0 7 c 0 8)
    rw [ss_eq, gs_i _ _ _ (show (8 : Nat) ≠ 7 by omega), hg8, nI_add]
theorem cos_fw {m m' : lc_St} {c : Nat} (p5 : Fr (lc_ss (lc_ss m 0 3 (nI c)) 0 4 (nI 0)) m') : Fw m (lc_ss m' 0 3 (-9)) := by
  refine ⟨fun r hr => ?_, fun k h3 h4 => ?_, fun _ => trivial⟩
  · rw [ss_off _ _ _ (by omega), p5.1 r (by omega), ss_off _ _ _ (by omega), ss_off _ _ _ (by omega)]
  · rw [ss_ne _ _ _ h3, p5.2.1 k h3 h4, ss_ne _ _ _ h4, ss_ne _ _ _ h3]
theorem cos_x {g : Nat → Nat → Nat} {c u r : Nat} {g' : Nat → Nat → Nat} (e1 : P_X0_hasLoan (nI c) (M 0) = some (nI 1)) (hy : P_X3_isWithin (nI u) 1 50 = some (nI 1)) (hcp : P_X0_copyFrom (M 0) (M 1) = some (nB g)) (p1 : P_X0_letRoundsGoBy (nI u) (nB (gs g 0 7 c)) = some (nI r, nB g')) : P_X3_costs (nI c) (nI u) M = some (0, nI (g' 0 8), va_up M 1 (nB g')) := by
  unfold P_X3_costs
  rw [bE e1, if_neg (by decide +kernel), bE hy, if_neg (by decide +kernel), bE hcp]
  simp only [lc_let, lc_up_at, nB_ss]
  rw [lc_up_up, bE2 p1, lc_up_up]
  simp only [nB_at, lc_up_at]
theorem q_let {α β : Type} (x : α) (f : α → β) : lc_let x f = f x := of_eq_true (eq_self (f x))
theorem cos_y {c u r : Nat} {m' : lc_St} {w : Nat} (e2 : P_X4_isLoan (nI c) s = some (nI 1)) (hy : P_X4_in (nI u) (nI 1) (nI 50) = some (nI 1)) (p2 : P_X4_rounds (nI u) (lc_ss (lc_ss (crw (lc_ss s 0 0 (nI 0)) 2 0 1 0 107) 0 3 (nI c)) 0 4 (nI 0)) = some (nI r, m')) (e4 : m' 0 4 = nI w) : P_X4_costs (nI c) (nI u) s = some (nI w, crw (lc_ss m' 0 3 (-9)) 1 0 2 0 107) := by
  unfold P_X4_costs P_X4_costs_28
  simp only [q_0, q_1, q_2, q_3, q_4, q_5, q_6, q_7, q_8, q_10, q_12, q_14, q_20, q_47, q_50, q_99, q_100, q_107, q_120, q_792]
  rw [bE e2]
  simp (disch := omega) only [nI_ltI, nI_leI, nI_eq, q_okn, nI_clamp, nI_add, pk_mul, pk_sub, pk_div, q_nlt9, q_neg0, q_ne9, q_9ne, q_nle9, ↓reduceIte, Nat.one_ne_zero]
  rw [bE hy]
  simp (disch := omega) only [nI_ltI, nI_leI, nI_eq, q_okn, nI_clamp, nI_add, pk_mul, pk_sub, pk_div, q_nlt9, q_neg0, q_ne9, q_9ne, q_nle9, ↓reduceIte, q_let, ss_eq, Nat.le_refl, Nat.one_ne_zero]
  rw [bE (x4_layPut _), bE2 p2, bE (x4_putBack _), crw_off _ _ _ _ _ _ (show (0 : Nat) ≠ 1 by omega), ss_ne _ _ _ (show (4 : Nat) ≠ 3 by omega), e4]
theorem r_costs (h : Rel M s) (x y : Int32) : Cl kB M (P_X3_costs x y M) (P_X4_costs x y s) := by
  obtain ⟨g, d, hcp, hi, hr, g0, d0, hb, hi0, hr0, hg0, hg4, hg7, hg8, hg1⟩ := q_try h (M 1)
  have no : P_X0_hasLoan x (M 0) = some (nI 0) → P_X4_isLoan x s = some (nI 0) → Cl kB M (P_X3_costs x y M) (P_X4_costs x y s) := by
    intro q1 q2
    refine Cl.no (e := 3) (w := nI 1) h (by omega) ?_ ?_ rfl
    · unfold P_X3_costs; rw [bE q1, if_pos n00]
    · unfold P_X4_costs P_X4_costs_28; rw [bE q2]
      simp (disch := omega) only [q_0, q_1, q_2, q_3, q_4, q_5, q_6, q_7, q_8, q_10, q_12, q_14, q_20, q_47, q_50, q_99, q_100, q_107, q_120, q_792, nI_ltI, nI_leI, nI_eq, q_okn, nI_clamp, nI_add, pk_mul, pk_sub, pk_div, q_nlt9, q_neg0, q_ne9, q_9ne, q_nle9, ↓reduceIte, lc_let, ss_eq, Nat.reduceLeDiff]
  rcases q_cases x with hx | ⟨c, hc31, rfl⟩
  · exact no (x0_hasLn hx) (x4_isLoann hx)
  · have e1 := x0_hasL hi0 hc31
    have e2 := x4_isLoan hr0 hi0 hc31
    rw [← hb] at e1
    by_cases hc : c < g0 0 1
    · rw [if_pos hc] at e1 e2
      rcases in_cases y 1 50 (by omega) (by omega) with hy | ⟨u, hu1, hu2, rfl, hy⟩
      · have hy2 : P_X3_isWithin y 1 50 = some (nI 0) := hy
        refine Cl.no (e := 1) (w := nI 2) h (by omega) ?_ ?_ rfl
        · unfold P_X3_costs; rw [bE e1, if_neg (by decide +kernel), bE hy2, if_pos n00]
        · unfold P_X4_costs P_X4_costs_28
          simp only [q_0, q_1, q_2, q_3, q_4, q_5, q_6, q_7, q_8, q_10, q_12, q_14, q_20, q_47, q_50, q_99, q_100, q_107, q_120, q_792]
          rw [bE e2]
          simp (disch := omega) only [nI_ltI, nI_leI, nI_eq, q_okn, nI_clamp, nI_add, pk_mul, pk_sub, pk_div, q_nlt9, q_neg0, q_ne9, q_9ne, q_nle9, ↓reduceIte, Nat.one_ne_zero]
          rw [bE hy]
          simp (disch := omega) only [nI_ltI, nI_leI, nI_eq, q_okn, nI_clamp, nI_add, pk_mul, pk_sub, pk_div, q_nlt9, q_neg0, q_ne9, q_9ne, q_nle9, ↓reduceIte, lc_let, ss_eq, Nat.reduceLeDiff]
      · obtain ⟨r, g', m', p1, p2, p3, p4, p5, p6⟩ := q_rounds (cos_rm hr hg8 c) (Iv_a hi (by omega) c) (show u ≤ 100 by omega)
        have hf := cos_fw p5
        obtain ⟨w1, w2⟩ := h.back (M' := va_up M 1 (nB g')) hf (fun k hk => lc_up_off _ _ (by omega)) (lc_up_off _ _ (by omega))
        have e4 : m' 0 4 = nI (g' 0 8) := by
          have : m' 0 4 + nI 0 = nI (g' 0 8) := p3.1.2.2.2.2.2.2.2.2
          rw [show m' 0 4 + nI 0 = m' 0 4 from Int32.add_zero _] at this
          exact this
        exact ⟨0, nI (g' 0 8), va_up M 1 (nB g'), nI (g' 0 8), crw (lc_ss m' 0 3 (-9)) 1 0 2 0 107, cos_x e1 hy hcp p1, cos_y e2 hy p2 e4, lc_up_off _ _ (by omega), by rw [w2]; rfl, fun _ => rfl, w1⟩
    · rw [if_neg hc] at e1 e2
      exact no e1 e2
