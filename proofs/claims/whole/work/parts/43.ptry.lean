/-! ===== the pure claim: draw, holds, costs, draws, most ===== -/
variable {M M' : lc_MM} {s s' : lc_St}
/-- the class copies now to trial; the model lays its row aside -/
theorem q_try (h : Rel M s) (t : lc_St) : ∃ g d, P_X0_copyFrom (M 0) t = some (nB g) ∧ Iv g ∧ RM 8 d (crw (lc_ss s 0 0 (nI 0)) 2 0 1 0 107) g ∧ ∃ g0 d0, M 0 = nB g0 ∧ Iv g0 ∧ RM 8 d0 s g0 ∧ g 0 0 = g0 0 0 ∧ g 0 4 = g0 0 4 ∧ g 0 7 = 4294967287 ∧ g 0 8 = 0 ∧ g 0 1 = g0 0 1 := by
  obtain ⟨g0, d0, hb, hi, hr⟩ := h.1.rm h.2.1
  obtain ⟨gt, ht⟩ := nB_ex t
  subst ht
  have l := cpS_lv g0 gt hi
  have hr2 : RM 8 d0 (crw (lc_ss s 0 0 (nI 0)) 2 0 1 0 107) g0 := by
    refine RM_03 hr ?_ ?_ ?_
    · rw [crw_off _ _ _ _ _ _ (by omega), ss_off _ _ _ (by omega)]
    · rw [crw_off _ _ _ _ _ _ (by omega), ss_ne _ _ _ (by omega)]
    · rw [crw_off _ _ _ _ _ _ (by omega), ss_ne _ _ _ (by omega)]
  refine ⟨cpS g0 gt, _, by rw [hb]; exact x0_copy g0 gt, l.iv hi, l.rm hr2, g0, d0, hb, hi, hr, l.1 0 (by omega), l.1 4 (by omega), rfl, rfl, l.1 1 (by omega)⟩
theorem q_put (s : lc_St) (k : Nat) (hk : k < 107) : crw (lc_ss s 0 0 (nI 0)) 2 0 1 0 107 2 k = s 1 k := by
  have z := crw_in (lc_ss s 0 0 (nI 0)) 2 0 1 0 107 k hk
  rw [Nat.zero_add] at z
  rw [z, ss_off _ _ _ (by omega)]
theorem q_putf (s : lc_St) {r : Nat} (h0 : r ≠ 0) (h2 : r ≠ 2) : crw (lc_ss s 0 0 (nI 0)) 2 0 1 0 107 r = s r := by
  rw [crw_off _ _ _ _ _ _ h2, ss_off _ _ _ h0]
theorem q_put0 (s : lc_St) {k : Nat} (h0 : k ≠ 0) : crw (lc_ss s 0 0 (nI 0)) 2 0 1 0 107 0 k = s 0 k := by
  rw [crw_off _ _ _ _ _ _ (by omega), ss_ne _ _ _ h0]
theorem q_put00 (s : lc_St) : crw (lc_ss s 0 0 (nI 0)) 2 0 1 0 107 0 0 = nI 0 := by
  rw [crw_off _ _ _ _ _ _ (by omega), ss_eq]
/-- a try is over: the model puts its row back -/
theorem Rel.back (h : Rel M s) {m : lc_St} (hf : Fw (crw (lc_ss s 0 0 (nI 0)) 2 0 1 0 107) m) (hM : ∀ k, k = 0 ∨ (3 ≤ k ∧ k ≤ 18) ∨ k = 20 ∨ k = 21 → M' k = M k) (t : M' 19 = M 19) : Rel M' (crw m 1 0 2 0 107) ∧ crw m 1 0 2 0 107 0 0 = nI 0 := by
  constructor
  · refine h.try hM (by rw [t]) (by rw [t]) (fun k hk => ?_) (fun r h3 h6 => ?_) (fun k hk => ?_)
    · have z := crw_in m 1 0 2 0 107 k hk
      rw [Nat.zero_add] at z
      rw [z, hf.1 2 (by omega), q_put s k hk]
    · rw [crw_off _ _ _ _ _ _ (by omega), hf.1 r (by omega), q_putf s (by omega) (by omega)]
    · rw [crw_off _ _ _ _ _ _ (by omega)]
      rw [hf.2.1 k (by omega) (by omega), q_put0 s (by omega)]
  · rw [crw_off _ _ _ _ _ _ (by omega), hf.2.1 0 (by omega) (by omega), q_put00]
theorem Fw.rf (m : lc_St) : Fw m m := (Fr.rf m).w
theorem r_holds (h : Rel M s) (x : Int32) : Cl kF M (P_X3_holds x M) (P_X4_holds x s) := by
  obtain ⟨g, d, hcp, hi, hr, g0, d0, hb, hi0, hr0, hg0, -⟩ := q_try h (M 1)
  have h8 := hi.1
  have no : P_X0_hasCell x (M 0) = some (nI 0) → P_X4_isCell x s = some (nI 0) → Cl kF M (P_X3_holds x M) (P_X4_holds x s) := by
    intro q1 q2
    refine Cl.no (e := 3) (w := nI 1) h (by omega) ?_ ?_ rfl
    · unfold P_X3_holds; rw [bE q1, if_pos n00]
    · unfold P_X4_holds P_X4_holds_14; rw [bE q2]
      simp (disch := omega) only [q_0, q_1, q_2, q_3, q_4, q_5, q_6, q_7, q_8, q_10, q_12, q_14, q_20, q_47, q_50, q_99, q_100, q_107, q_120, q_792, nI_ltI, nI_leI, nI_eq, q_okn, nI_clamp, nI_add, pk_mul, pk_sub, pk_div, q_nlt9, q_neg0, q_ne9, q_9ne, q_nle9, ↓reduceIte, lc_let, ss_eq, Nat.reduceLeDiff]
  rcases q_cases x with hx | ⟨c, hc31, rfl⟩
  · exact no (x0_hasn hx) (x4_isCelln hx)
  · have e1 := x0_has hi0 hc31
    have e2 := x4_isCell hr0 hi0 hc31
    by_cases hc : c < g0 0 0
    · rw [if_pos hc] at e1 e2
      -- the rounds, one after another
      have key : ∀ k i (g : Nat → Nat → Nat) (m : lc_St) (M2 : lc_MM) n1 n2, i + k = 100 → M2 1 = nB g → Iv g → RM 8 d m g → c < g 0 0 → k + 1 < n1 → k < n2 → ∃ r b m', P_X3_holds_34 n1 (nI c) (nI i) M2 = some (0, r, va_up M2 1 b) ∧ P_X4_holds_32 n2 (nI c) (nI i) m = some (r, crw m' 1 0 2 0 107) ∧ Fw m m' := by
        intro k
        induction k with
        | zero =>
          intro i g m M2 n1 n2 hik h1 hi hr hc n1h n2h
          obtain ⟨n1, rfl⟩ : ∃ q, n1 = q + 1 + 1 := ⟨n1 - 2, by omega⟩
          obtain ⟨n2, rfl⟩ : ∃ q, n2 = q + 1 := ⟨n2 - 1, by omega⟩
          have : i = 100 := by omega
          subst this
          have hb0 := x0_bank hi hc
          have hs := x4_sound hr hi hc
          rw [P_X3_holds_34, P_X4_holds_32, h1]
          simp only [q_0, q_1, q_2, q_3, q_4, q_5, q_6, q_7, q_8, q_10, q_12, q_14, q_20, q_47, q_50, q_99, q_100, q_107, q_120, q_792]
          rw [if_neg (by rw [nI_ltI (by omega) (by omega)]; omega), if_pos (by rw [nI_leI (by omega) (by omega)]; omega)]
          unfold P_X4_holds_57
          simp only [q_0, q_1, q_2, q_3, q_4, q_5, q_6, q_7, q_8, q_10, q_12, q_14, q_20, q_47, q_50, q_99, q_100, q_107, q_120, q_792]
          rw [bE hb0, bE hs, bE (x4_putBack m)]
          by_cases h3 : g 4 c < 3
          · obtain ⟨st, g', m', p1, p2, p3, p4, p5, p6, p7⟩ := q_round hr hi
            refine ⟨-9, nB g', m, ?_, ?_, Fw.rf m⟩
            · rw [if_pos h3, if_pos rfl, bE2 p1]
              simp only [lc_let, nI_add]
              rw [P_X3_holds_34]
              simp only [q_0, q_1, q_2, q_3, q_4, q_5, q_6, q_7, q_8, q_10, q_12, q_14, q_20, q_47, q_50, q_99, q_100, q_107, q_120, q_792]
              rw [if_pos (by rw [nI_ltI (by omega) (by omega)]; omega)]
            · rw [if_pos h3, if_neg (by decide +kernel)]
          · refine ⟨nI 100, nB g, m, ?_, ?_, Fw.rf m⟩
            · rw [if_neg h3, if_neg (by decide +kernel), ← h1, lc_up_self]
            · rw [if_neg h3, if_pos rfl]
        | succ k ih =>
          intro i g m M2 n1 n2 hik h1 hi hr hc n1h n2h
          obtain ⟨n1, rfl⟩ : ∃ q, n1 = q + 1 := ⟨n1 - 1, by omega⟩; obtain ⟨n2, rfl⟩ : ∃ q, n2 = q + 1 := ⟨n2 - 1, by omega⟩
          have hb0 := x0_bank hi hc
          have hs := x4_sound hr hi hc
          rw [P_X3_holds_34, P_X4_holds_32, h1]
          simp only [q_0, q_1, q_2, q_3, q_4, q_5, q_6, q_7, q_8, q_10, q_12, q_14, q_20, q_47, q_50, q_99, q_100, q_107, q_120, q_792]
          rw [if_neg (by rw [nI_ltI (by omega) (by omega)]; omega), if_neg (by rw [nI_leI (by omega) (by omega)]; omega), bE hb0, bE hs]
          by_cases h3 : g 4 c < 3
          · obtain ⟨st, g', m', p1, p2, p3, p4, p5, p6, p7⟩ := q_round hr hi
            obtain ⟨r, b, m'', z1, z2, z3⟩ := ih (i + 1) g' m' (va_up M2 1 (nB g')) n1 n2 (by omega) (lc_up_at _ _ _) p4 p3 (by omega) (by omega) (by omega)
            refine ⟨r, b, m'', ?_, ?_, p5.w.tr z3⟩
            · rw [if_pos h3, if_pos rfl, bE2 p1]
              simp only [lc_let, nI_add]
              rw [z1, lc_up_up]
            · rw [if_pos h3, if_neg (by decide +kernel), bE2 p2]
              simp only [lc_let, nI_add]
              exact z2
          · refine ⟨nI i, nB g, m, ?_, ?_, Fw.rf m⟩
            · rw [if_neg h3, if_neg (by decide +kernel), ← h1, lc_up_self]
            · rw [if_neg h3, if_pos rfl]
              unfold P_X4_holds_57
              simp only [q_0, q_1, q_2, q_3, q_4, q_5, q_6, q_7, q_8, q_10, q_12, q_14, q_20, q_47, q_50, q_99, q_100, q_107, q_120, q_792]
              rw [bE hs, bE (x4_putBack m), if_neg h3, if_pos rfl]
      obtain ⟨r, b, m', z1, z2, z3⟩ := key 100 0 g _ (va_up M 1 (nB g)) lc_FU lc_FU (by omega) (lc_up_at _ _ _) hi hr (by omega) (q_FUn (by omega)) (q_FUn (by omega))
      rw [lc_up_up] at z1
      obtain ⟨w1, w2⟩ := h.back (M' := va_up M 1 b) z3 (fun k hk => lc_up_off _ _ (by omega)) (lc_up_off _ _ (by omega))
      refine ⟨0, r, va_up M 1 b, r, _, ?_, ?_, lc_up_off _ _ (by omega), by rw [w2]; rfl, fun _ => rfl, w1⟩
      · unfold P_X3_holds
        rw [hb, bE e1, if_neg (by decide +kernel), ← hb, bE hcp]
        simp only [lc_let, q_0, q_1, q_2, q_3, q_4, q_5, q_6, q_7, q_8, q_10, q_12, q_14, q_20, q_47, q_50, q_99, q_100, q_107, q_120, q_792]
        exact z1
      · unfold P_X4_holds P_X4_holds_14
        simp only [q_0, q_1, q_2, q_3, q_4, q_5, q_6, q_7, q_8, q_10, q_12, q_14, q_20, q_47, q_50, q_99, q_100, q_107, q_120, q_792]
        rw [bE e2]
        simp (disch := omega) only [nI_ltI, nI_leI, nI_eq, q_okn, nI_clamp, nI_add, pk_mul, pk_sub, pk_div, q_nlt9, q_neg0, q_ne9, q_9ne, q_nle9, ↓reduceIte, lc_let, ss_eq, Nat.le_refl, Nat.one_ne_zero]
        rw [bE (x4_layPut _)]
        exact z2
    · rw [if_neg hc] at e1 e2
      exact no (by rw [hb]; exact e1) e2
