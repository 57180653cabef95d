/-! ===== the pure claim: calls that change the battery ===== -/
variable {M M' : lc_MM} {s s' : lc_St}
theorem n00 : nI 0 = (0 : Int32) := by decide +kernel
theorem Rel.now (h : Rel M s) {g : Nat → Nat → Nat} {d : Option Int32} (hr : RM 8 d s' g) (hi : Iv g) (hf : Fw s s') : Rel (va_up M 0 (nB g)) s' := by
  obtain ⟨a, b, c, ⟨f, n, d1, d2, d3, d4, d5, d6⟩, ⟨q, q1, q2, q3, q4⟩⟩ := h
  refine ⟨?_, hf.2.2 b, fun k hk => ?_, ⟨f, n, d1, d2, by rw [lc_up_off _ _ (by omega)]; exact d3, by rw [lc_up_off _ _ (by omega)]; exact d4, by rw [hf.2.1 1 (by omega) (by omega)]; exact d5, fun i hi => ?_⟩, ⟨q, q1, by rw [lc_up_off _ _ (by omega)]; exact q2, by rw [hf.2.1 2 (by omega) (by omega)]; exact q3, fun i hi => ?_⟩⟩
  · rw [lc_up_at]; exact Pr.mk hi hr (hf.2.2 b)
  · have := c k hk
    unfold Sl at this ⊢
    rw [lc_up_off _ _ (by omega), hf.1 4 (by omega), lc_up_off _ _ (by omega), hf.1 3 (by omega)]
    exact this
  · have := d6 i hi
    rw [lc_up_off _ _ (by omega), hf.1 5 (by omega)]
    exact this
  · rw [lc_up_off _ _ (by omega), hf.1 6 (by omega)]; exact q4 i hi
theorem RM_03 {g : Nat → Nat → Nat} {d : Option Int32} (hr : RM 8 d s g) (h1 : s' 1 = s 1) (h3 : s' 0 3 = s 0 3) (h4 : s' 0 4 = s 0 4) : RM 8 d s' g := by
  unfold RM RMa RMc RMl at *
  rw [h1, h3, h4]; exact hr
/-- remembering, with the battery's numbers kept -/
theorem q_rem2 (h : Rel M s) {g : Nat → Nat → Nat} {d : Option Int32} (hr : RM 8 d s g) : ∃ M1 s1, P_X1_remember 0 M = some M1 ∧ P_X4_remember (lc_ss s 0 0 (nI 0)) = some s1 ∧ Rel M1 s1 ∧ RM 8 d s1 g ∧ M1 0 = M 0 ∧ M1 1 = M 1 ∧ M1 22 = M 22 ∧ s1 0 0 = nI 0 ∧ s1 8 = s 8 ∧ s1 1 = s 1 := by
  obtain ⟨M1, s1, a1, a2, a3, a4, a5, a6⟩ := q_rem (h.t0 (nI 0))
  refine ⟨M1, s1, a1, a2, a3, RM_03 (RM_00 hr (nI 0)) (a5 1 (by omega) (by omega)) (a6 3 (by omega)) (a6 4 (by omega)), a4 0 (by omega), a4 1 (by omega), a4 22 (by omega), by rw [a6 0 (by omega), ss_eq], by rw [a5 8 (by omega) (by omega), ss_off _ _ _ (by omega)], by rw [a5 1 (by omega) (by omega), ss_off _ _ _ (by omega)]⟩
theorem Cl.yes {kap : Nat → Option Int32} {X : Option (Nat × Int32 × lc_MM)} {Y : Option (Int32 × lc_St)} {M1 : lc_MM} {s1 : lc_St} {g : Nat → Nat → Nat} {d : Option Int32} (hk : kap 0 = some (nI 0)) (h1 : Rel M1 s1) (h22 : M1 22 = M 22) (h0 : s1 0 0 = nI 0) (hr : RM 8 d s' g) (hi : Iv g) (hf : Fw s1 s') {r : Int32} (hX : X = some (0, r, va_up M1 0 (nB g))) (hY : Y = some (r, s')) : Cl kap M X Y :=
  ⟨0, r, _, r, s', hX, hY, by rw [lc_up_off _ _ (by omega)]; exact h22, by rw [hf.2.1 0 (by omega) (by omega), h0]; exact hk, fun _ => rfl, h1.now hr hi hf⟩
theorem r_addCell (h : Rel M s) (x y z : Int32) : Cl kD M (P_X3_addCell x y z M) (P_X4_addCell x y z s) := by
  obtain ⟨g, d, hb, hi, hr⟩ := h.1.rm h.2.1
  have h8 := hi.1
  have no : P_X3_addCell x y z M = some (1, 0, M) → P_X4_addCell x y z s = P_X4_addCell_50 x y z (nI 1) s → Cl kD M (P_X3_addCell x y z M) (P_X4_addCell x y z s) := by
    intro q1 q2
    refine Cl.no (e := 1) (w := nI 1) h (by omega) q1 ?_ rfl
    rw [q2]
    unfold P_X4_addCell_50
    simp (disch := omega) only [q_0, q_1, q_2, q_3, q_4, q_5, q_6, q_7, q_8, q_10, q_12, q_14, q_20, q_47, q_50, q_99, q_100, q_107, q_120, q_792, nI_ltI, nI_leI, nI_eq, q_okn, nI_clamp, nI_add, pk_mul, pk_sub, pk_div, q_nlt9, q_neg0, q_ne9, q_9ne, q_nle9, ↓reduceIte, lc_let, ss_eq, Nat.reduceLeDiff]
  have C : P_X3_addCell x y z M = lc_bd (P_X4_in x (nI 10) (nI 99)) _ := rfl
  have D : P_X4_addCell x y z s = lc_bd (P_X4_in x (nI 10) (nI 99)) _ := rfl
  rcases in_cases x 10 99 (by omega) (by omega) with hx | ⟨a, ha1, ha2, rfl, hx⟩
  · refine no ?_ ?_
    · rw [C, bE hx, if_pos n00]
    · rw [D, bE hx, if_pos n00]; rfl
  · rcases in_cases y 0 a (by omega) (by omega) with hy | ⟨b, hb1, hb2, rfl, hy⟩
    · refine no ?_ ?_
      · rw [C, bE hx, if_neg (by decide +kernel)]
        have hy2 : P_X3_isWithin y 0 (nI a) = some (nI 0) := hy
        rw [bE hy2, if_pos n00]
      · rw [D, bE hx, if_neg (by decide +kernel)]
        have hy2 : P_X4_in y 0 (nI a) = some (nI 0) := hy
        rw [bE hy2, if_pos n00]; rfl
    · have hy2 : P_X3_isWithin (nI b) 0 (nI a) = some (nI 1) := hy
      have hy3 : P_X4_in (nI b) 0 (nI a) = some (nI 1) := hy
      rcases in_cases z 0 3 (by omega) (by omega) with hz | ⟨c, hc1, hc2, rfl, hz⟩
      · have hz2 : P_X3_isWithin z 0 3 = some (nI 0) := hz
        have hz3 : P_X4_in z 0 3 = some (nI 0) := hz
        refine no ?_ ?_
        · rw [C, bE hx, if_neg (by decide +kernel), bE hy2, if_neg (by decide +kernel), bE hz2, if_pos n00]
        · rw [D, bE hx, if_neg (by decide +kernel), bE hy3, if_neg (by decide +kernel), bE hz3, if_pos n00]; rfl
      · have hz2 : P_X3_isWithin (nI c) 0 3 = some (nI 1) := hz
        have hz3 : P_X4_in (nI c) 0 3 = some (nI 1) := hz
        by_cases hn : g 0 0 < 8
        · obtain ⟨M1, s1, p1, p2, p3, p4, p5, p6, p7, p8, p9, p10⟩ := q_rem2 h hr
          refine Cl.yes (M1 := M1) (s1 := s1) (r := nI (g 0 0)) rfl p3 p7 p8 (RM_nc p4 hn hi.2.1 a b c) (Iv_nc hi hn ha1 ha2 hb2 hc2) (ncM_fr _ _ _ _ _).w ?_ ?_
          · rw [C, bE hx, if_neg (by decide +kernel), bE hy2, if_neg (by decide +kernel), bE hz2, if_neg (by decide +kernel), hb, if_pos (by rw [nB_at]; simp only [q_0, q_1, q_2, q_3, q_4, q_5, q_6, q_7, q_8, q_10, q_12, q_14, q_20, q_47, q_50, q_99, q_100, q_107, q_120, q_792]; rw [nI_ltI (by omega) (by omega)]; exact hn), bE p1, p5, hb, bE2 (x0_put hn a b c)]
            rfl
          · rw [D, bE hx, if_neg (by decide +kernel), bE hy3, if_neg (by decide +kernel), bE hz3, if_neg (by decide +kernel), if_neg (by rw [rm_nc hr]; simp only [q_0, q_1, q_2, q_3, q_4, q_5, q_6, q_7, q_8, q_10, q_12, q_14, q_20, q_47, q_50, q_99, q_100, q_107, q_120, q_792]; rw [nI_eq (by omega) (by omega)]; omega)]
            unfold P_X4_addCell_50
            simp (disch := omega) only [q_0, q_1, q_2, q_3, q_4, q_5, q_6, q_7, q_8, q_10, q_12, q_14, q_20, q_47, q_50, q_99, q_100, q_107, q_120, q_792, nI_ltI, nI_leI, nI_eq, q_okn, nI_clamp, nI_add, pk_mul, pk_sub, pk_div, q_nlt9, q_neg0, q_ne9, q_9ne, q_nle9, ↓reduceIte, lc_let, ss_eq, Nat.le_refl]
            rw [bE p2, bE2 (x4_newCell p4 hn a b c)]
        · refine Cl.no (e := 2) (w := nI 2) h (by omega) ?_ ?_ rfl
          · rw [C, bE hx, if_neg (by decide +kernel), bE hy2, if_neg (by decide +kernel), bE hz2, if_neg (by decide +kernel), hb, if_neg (by rw [nB_at]; simp only [q_0, q_1, q_2, q_3, q_4, q_5, q_6, q_7, q_8, q_10, q_12, q_14, q_20, q_47, q_50, q_99, q_100, q_107, q_120, q_792]; rw [nI_ltI (by omega) (by omega)]; exact hn)]
          · rw [D, bE hx, if_neg (by decide +kernel), bE hy3, if_neg (by decide +kernel), bE hz3, if_neg (by decide +kernel), if_pos (by rw [rm_nc hr]; simp only [q_0, q_1, q_2, q_3, q_4, q_5, q_6, q_7, q_8, q_10, q_12, q_14, q_20, q_47, q_50, q_99, q_100, q_107, q_120, q_792]; rw [nI_eq (by omega) (by omega)]; omega)]
            unfold P_X4_addCell_50
            simp (disch := omega) only [q_0, q_1, q_2, q_3, q_4, q_5, q_6, q_7, q_8, q_10, q_12, q_14, q_20, q_47, q_50, q_99, q_100, q_107, q_120, q_792, nI_ltI, nI_leI, nI_eq, q_okn, nI_clamp, nI_add, pk_mul, pk_sub, pk_div, q_nlt9, q_neg0, q_ne9, q_9ne, q_nle9, ↓reduceIte, lc_let, ss_eq, Nat.reduceLeDiff]
theorem r_charge (h : Rel M s) (x : Int32) : Cl kA M (P_X3_charge x M) (P_X4_charge x s) := by
  obtain ⟨g, d, hb, hi, hr⟩ := h.1.rm h.2.1
  rcases in_cases x 1 99 (by omega) (by omega) with hx | ⟨u, hu1, hu2, rfl, hx⟩
  · have hu := x3_units x hx (by omega)
    refine Cl.no (e := 1) (w := nI 1) h (by omega) ?_ ?_ rfl
    · unfold P_X3_charge
      rw [bE hu, if_pos n00]
    · unfold P_X4_charge P_X4_charge_16
      simp only [q_0, q_1, q_2, q_3, q_4, q_5, q_6, q_7, q_8, q_10, q_12, q_14, q_20, q_47, q_50, q_99, q_100, q_107, q_120, q_792]
      rw [bE hx]
      simp (disch := omega) only [nI_ltI, nI_leI, nI_eq, q_okn, nI_clamp, nI_add, pk_mul, pk_sub, pk_div, q_nlt9, q_neg0, q_ne9, q_9ne, q_nle9, ↓reduceIte, lc_let, ss_eq, Nat.reduceLeDiff]
  · have hu := x3_units (nI u) hx (by omega)
    obtain ⟨M1, s1, p1, p2, p3, p4, p5, p6, p7, p8, p9, p10⟩ := q_rem2 h hr
    obtain ⟨r, g', m', q1, q2, q3, q4, q5, _⟩ := q_fill p4 hi hu2
    refine Cl.yes (M1 := M1) (s1 := s1) (r := nI r) rfl p3 p7 p8 q3 q4 q5.w ?_ ?_
    · unfold P_X3_charge
      rw [bE hu, if_neg (by decide +kernel), bE p1, p5, hb, bE2 q1]
      rfl
    · unfold P_X4_charge P_X4_charge_16
      simp only [q_0, q_1, q_2, q_3, q_4, q_5, q_6, q_7, q_8, q_10, q_12, q_14, q_20, q_47, q_50, q_99, q_100, q_107, q_120, q_792]
      rw [bE hx]
      simp (disch := omega) only [nI_ltI, nI_leI, nI_eq, q_okn, nI_clamp, nI_add, pk_mul, pk_sub, pk_div, q_nlt9, q_neg0, q_ne9, q_9ne, q_nle9, ↓reduceIte, lc_let, ss_eq, Nat.le_refl, Nat.one_ne_zero]
      rw [bE p2, bE2 q2]
theorem r_pass (h : Rel M s) (x : Int32) : Cl kA M (P_X3_pass x M) (P_X4_pass x s) := by
  obtain ⟨g, d, hb, hi, hr⟩ := h.1.rm h.2.1
  have C : P_X3_pass x M = lc_bd (P_X4_in x (nI 1) (nI 50)) _ := rfl
  rcases in_cases x 1 50 (by omega) (by omega) with hx | ⟨u, hu1, hu2, rfl, hx⟩
  · refine Cl.no (e := 1) (w := nI 1) h (by omega) ?_ ?_ rfl
    · rw [C, bE hx, if_pos n00]
    · unfold P_X4_pass P_X4_pass_16
      simp only [q_0, q_1, q_2, q_3, q_4, q_5, q_6, q_7, q_8, q_10, q_12, q_14, q_20, q_47, q_50, q_99, q_100, q_107, q_120, q_792]
      rw [bE hx]
      simp (disch := omega) only [nI_ltI, nI_leI, nI_eq, q_okn, nI_clamp, nI_add, pk_mul, pk_sub, pk_div, q_nlt9, q_neg0, q_ne9, q_9ne, q_nle9, ↓reduceIte, lc_let, ss_eq, Nat.reduceLeDiff]
  · obtain ⟨M1, s1, p1, p2, p3, p4, p5, p6, p7, p8, p9, p10⟩ := q_rem2 h hr
    obtain ⟨r, g', m', q1, q2, q3, q4, q5, _⟩ := q_rounds p4 hi (show u ≤ 100 by omega)
    refine Cl.yes (M1 := M1) (s1 := s1) (r := nI r) rfl p3 p7 p8 q3 q4 q5.w ?_ ?_
    · rw [C, bE hx, if_neg (by decide +kernel), bE p1, p5, hb, bE2 q1]
      rfl
    · unfold P_X4_pass P_X4_pass_16
      simp only [q_0, q_1, q_2, q_3, q_4, q_5, q_6, q_7, q_8, q_10, q_12, q_14, q_20, q_47, q_50, q_99, q_100, q_107, q_120, q_792]
      rw [bE hx]
      simp (disch := omega) only [nI_ltI, nI_leI, nI_eq, q_okn, nI_clamp, nI_add, pk_mul, pk_sub, pk_div, q_nlt9, q_neg0, q_ne9, q_9ne, q_nle9, ↓reduceIte, lc_let, ss_eq, Nat.le_refl, Nat.one_ne_zero]
      rw [bE p2, bE2 q2]
theorem r_setLeak (h : Rel M s) (x y : Int32) : Cl kB M (P_X3_setLeak x y M) (P_X4_setLeak x y s) := by
  obtain ⟨g, d, hb, hi, hr⟩ := h.1.rm h.2.1
  have h8 := hi.1
  have no : P_X0_hasCell x (M 0) = some (nI 0) → P_X4_isCell x s = some (nI 0) → Cl kB M (P_X3_setLeak x y M) (P_X4_setLeak x y s) := by
    intro q1 q2
    refine Cl.no (e := 3) (w := nI 1) h (by omega) ?_ ?_ rfl
    · unfold P_X3_setLeak
      rw [bE q1, if_pos n00]
    · unfold P_X4_setLeak P_X4_setLeak_27
      rw [bE q2]
      simp (disch := omega) only [q_0, q_1, q_2, q_3, q_4, q_5, q_6, q_7, q_8, q_10, q_12, q_14, q_20, q_47, q_50, q_99, q_100, q_107, q_120, q_792, nI_ltI, nI_leI, nI_eq, q_okn, nI_clamp, nI_add, pk_mul, pk_sub, pk_div, q_nlt9, q_neg0, q_ne9, q_9ne, q_nle9, ↓reduceIte, lc_let, ss_eq, Nat.reduceLeDiff]
  rcases q_cases x with hx | ⟨c, hc31, rfl⟩
  · exact no (x0_hasn hx) (x4_isCelln hx)
  · have e1 := x0_has hi hc31
    have e2 := x4_isCell hr hi hc31
    by_cases hc : c < g 0 0
    · rw [if_pos hc] at e1 e2
      have hc8 : c < 8 := by omega
      rcases in_cases y 0 3 (by omega) (by omega) with hy | ⟨v, hv1, hv2, rfl, hy⟩
      · have hy2 : P_X3_isWithin y 0 3 = some (nI 0) := hy
        refine Cl.no (e := 1) (w := nI 2) h (by omega) ?_ ?_ rfl
        · unfold P_X3_setLeak
          rw [hb, bE e1, if_neg (by decide +kernel), bE hy2, if_pos n00]
        · unfold P_X4_setLeak P_X4_setLeak_27
          simp only [q_0, q_1, q_2, q_3, q_4, q_5, q_6, q_7, q_8, q_10, q_12, q_14, q_20, q_47, q_50, q_99, q_100, q_107, q_120, q_792]
          rw [bE e2]
          simp (disch := omega) only [nI_ltI, nI_leI, nI_eq, q_okn, nI_clamp, nI_add, pk_mul, pk_sub, pk_div, q_nlt9, q_neg0, q_ne9, q_9ne, q_nle9, ↓reduceIte, Nat.one_ne_zero]
          rw [bE hy]
          simp (disch := omega) only [nI_ltI, nI_leI, nI_eq, q_okn, nI_clamp, nI_add, pk_mul, pk_sub, pk_div, q_nlt9, q_neg0, q_ne9, q_9ne, q_nle9, ↓reduceIte, lc_let, ss_eq, Nat.reduceLeDiff]
      · have hy2 : P_X3_isWithin (nI v) 0 3 = some (nI 1) := hy
        obtain ⟨M1, s1, p1, p2, p3, p4, p5, p6, p7, p8, p9, p10⟩ := q_rem2 h hr
        refine Cl.yes (M1 := M1) (s1 := s1) (r := nI (g 3 c)) (s' := lc_ss s1 1 (7 + 5 * c + 2) (nI v)) rfl p3 p7 p8 (RM_c2 p4 hc8 v) (Iv_c2 hi hc hv2) ((Fr.rf s1).s1 _ _).w ?_ ?_
        · unfold P_X3_setLeak
          rw [hb, bE e1, if_neg (by decide +kernel), bE hy2, if_neg (by decide +kernel), bE p1, p5, hb]
          simp (disch := omega) only [q_ift, nI_ltI, nI_leI, nI_eq, q_okn, nI_clamp, nI_add, pk_mul, pk_sub, pk_div, q_nlt9, q_neg0, q_ne9, q_9ne, q_nle9, lc_let, nB_at, nB_ss]
        · have hl := (p4.2.1 c hc).2.2.1
          unfold P_X4_setLeak P_X4_setLeak_27
          simp only [q_0, q_1, q_2, q_3, q_4, q_5, q_6, q_7, q_8, q_10, q_12, q_14, q_20, q_47, q_50, q_99, q_100, q_107, q_120, q_792]
          rw [bE e2]
          simp (disch := omega) only [nI_ltI, nI_leI, nI_eq, q_okn, nI_clamp, nI_add, pk_mul, pk_sub, pk_div, q_nlt9, q_neg0, q_ne9, q_9ne, q_nle9, ↓reduceIte, Nat.one_ne_zero]
          rw [bE hy]
          simp (disch := omega) only [nI_ltI, nI_leI, nI_eq, q_okn, nI_clamp, nI_add, pk_mul, pk_sub, pk_div, q_nlt9, q_neg0, q_ne9, q_9ne, q_nle9, ↓reduceIte, lc_let, ss_eq, Nat.le_refl, Nat.one_ne_zero]
          rw [bE p2, bE (x4_of2 p4 hi hc), bE (x4_more _ hc8 (show 2 < 5 by omega)), hl, show nI (g 3 c) + (nI v - nI (g 3 c)) = nI v by rw [Int32.add_comm, Int32.sub_add_cancel]]
    · rw [if_neg hc] at e1 e2
      exact no (by rw [hb]; exact e1) e2
