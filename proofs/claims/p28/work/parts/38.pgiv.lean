/-! ===== the pure claim: borrowing and giving ===== -/
variable {e : Nat} {m : lc_St} {g : Nat → Nat → Nat} {M M' : lc_MM}
theorem q_sublt {a b u : Nat} (ha : a < 2 ^ 30) (hb : b < 2 ^ 30) (hu : u < 2 ^ 30) : (nI a - nI b < nI u) = (a < b + u) := by
  rw [eq_iff_iff, Int32.lt_iff_toInt_lt, pk_sub_toInt ha hb, nI_toInt (by omega)]
  omega
theorem q_suble {a b u : Nat} (ha : a < 2 ^ 30) (hb : b < 2 ^ 30) (hu : u < 2 ^ 30) : (nI u ≤ nI a - nI b) = (b + u ≤ a) := by
  rw [eq_iff_iff, Int32.le_iff_toInt_le, pk_sub_toInt ha hb, nI_toInt (by omega)]
  omega
theorem q_sub0 {a b : Nat} (ha : a < 2 ^ 30) (hb : b < 2 ^ 30) : (nI a - nI b ≤ nI 0) = (a ≤ b) := by
  rw [eq_iff_iff, Int32.le_iff_toInt_le, pk_sub_toInt ha hb, nI_toInt (by omega)]
  omega
/-- one cell borrows up to u, in the law and in the class -/
theorem q_borrow (hi : Iv g) (hn : Cn g) (hr : QM 8 m g) (K : Int32 → Int32 → lc_St → Option (Int32 × lc_St)) {c u : Nat} (hc : c < g 0 0) (h3 : g 4 c < 3) (hlow : g 2 c < u) (hu : u ≤ 99) : ((∃ b, P_X0_borrowUpTo (nI c) (nI u) (nB g) = some (nI 0, b)) ∧ P_L_borrow_49 K lc_FU (nI u) (nI c) (nI (u - g 2 c)) (-nI 1) (nI (g 0 0) - nI 1) m = some (nI 0, m)) ∨ (∃ g' m', P_X0_borrowUpTo (nI c) (nI u) (nB g) = some (nI 1, nB g') ∧ P_L_borrow_49 K lc_FU (nI u) (nI c) (nI (u - g 2 c)) (-nI 1) (nI (g 0 0) - nI 1) m = P_L_borrow_194 K (nI u) (nI c) m' ∧ QM 8 m' g' ∧ Iv g' ∧ Cn g' ∧ g' 4 = g 4 ∧ g' 0 0 = g 0 0 ∧ u ≤ g' 2 c ∧ ∀ x, u ≤ g 2 x → u ≤ g' 2 x) := by
  have h8 := hi.1
  have h6 := hr.2.2.2.2
  have h12 := hi.2.1
  have hcl := hi.2.2.1 c hc
  obtain ⟨r, e1, bs⟩ := x0_rich hi (c := c) (by omega)
  obtain ⟨r2, br, e2⟩ := l_from hr hi K (nI u) (nI (u - g 2 c)) hc (g 0 0) (-nI 1) lc_FU (Nat.le_refl _) (Or.inl ⟨rfl, fun y hy q => absurd q.1 (by omega)⟩) (q_FUn (by omega))
  rw [e2, P_L_borrow_49, if_pos q_m1]
  unfold P_X0_borrowUpTo
  simp only [q_0, q_1, q_2, q_3, q_4, q_5, q_6, q_7, q_8, q_10, q_11, q_12, q_13, q_14, q_20, q_26, q_30, q_40, q_50, q_51, q_56, q_60, q_90, q_99, q_100, q_19]
  rw [bE e1]
  rcases Bs_Br bs br with ⟨q1, q2⟩ | ⟨b, hel, q1, q2⟩
  · subst q1; subst q2
    rw [if_pos rfl, if_pos q_m1n]
    exact Or.inl ⟨⟨_, rfl⟩, rfl⟩
  · subst q1; subst q2
    obtain ⟨hb, hbc, hb3⟩ := hel
    have hbl := hi.2.2.1 b hb
    obtain ⟨s, t1, t2, t3, t4, t5⟩ := x0_size (nB g) (u := u - g 2 c) (y := b) (z := c) (by omega) (by omega) (by omega)
    have hL := x0_makeLoan (r := 10) hi hb hc hbc (show s ≤ 1000 by omega)
    have S := l_sizes hr K (u := u - g 2 c) (r := s) (nn := u) hb hc (by omega) hu t3 (by omega) (by omega) t5 (s - 1) 1 lc_FU (by omega) (q_FUn (by omega))
    have kc := qm_c0 hr hc
    have nl := qm_nl hr
    simp (disch := omega) only [nI_ltI, nI_leI, nI_eq, q_okn, nI_clamp, nI_add, pk_mul, pk_sub, pk_div, q_nlt9, q_neg0, q_ne9, q_9ne, q_nle9, ↓bE (x0_charge hi hc), ↓bE (x0_charge hi hb), ↓bE t1, ↓reduceIte, nl, kc, q_sublt, q_suble, Nat.not_lt_zero, q_ift, q_ifT]
    by_cases hA : s + u ≤ g 2 b
    · by_cases hB : g 1 c < u
      · have hn : ¬ clG g b c s := fun q => by have := q.2.2.2.2; omega
        rw [if_neg hn] at hL
        simp (disch := omega) only [hB, show ¬ g 2 b < s + u by omega, ↓reduceIte]
        rw [bE2 hL, if_pos rfl]
        first | exact Or.inl ⟨⟨_, rfl⟩, rfl⟩ | exact Or.inl ⟨⟨_, rfl⟩, trivial⟩
      · by_cases hC : g 0 1 = 12
        · have hn : ¬ clG g b c s := fun q => by have := q.2.2.1; omega
          rw [if_neg hn] at hL
          simp (disch := omega) only [hB, hC, show ¬ g 2 b < s + u by omega, ↓reduceIte]
          rw [bE2 hL, if_pos rfl]
          first | exact Or.inl ⟨⟨_, rfl⟩, rfl⟩ | exact Or.inl ⟨⟨_, rfl⟩, trivial⟩
        · have hcl2 : clG g b c s := ⟨hb3, h3, by omega, by omega, by omega⟩
          rw [if_pos hcl2] at hL
          obtain ⟨m', p1, p2, p3⟩ := l_lends hr hi hb hc hbc (by omega) (by omega) (show 10 ≤ 50 by omega) hcl2
          have ha := arr_le s b c
          rw [if_pos (by omega), bE2 p1] at S
          refine Or.inr ⟨lendS g b c s 10, m', ?_, ?_, p2, p3, Cn_lend hn hb hc hbc hcl2.2.2.2.1, lendS_r _ _ _ _ _ (by omega), lendS_0 _ _ _ _ _ (by omega) (by omega), ?_, fun x hx => ?_⟩
          · simp (disch := omega) only [show ¬ g 2 b < s + u by omega, ↓reduceIte]
            rw [bE2 hL, if_neg (by rw [q_ne9 (by omega)]; exact not_false)]
          · simp (disch := omega) only [hB, hC, ↓reduceIte]
            exact S
          · rw [lendS_2y]; omega
          · by_cases q1 : x = b
            · subst q1; rw [lendS_2x _ _ _ _ _ hbc]; omega
            · by_cases q2 : x = c
              · subst q2; omega
              · rw [lendS_2 _ _ _ _ _ q1 q2]; exact hx
    · rw [if_neg (by omega)] at S
      refine Or.inl ⟨⟨_, by rw [if_pos (by omega)]⟩, ?_⟩
      by_cases hB : g 1 c < u
      · simp only [hB, ↓reduceIte]
      · by_cases hC : g 0 1 = 12
        · simp only [hB, hC, ↓reduceIte]
        · simp only [hB, hC, ↓reduceIte]
          exact S
/-- how many of the first cells are sound -/
def cs (h : Nat → Nat) : Nat → Nat
  | 0 => 0
  | n + 1 => cs h n + (if h n < 3 then 1 else 0)
theorem cs_le (h : Nat → Nat) : ∀ n, cs h n ≤ n
  | 0 => Nat.le_refl _
  | n + 1 => by
    have := cs_le h n
    show cs h n + _ ≤ _
    split <;> omega
theorem l_give1 {u : Nat} (hu : u ≤ 99) : ∀ k c (g : Nat → Nat → Nat) (m : lc_St) n1 n2, QM 8 m g → Iv g → Cn g → (∀ x, x < c → g 4 x < 3 → u ≤ g 2 x) → c + k = g 0 0 → k < n1 → k < n2 → ((∃ b, P_X0_giveEach_2 n1 (nI u) (nI c) (nB g) = some (nI 0, b)) ∧ ∃ m', P_L_borrow_3 n2 (nI u) (nI c) m = some (nI 0, m')) ∨ (∃ g' m', QM 8 m' g' ∧ Iv g' ∧ Cn g' ∧ g' 4 = g 4 ∧ g' 0 0 = g 0 0 ∧ (∀ x, x < g 0 0 → g' 4 x < 3 → u ≤ g' 2 x) ∧ P_X0_giveEach_2 n1 (nI u) (nI c) (nB g) = P_X0_giveEach_49 lc_FU (nI u) (nI 0) (nI 0) (nB g') ∧ P_L_borrow_3 n2 (nI u) (nI c) m = some (nI 1, m')) := by
  intro k
  induction k with
  | zero =>
    intro c g m n1 n2 hr hi hn hall hk h1 h2
    have h8 := hi.1
    obtain ⟨n1, rfl⟩ : ∃ q, n1 = q + 1 := ⟨n1 - 1, by omega⟩; obtain ⟨n2, rfl⟩ : ∃ q, n2 = q + 1 := ⟨n2 - 1, by omega⟩
    have hce : c = g 0 0 := by omega
    refine Or.inr ⟨g, m, hr, hi, hn, rfl, rfl, fun x hx => hall x (by omega), ?_, ?_⟩
    · rw [P_X0_giveEach_2]
      simp (disch := omega) only [nI_ltI, nI_leI, nI_eq, q_okn, nI_clamp, nI_add, pk_mul, pk_sub, pk_div, q_nlt9, q_neg0, q_ne9, q_9ne, q_nle9, nB_at, show g 0 0 ≤ c by omega, ↓reduceIte, q_0, q_1, q_2, q_3, q_4, q_5, q_6, q_7, q_8, q_10, q_11, q_12, q_13, q_14, q_20, q_26, q_30, q_40, q_50, q_51, q_56, q_60, q_90, q_99, q_100, q_19]
    · rw [P_L_borrow_3]
      simp (disch := omega) only [nI_ltI, nI_leI, nI_eq, q_okn, nI_clamp, nI_add, pk_mul, pk_sub, pk_div, q_nlt9, q_neg0, q_ne9, q_9ne, q_nle9, qm_nc hr, show g 0 0 ≤ c by omega, ↓reduceIte, q_0, q_1, q_2, q_3, q_4, q_5, q_6, q_7, q_8, q_10, q_11, q_12, q_13, q_14, q_20, q_26, q_30, q_40, q_50, q_51, q_56, q_60, q_90, q_99, q_100, q_19]
  | succ k ih =>
    intro c g m n1 n2 hr hi hn hall hk h1 h2
    have h8 := hi.1
    have h6 := hr.2.2.2.2
    obtain ⟨n1, rfl⟩ : ∃ q, n1 = q + 1 := ⟨n1 - 1, by omega⟩; obtain ⟨n2, rfl⟩ : ∃ q, n2 = q + 1 := ⟨n2 - 1, by omega⟩
    have hlt : c < g 0 0 := by omega
    have hcl := hi.2.2.1 c hlt
    have nc := qm_nc hr
    have c1 := qm_c1 hr hlt
    have c4 := qm_c4 hr hlt
    rw [P_X0_giveEach_2, P_L_borrow_3]
    simp only [q_0, q_1, q_2, q_3, q_4, q_5, q_6, q_7, q_8, q_10, q_11, q_12, q_13, q_14, q_20, q_26, q_30, q_40, q_50, q_51, q_56, q_60, q_90, q_99, q_100, q_19]
    by_cases h3 : g 4 c < 3
    · rw [if_pos h3] at c4
      by_cases hq : u ≤ g 2 c
      · have z := ih (c + 1) g m n1 n2 hr hi hn (fun x hx => by
          by_cases q : x = c
          · subst q; exact fun _ => hq
          · exact hall x (by omega)) (by omega) (by omega) (by omega)
        simp (disch := omega) only [nI_ltI, nI_leI, nI_eq, q_okn, nI_clamp, nI_add, pk_mul, pk_sub, pk_div, q_nlt9, q_neg0, q_ne9, q_9ne, q_nle9, ↓bE (x0_bank hi hlt), nB_at, nc, c1, c4, Nat.not_le.mpr hlt, h3, hq, ↓reduceIte, q_ift, q_ifT, lc_let, P_X0_giveEach_39, P_L_borrow_194, q_0, q_1, q_2, q_3, q_4, q_5, q_6, q_7, q_8, q_10, q_11, q_12, q_13, q_14, q_20, q_26, q_30, q_40, q_50, q_51, q_56, q_60, q_90, q_99, q_100, q_19, q_sub0]
        exact z
      · have hpos : ¬ u - g 2 c ≤ 0 := by omega
        rcases q_borrow hi hn hr (fun x3 x4 s => P_L_borrow_3 n2 x3 x4 s) hlt h3 (by omega) hu with ⟨⟨b, p1⟩, p2⟩ | ⟨g1, m1, p1, p2, p4, p5, p6, p7, p8, w1, w2⟩
        · refine Or.inl ⟨⟨b, ?_⟩, m, ?_⟩
          · simp (disch := omega) only [nI_ltI, nI_leI, nI_eq, q_okn, nI_clamp, nI_add, pk_mul, pk_sub, pk_div, q_nlt9, q_neg0, q_ne9, q_9ne, q_nle9, ↓bE (x0_bank hi hlt), nB_at, Nat.not_le.mpr hlt, h3, hq, ↓reduceIte, q_ift, q_ifT, lc_let, ↓bE2 p1, q_0, q_1, q_2, q_3, q_4, q_5, q_6, q_7, q_8, q_10, q_11, q_12, q_13, q_14, q_20, q_26, q_30, q_40, q_50, q_51, q_56, q_60, q_90, q_99, q_100, q_19]
          · rw [← p2]
            simp (disch := omega) only [nI_ltI, nI_leI, nI_eq, q_okn, nI_clamp, nI_add, pk_mul, pk_sub, pk_div, q_nlt9, q_neg0, q_ne9, q_9ne, q_nle9, nc, c1, c4, Nat.not_le.mpr hlt, ↓reduceIte, q_ift, q_ifT, lc_let, q_0, q_1, q_2, q_3, q_4, q_5, q_6, q_7, q_8, q_10, q_11, q_12, q_13, q_14, q_20, q_26, q_30, q_40, q_50, q_51, q_56, q_60, q_90, q_99, q_100, q_19, hpos]
        · have z := ih (c + 1) g1 m1 n1 n2 p4 p5 p6 (fun x hx hx3 => by
            by_cases q : x = c
            · subst q; exact w1
            · exact w2 x (hall x (by omega) (by rw [p7] at hx3; exact hx3))) (by omega) (by omega) (by omega)
          have C : (if nI (g 0 0) ≤ nI c then P_X0_giveEach_49 lc_FU (nI u) (nI 0) (nI 0) (nB g) else P_X0_giveEach_39 (fun x1 x2 s => P_X0_giveEach_2 n1 x1 x2 s) (nI u) (nI c) (nB g1)) = P_X0_giveEach_2 n1 (nI u) (nI (c + 1)) (nB g1) := by
            rw [if_neg (by rw [nI_leI (by omega) (by omega)]; omega)]
            simp only [P_X0_giveEach_39, lc_let, q_0, q_1, q_2, q_3, q_4, q_5, q_6, q_7, q_8, q_10, q_11, q_12, q_13, q_14, q_20, q_26, q_30, q_40, q_50, q_51, q_56, q_60, q_90, q_99, q_100, q_19, nI_add]
          have L : P_L_borrow_49 (fun x3 x4 s => P_L_borrow_3 n2 x3 x4 s) lc_FU (nI u) (nI c) (nI (u - g 2 c)) (-nI 1) (nI (g 0 0) - nI 1) m = P_L_borrow_3 n2 (nI u) (nI (c + 1)) m1 := by
            rw [p2]
            simp only [P_L_borrow_194, lc_let, q_0, q_1, q_2, q_3, q_4, q_5, q_6, q_7, q_8, q_10, q_11, q_12, q_13, q_14, q_20, q_26, q_30, q_40, q_50, q_51, q_56, q_60, q_90, q_99, q_100, q_19, nI_add]
          rw [p7, p8, ← L, pk_sub (show 1 ≤ g 0 0 by omega)] at z
          simp (disch := omega) only [nI_ltI, nI_leI, nI_eq, q_okn, nI_clamp, nI_add, pk_mul, pk_sub, pk_div, q_nlt9, q_neg0, q_ne9, q_9ne, q_nle9, ↓bE (x0_bank hi hlt), nB_at, nc, c1, c4, Nat.not_le.mpr hlt, h3, hq, ↓reduceIte, q_ift, q_ifT, lc_let, Nat.one_ne_zero, ↓bE2 p1, P_X0_giveEach_39, q_0, q_1, q_2, q_3, q_4, q_5, q_6, q_7, q_8, q_10, q_11, q_12, q_13, q_14, q_20, q_26, q_30, q_40, q_50, q_51, q_56, q_60, q_90, q_99, q_100, q_19, hpos]
          exact z
    · rw [if_neg h3] at c4
      have z := ih (c + 1) g m n1 n2 hr hi hn (fun x hx => by
        by_cases q : x = c
        · subst q; exact fun q3 => absurd q3 h3
        · exact hall x (by omega)) (by omega) (by omega) (by omega)
      simp (disch := omega) only [nI_ltI, nI_leI, nI_eq, q_okn, nI_clamp, nI_add, pk_mul, pk_sub, pk_div, q_nlt9, q_neg0, q_ne9, q_9ne, q_nle9, ↓bE (x0_bank hi hlt), nB_at, nc, c1, c4, Nat.not_le.mpr hlt, h3, ↓reduceIte, q_ift, lc_let, Nat.one_ne_zero, P_X0_giveEach_39, P_L_borrow_194, q_0, q_1, q_2, q_3, q_4, q_5, q_6, q_7, q_8, q_10, q_11, q_12, q_13, q_14, q_20, q_26, q_30, q_40, q_50, q_51, q_56, q_60, q_90, q_99, q_100, q_19]
      exact z
theorem l_give2 {u : Nat} (hu : u ≤ 99) (X10 : Int32) : ∀ k c (g : Nat → Nat → Nat) n, Iv g → (∀ x, c ≤ x → x < g 0 0 → g 4 x < 3 → u ≤ g 2 x) → c + k = g 0 0 → k < n → ∃ g1, P_X0_giveEach_49 n (nI u) (nI (u * cs (g 4) c)) (nI c) (nB g) = some (nI (u * cs (g 4) (g 0 0)), nB (gs g1 0 4 (g1 0 4 + u * cs (g 4) (g 0 0)))) ∧ (∀ (M : lc_MM) n2, QM 8 (M 22) g → k < n2 → ∃ m', P_L_isDrawn_264 n2 (nI u) X10 (nI c) M = P_L_isDrawn_264 (0 + 1) (nI u) X10 (nI (g 0 0)) (va_up M 22 m') ∧ QM 8 m' g1) ∧ Iv g1 ∧ g1 4 = g 4 ∧ (∀ k, g1 0 k = g 0 k) ∧ tn (g1 2) (g 0 0) + u * cs (g 4) (g 0 0) = tn (g 2) (g 0 0) + u * cs (g 4) c := by
  intro k
  induction k with
  | zero =>
    intro c g n hi hall hk h1
    have h8 := hi.1
    obtain ⟨n, rfl⟩ : ∃ q, n = q + 1 := ⟨n - 1, by omega⟩
    have hce : c = g 0 0 := by omega
    refine ⟨g, ?_, fun M n2 hr h2 => ⟨M 22, ?_, hr⟩, hi, rfl, fun _ => rfl, by rw [hce]⟩
    · rw [P_X0_giveEach_49, hce]
      simp (disch := omega) only [nI_ltI, nI_leI, nI_eq, q_okn, nI_clamp, nI_add, pk_mul, pk_sub, pk_div, q_nlt9, q_neg0, q_ne9, q_9ne, q_nle9, nB_at, Nat.le_refl, ↓reduceIte, lc_let, nB_ss]
    · obtain ⟨n2, rfl⟩ : ∃ q, n2 = q + 1 := ⟨n2 - 1, by omega⟩
      have nc := qm_nc hr
      rw [lc_up_self, hce, P_L_isDrawn_264, P_L_isDrawn_264, nc, if_pos (by rw [nI_leI (by omega) (by omega)]; exact Nat.le_refl _), if_pos (by rw [nI_leI (by omega) (by omega)]; exact Nat.le_refl _)]
  | succ k ih =>
    intro c g n hi hall hk h1
    have h8 := hi.1
    obtain ⟨n, rfl⟩ : ∃ q, n = q + 1 := ⟨n - 1, by omega⟩
    have hlt : c < g 0 0 := by omega
    have hcl := hi.2.2.1 c hlt
    by_cases h3 : g 4 c < 3
    · have hq := hall c (Nat.le_refl _) hlt h3
      have ecs : u * cs (g 4) c + u = u * cs (g 4) (c + 1) := by
        show _ = u * (cs (g 4) c + (if g 4 c < 3 then 1 else 0))
        rw [if_pos h3, Nat.mul_add, Nat.mul_one]
      have G4 : gs g 2 c (g 2 c - u) 4 = g 4 := gs_r _ _ _ (by omega)
      have G0 : ∀ k, gs g 2 c (g 2 c - u) 0 k = g 0 k := fun k => by rw [gs_r _ _ _ (by omega)]
      have ht := tn_gs g 2 c (g 2 c - u) hlt
      obtain ⟨g1, z1, z2, z4, z6, z7, z10⟩ := ih (c + 1) (gs g 2 c (g 2 c - u)) n (Iv_c1 hi hlt (by omega)) (fun x hx hx2 hx3 => by
        rw [gs_i _ _ _ (by omega)]
        exact hall x (by omega) (by rw [G0] at hx2; exact hx2) (by rw [G4] at hx3; exact hx3)) (by rw [G0]; omega) (by omega)
      rw [G4, G0] at z1 z10
      rw [G0] at z2
      refine ⟨g1, ?_, fun M n2 hr h2 => ?_, z4, by rw [z6, G4], fun k => by rw [z7, G0], by omega⟩
      · rw [← z1, P_X0_giveEach_49]
        simp only [q_0, q_1, q_2, q_3, q_4, q_5, q_6, q_7, q_8, q_10, q_11, q_12, q_13, q_14, q_20, q_26, q_30, q_40, q_50, q_51, q_56, q_60, q_90, q_99, q_100, q_19]
        simp (disch := omega) only [nI_ltI, nI_leI, nI_eq, q_okn, nI_clamp, nI_add, pk_mul, pk_sub, pk_div, q_nlt9, q_neg0, q_ne9, q_9ne, q_nle9, ↓bE (x0_bank hi hlt), nB_at, Nat.not_le.mpr hlt, h3, ↓reduceIte, q_ift, q_ifT, lc_let, Nat.one_ne_zero, nB_ss, P_X0_giveEach_79, q_0, q_1, q_2, q_3, q_4, q_5, q_6, q_7, q_8, q_10, q_11, q_12, q_13, q_14, q_20, q_26, q_30, q_40, q_50, q_51, q_56, q_60, q_90, q_99, q_100, q_19, ecs]
      · obtain ⟨n2, rfl⟩ : ∃ q, n2 = q + 1 := ⟨n2 - 1, by omega⟩
        have h6 := hr.2.2.2.2
        have nc := qm_nc hr
        have c1 := qm_c1 hr hlt
        have c4 := qm_c4 hr hlt
        rw [if_pos h3] at c4
        obtain ⟨m', w1, w2⟩ := z2 (va_up M 22 (lc_ss (M 22) 1 (5 * c + 1) (nI (g 2 c - u)))) n2 (by rw [lc_up_at]; exact QM_c1 hr hlt _) (by omega)
        rw [lc_up_up] at w1
        refine ⟨m', ?_, w2⟩
        rw [← w1, P_L_isDrawn_264]
        simp only [q_0, q_1, q_2, q_3, q_4, q_5, q_6, q_7, q_8, q_10, q_11, q_12, q_13, q_14, q_20, q_26, q_30, q_40, q_50, q_51, q_56, q_60, q_90, q_99, q_100, q_19]
        simp (disch := omega) only [nI_ltI, nI_leI, nI_eq, q_okn, nI_clamp, nI_add, pk_mul, pk_sub, pk_div, q_nlt9, q_neg0, q_ne9, q_9ne, q_nle9, q_0, q_1, q_2, q_3, q_4, q_5, q_6, q_7, q_8, q_10, q_11, q_12, q_13, q_14, q_20, q_26, q_30, q_40, q_50, q_51, q_56, q_60, q_90, q_99, q_100, q_19, nc, c1, c4, Nat.not_le.mpr hlt, ↓reduceIte, q_ift, q_ifT, lc_let, P_L_isDrawn_298]
    · have ecs : cs (g 4) c = cs (g 4) (c + 1) := by
        show _ = cs (g 4) c + (if g 4 c < 3 then 1 else 0)
        rw [if_neg h3, Nat.add_zero]
      obtain ⟨g1, z1, z2, z3⟩ := ih (c + 1) g n hi (fun x hx => hall x (by omega)) (by omega) (by omega)
      rw [← ecs] at z1 z3
      refine ⟨g1, ?_, fun M n2 hr h2 => ?_, z3⟩
      · rw [← z1, P_X0_giveEach_49]
        simp only [q_0, q_1, q_2, q_3, q_4, q_5, q_6, q_7, q_8, q_10, q_11, q_12, q_13, q_14, q_20, q_26, q_30, q_40, q_50, q_51, q_56, q_60, q_90, q_99, q_100, q_19]
        simp (disch := omega) only [nI_ltI, nI_leI, nI_eq, q_okn, nI_clamp, nI_add, pk_mul, pk_sub, pk_div, q_nlt9, q_neg0, q_ne9, q_9ne, q_nle9, ↓bE (x0_bank hi hlt), nB_at, Nat.not_le.mpr hlt, h3, ↓reduceIte, lc_let, Nat.one_ne_zero, P_X0_giveEach_79, q_0, q_1, q_2, q_3, q_4, q_5, q_6, q_7, q_8, q_10, q_11, q_12, q_13, q_14, q_20, q_26, q_30, q_40, q_50, q_51, q_56, q_60, q_90, q_99, q_100, q_19]
      · obtain ⟨n2, rfl⟩ : ∃ q, n2 = q + 1 := ⟨n2 - 1, by omega⟩
        have h6 := hr.2.2.2.2
        have nc := qm_nc hr
        have c1 := qm_c1 hr hlt
        have c4 := qm_c4 hr hlt
        rw [if_neg h3] at c4
        have q := QM_c1 hr hlt (g 2 c)
        rw [gs_self] at q
        obtain ⟨m', w1, w2⟩ := z2 (va_up M 22 (lc_ss (M 22) 1 (5 * c + 1) (nI (g 2 c)))) n2 (by rw [lc_up_at]; exact q) (by omega)
        rw [lc_up_up] at w1
        refine ⟨m', ?_, w2⟩
        rw [← w1, P_L_isDrawn_264]
        simp only [q_0, q_1, q_2, q_3, q_4, q_5, q_6, q_7, q_8, q_10, q_11, q_12, q_13, q_14, q_20, q_26, q_30, q_40, q_50, q_51, q_56, q_60, q_90, q_99, q_100, q_19]
        simp (disch := omega) only [nI_ltI, nI_leI, nI_eq, q_okn, nI_clamp, nI_add, pk_mul, pk_sub, pk_div, q_nlt9, q_neg0, q_ne9, q_9ne, q_nle9, q_0, q_1, q_2, q_3, q_4, q_5, q_6, q_7, q_8, q_10, q_11, q_12, q_13, q_14, q_20, q_26, q_30, q_40, q_50, q_51, q_56, q_60, q_90, q_99, q_100, q_19, nc, c1, c4, Nat.not_le.mpr hlt, ↓reduceIte, q_ift, q_ifT, lc_let, P_L_isDrawn_298, Nat.one_ne_zero, Nat.sub_zero]
