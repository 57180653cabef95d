/-! ===== the pure claim: the cheapest lender, what may be lent and repaid ===== -/
variable {d : Option Int32} {m : lc_St} {g : Nat → Nat → Nat}
def okB (g : Nat → Nat → Nat) (c : Nat) (x : Int32) : Prop := x = -9 ∨ ∃ b, b < g 0 0 ∧ x = nI b
theorem l_cheap (hr : RM 8 d m g) (hi : Iv g) {c u : Nat} (hc : c < g 0 0) (hs : g 4 c < 3) (hu : u ≤ g 1 c - g 2 c) : ∀ k x b z n1 n2, x + k = g 0 0 → okB g c b → z < 1000 → k < n1 → k < n2 → ∃ r, P_X0_cheapestLender_29 n1 (nI c) (nI u) b (nI z) (nI x) (nB g) = some r ∧ P_X4_bestLender_49 n2 (nI c) (nI u) b (nI z) (nI x) m = some (r, m) := by
  have h8 := hi.1
  have hcl := hi.2.2.1 c hc
  intro k
  induction k with
  | zero =>
    intro x b z n1 n2 hx hb hz h1 h2
    obtain ⟨n1, rfl⟩ : ∃ q, n1 = q + 1 := ⟨n1 - 1, by omega⟩; obtain ⟨n2, rfl⟩ : ∃ q, n2 = q + 1 := ⟨n2 - 1, by omega⟩
    have hle : g 0 0 ≤ x := by omega
    rw [P_X0_cheapestLender_29, P_X4_bestLender_49]
    simp (disch := omega) only [nB_at, q_0, q_1, q_2, q_3, q_4, q_5, q_6, q_7, q_8, q_10, q_12, q_14, q_20, q_47, q_50, q_99, q_100, q_107, q_120, q_792, nI_ltI, nI_leI, nI_eq, q_okn, nI_clamp, nI_add, pk_mul, pk_sub, pk_div, q_nlt9, q_neg0, q_ne9, q_9ne, q_nle9, lc_let, q_ift, q_ifT, q_iff, q_bd, q_bd2, q_bd3, q_nbd, q_nbd2, ↓reduceIte, and_true, true_and, Nat.one_ne_zero, Nat.reduceEqDiff, Nat.reduceLeDiff, Nat.reduceLT, rm_nc hr, hle]
    exact ⟨b, rfl, rfl⟩
  | succ k ih =>
    intro x b z n1 n2 hx hb hz h1 h2
    obtain ⟨n1, rfl⟩ : ∃ q, n1 = q + 1 := ⟨n1 - 1, by omega⟩; obtain ⟨n2, rfl⟩ : ∃ q, n2 = q + 1 := ⟨n2 - 1, by omega⟩
    have hlt : x < g 0 0 := by omega
    have hxl := hi.2.2.1 x hlt
    obtain ⟨r, e1, e2, hr1, hr2, hr3⟩ := q_size (nB g) (u := u) (y := x) (z := c) (by omega) (by omega) (by omega)
    rw [P_X0_cheapestLender_29, P_X4_bestLender_49]
    simp only [q_0, q_1, q_2, q_3, q_4, q_5, q_6, q_7, q_8, q_10, q_12, q_14, q_20, q_47, q_50, q_99, q_100, q_107, q_120, q_792]
    simp (disch := omega) only [↓bE e1, ↓bE e2, ↓bE (x4_sound hr hi hc), ↓bE (x4_sound hr hi hlt), ↓bE (x4_of1 hr hi hc), ↓bE (x4_of1 hr hi hlt), ↓bE (x4_of0 hr hi hc), ↓bE (x0_bank hi hlt), nB_at, q_0, q_1, q_2, q_3, q_4, q_5, q_6, q_7, q_8, q_10, q_12, q_14, q_20, q_47, q_50, q_99, q_100, q_107, q_120, q_792, nI_ltI, nI_leI, nI_eq, q_okn, nI_clamp, nI_add, pk_mul, pk_sub, pk_div, q_nlt9, q_neg0, q_ne9, q_9ne, q_nle9, lc_let, q_ift, q_ifT, q_iff, q_bd, q_bd2, q_bd3, q_nbd, q_nbd2, ↓reduceIte, and_true, true_and, Nat.one_ne_zero, Nat.reduceEqDiff, Nat.reduceLeDiff, Nat.reduceLT, rm_nc hr, Nat.not_le.mpr hlt, hs, show ¬ g 1 c < g 2 c + u by omega, P_X0_cheapestLender_132, P_X0_cheapestLender_125, P_X0_cheapestLender_112, P_X0_cheapestLender_107, P_X0_cheapestLender_111, P_X4_bestLender_176, P_X4_bestLender_169, P_X4_bestLender_125, P_X4_bestLender_126]
    have hn := fun b hb z hz => ih (x + 1) b z n1 n2 (by omega) hb hz (by omega) (by omega)
    by_cases hxc : x = c
    · simp only [hxc, ↓reduceIte]
      subst hxc; exact hn b hb z hz
    · have hok : okB g c (nI x) := Or.inr ⟨x, hlt, rfl⟩
      by_cases h3 : g 4 x < 3
      · by_cases h4 : r ≤ g 2 x
        · have h4' : ¬ g 2 x < r := by omega
          rcases hb with hb | ⟨b', hb1, hb⟩
          · subst hb
            simp (disch := omega) only [hxc, h3, h4, h4', nB_at, q_0, q_1, q_2, q_3, q_4, q_5, q_6, q_7, q_8, q_10, q_12, q_14, q_20, q_47, q_50, q_99, q_100, q_107, q_120, q_792, nI_ltI, nI_leI, nI_eq, q_okn, nI_clamp, nI_add, pk_mul, pk_sub, pk_div, q_nlt9, q_neg0, q_ne9, q_9ne, q_nle9, lc_let, q_ift, q_ifT, q_iff, q_bd, q_bd2, q_bd3, q_nbd, q_nbd2, ↓reduceIte, and_true, true_and, Nat.one_ne_zero, Nat.reduceEqDiff, Nat.reduceLeDiff, Nat.reduceLT, x0_chargen (b := nB g) (x := -9) (by decide +kernel)]
            by_cases h5 : r < z
            · simp only [h5, ↓reduceIte]; exact hn _ hok r (by omega)
            · by_cases h6 : r = z
              · by_cases h7 : g 2 x ≤ 0
                · simp (disch := omega) only [h6, h7, nB_at, q_0, q_1, q_2, q_3, q_4, q_5, q_6, q_7, q_8, q_10, q_12, q_14, q_20, q_47, q_50, q_99, q_100, q_107, q_120, q_792, nI_ltI, nI_leI, nI_eq, q_okn, nI_clamp, nI_add, pk_mul, pk_sub, pk_div, q_nlt9, q_neg0, q_ne9, q_9ne, q_nle9, lc_let, q_ift, q_ifT, q_iff, q_bd, q_bd2, q_bd3, q_nbd, q_nbd2, ↓reduceIte, and_true, true_and, Nat.one_ne_zero, Nat.reduceEqDiff, Nat.reduceLeDiff, Nat.reduceLT, Nat.lt_irrefl]; rw [h6] at *; exact hn _ hok z (by omega)
                · simp (disch := omega) only [h6, h7, nB_at, q_0, q_1, q_2, q_3, q_4, q_5, q_6, q_7, q_8, q_10, q_12, q_14, q_20, q_47, q_50, q_99, q_100, q_107, q_120, q_792, nI_ltI, nI_leI, nI_eq, q_okn, nI_clamp, nI_add, pk_mul, pk_sub, pk_div, q_nlt9, q_neg0, q_ne9, q_9ne, q_nle9, lc_let, q_ift, q_ifT, q_iff, q_bd, q_bd2, q_bd3, q_nbd, q_nbd2, ↓reduceIte, and_true, true_and, Nat.one_ne_zero, Nat.reduceEqDiff, Nat.reduceLeDiff, Nat.reduceLT, Nat.lt_irrefl]; rw [h6] at *; exact hn _ hok z (by omega)
              · simp (disch := omega) only [h5, h6, nB_at, q_0, q_1, q_2, q_3, q_4, q_5, q_6, q_7, q_8, q_10, q_12, q_14, q_20, q_47, q_50, q_99, q_100, q_107, q_120, q_792, nI_ltI, nI_leI, nI_eq, q_okn, nI_clamp, nI_add, pk_mul, pk_sub, pk_div, q_nlt9, q_neg0, q_ne9, q_9ne, q_nle9, lc_let, q_ift, q_ifT, q_iff, q_bd, q_bd2, q_bd3, q_nbd, q_nbd2, ↓reduceIte, and_true, true_and, Nat.one_ne_zero, Nat.reduceEqDiff, Nat.reduceLeDiff, Nat.reduceLT]; exact hn _ hok r (by omega)
          · subst hb
            have hbl := hi.2.2.1 b' hb1
            have hkb : okB g c (nI b') := Or.inr ⟨b', hb1, rfl⟩
            simp (disch := omega) only [hxc, h3, h4, h4', nB_at, q_0, q_1, q_2, q_3, q_4, q_5, q_6, q_7, q_8, q_10, q_12, q_14, q_20, q_47, q_50, q_99, q_100, q_107, q_120, q_792, nI_ltI, nI_leI, nI_eq, q_okn, nI_clamp, nI_add, pk_mul, pk_sub, pk_div, q_nlt9, q_neg0, q_ne9, q_9ne, q_nle9, lc_let, q_ift, q_ifT, q_iff, q_bd, q_bd2, q_bd3, q_nbd, q_nbd2, ↓reduceIte, and_true, true_and, Nat.one_ne_zero, Nat.reduceEqDiff, Nat.reduceLeDiff, Nat.reduceLT, x0_charge hi hb1, x4_of1 hr hi hb1]
            by_cases h5 : r < z
            · simp (disch := omega) only [h5, nB_at, q_0, q_1, q_2, q_3, q_4, q_5, q_6, q_7, q_8, q_10, q_12, q_14, q_20, q_47, q_50, q_99, q_100, q_107, q_120, q_792, nI_ltI, nI_leI, nI_eq, q_okn, nI_clamp, nI_add, pk_mul, pk_sub, pk_div, q_nlt9, q_neg0, q_ne9, q_9ne, q_nle9, lc_let, q_ift, q_ifT, q_iff, q_bd, q_bd2, q_bd3, q_nbd, q_nbd2, ↓reduceIte, and_true, true_and, Nat.one_ne_zero, Nat.reduceEqDiff, Nat.reduceLeDiff, Nat.reduceLT]; exact hn _ hok r (by omega)
            · by_cases h6 : r = z
              · by_cases h7 : g 2 x ≤ g 2 b'
                · simp (disch := omega) only [h6, h7, nB_at, q_0, q_1, q_2, q_3, q_4, q_5, q_6, q_7, q_8, q_10, q_12, q_14, q_20, q_47, q_50, q_99, q_100, q_107, q_120, q_792, nI_ltI, nI_leI, nI_eq, q_okn, nI_clamp, nI_add, pk_mul, pk_sub, pk_div, q_nlt9, q_neg0, q_ne9, q_9ne, q_nle9, lc_let, q_ift, q_ifT, q_iff, q_bd, q_bd2, q_bd3, q_nbd, q_nbd2, ↓reduceIte, and_true, true_and, Nat.one_ne_zero, Nat.reduceEqDiff, Nat.reduceLeDiff, Nat.reduceLT, Nat.lt_irrefl]; exact hn _ hkb z (by omega)
                · simp (disch := omega) only [h6, h7, nB_at, q_0, q_1, q_2, q_3, q_4, q_5, q_6, q_7, q_8, q_10, q_12, q_14, q_20, q_47, q_50, q_99, q_100, q_107, q_120, q_792, nI_ltI, nI_leI, nI_eq, q_okn, nI_clamp, nI_add, pk_mul, pk_sub, pk_div, q_nlt9, q_neg0, q_ne9, q_9ne, q_nle9, lc_let, q_ift, q_ifT, q_iff, q_bd, q_bd2, q_bd3, q_nbd, q_nbd2, ↓reduceIte, and_true, true_and, Nat.one_ne_zero, Nat.reduceEqDiff, Nat.reduceLeDiff, Nat.reduceLT, Nat.lt_irrefl]; exact hn _ hok z (by omega)
              · simp (disch := omega) only [h5, h6, nB_at, q_0, q_1, q_2, q_3, q_4, q_5, q_6, q_7, q_8, q_10, q_12, q_14, q_20, q_47, q_50, q_99, q_100, q_107, q_120, q_792, nI_ltI, nI_leI, nI_eq, q_okn, nI_clamp, nI_add, pk_mul, pk_sub, pk_div, q_nlt9, q_neg0, q_ne9, q_9ne, q_nle9, lc_let, q_ift, q_ifT, q_iff, q_bd, q_bd2, q_bd3, q_nbd, q_nbd2, ↓reduceIte, and_true, true_and, Nat.one_ne_zero, Nat.reduceEqDiff, Nat.reduceLeDiff, Nat.reduceLT]; exact hn _ hkb z (by omega)
        · simp (disch := omega) only [hxc, h3, h4, show g 2 x < r by omega, nB_at, q_0, q_1, q_2, q_3, q_4, q_5, q_6, q_7, q_8, q_10, q_12, q_14, q_20, q_47, q_50, q_99, q_100, q_107, q_120, q_792, nI_ltI, nI_leI, nI_eq, q_okn, nI_clamp, nI_add, pk_mul, pk_sub, pk_div, q_nlt9, q_neg0, q_ne9, q_9ne, q_nle9, lc_let, q_ift, q_ifT, q_iff, q_bd, q_bd2, q_bd3, q_nbd, q_nbd2, ↓reduceIte, and_true, true_and, Nat.one_ne_zero, Nat.reduceEqDiff, Nat.reduceLeDiff, Nat.reduceLT]
          exact hn b hb z hz
      · simp (disch := omega) only [hxc, h3, nB_at, q_0, q_1, q_2, q_3, q_4, q_5, q_6, q_7, q_8, q_10, q_12, q_14, q_20, q_47, q_50, q_99, q_100, q_107, q_120, q_792, nI_ltI, nI_leI, nI_eq, q_okn, nI_clamp, nI_add, pk_mul, pk_sub, pk_div, q_nlt9, q_neg0, q_ne9, q_9ne, q_nle9, lc_let, q_ift, q_ifT, q_iff, q_bd, q_bd2, q_bd3, q_nbd, q_nbd2, ↓reduceIte, and_true, true_and, Nat.one_ne_zero, Nat.reduceEqDiff, Nat.reduceLeDiff, Nat.reduceLT]
        exact hn b hb z hz
theorem q_cheap (hr : RM 8 d m g) (hi : Iv g) {c u : Nat} (hc : c < g 0 0) (hu : u ≤ 99) : ∃ r, P_X0_cheapestLender (nI c) (nI u) (nB g) = some r ∧ P_X4_bestLender_49 lc_FU (nI c) (nI u) (-9) (nI 0) (nI 0) m = some (r, m) := by
  have h8 := hi.1
  have hcl := hi.2.2.1 c hc
  unfold P_X0_cheapestLender
  by_cases h3 : g 4 c < 3
  · by_cases h4 : u ≤ g 1 c - g 2 c
    · simp (disch := omega) only [nB_at, q_0, q_1, q_2, q_3, q_4, q_5, q_6, q_7, q_8, q_10, q_12, q_14, q_20, q_47, q_50, q_99, q_100, q_107, q_120, q_792, nI_ltI, nI_leI, nI_eq, q_okn, nI_clamp, nI_add, pk_mul, pk_sub, pk_div, q_nlt9, q_neg0, q_ne9, q_9ne, q_nle9, lc_let, q_ift, q_ifT, q_iff, q_bd, q_bd2, q_bd3, q_nbd, q_nbd2, ↓reduceIte, and_true, true_and, Nat.one_ne_zero, Nat.reduceEqDiff, Nat.reduceLeDiff, Nat.reduceLT, x0_bank hi hc, x0_room hi hc, h3, h4]
      exact l_cheap hr hi hc h3 h4 (g 0 0) 0 _ 0 _ _ (by omega) (Or.inl rfl) (by omega) (q_FUn (by omega)) (q_FUn (by omega))
    · rw [q_FU, P_X4_bestLender_49]
      simp (disch := omega) only [nB_at, q_0, q_1, q_2, q_3, q_4, q_5, q_6, q_7, q_8, q_10, q_12, q_14, q_20, q_47, q_50, q_99, q_100, q_107, q_120, q_792, nI_ltI, nI_leI, nI_eq, q_okn, nI_clamp, nI_add, pk_mul, pk_sub, pk_div, q_nlt9, q_neg0, q_ne9, q_9ne, q_nle9, lc_let, q_ift, q_ifT, q_iff, q_bd, q_bd2, q_bd3, q_nbd, q_nbd2, ↓reduceIte, and_true, true_and, Nat.one_ne_zero, Nat.reduceEqDiff, Nat.reduceLeDiff, Nat.reduceLT, x0_bank hi hc, x0_room hi hc, h3, h4, rm_nc hr, x4_sound hr hi hc, x4_of1 hr hi hc, x4_of0 hr hi hc, show ¬ g 0 0 ≤ 0 by omega, show g 1 c < g 2 c + u by omega]
      exact ⟨_, rfl, rfl⟩
  · rw [q_FU, P_X4_bestLender_49]
    simp (disch := omega) only [nB_at, q_0, q_1, q_2, q_3, q_4, q_5, q_6, q_7, q_8, q_10, q_12, q_14, q_20, q_47, q_50, q_99, q_100, q_107, q_120, q_792, nI_ltI, nI_leI, nI_eq, q_okn, nI_clamp, nI_add, pk_mul, pk_sub, pk_div, q_nlt9, q_neg0, q_ne9, q_9ne, q_nle9, lc_let, q_ift, q_ifT, q_iff, q_bd, q_bd2, q_bd3, q_nbd, q_nbd2, ↓reduceIte, and_true, true_and, Nat.one_ne_zero, Nat.reduceEqDiff, Nat.reduceLeDiff, Nat.reduceLT, x0_bank hi hc, h3, rm_nc hr, x4_sound hr hi hc, show ¬ g 0 0 ≤ 0 by omega]
    exact ⟨_, rfl, rfl⟩
/-! ===== may x lend u to y ===== -/
abbrev clG (g : Nat → Nat → Nat) (x y u : Nat) : Prop := g 4 x < 3 ∧ g 4 y < 3 ∧ g 0 1 < 12 ∧ u ≤ g 2 x ∧ arr u x y ≤ g 1 y - g 2 y
theorem x0_canLend (hi : Iv g) {x y u : Nat} (hx : x < g 0 0) (hy : y < g 0 0) (hxy : x ≠ y) (hu : u ≤ 1000) : P_X0_canLend (nI x) (nI y) (nI u) (nB g) = some (nI (if clG g x y u then 1 else 0)) := by
  have h8 := hi.1
  have h12 := hi.2.1
  have hxl := hi.2.2.1 x hx
  have hyl := hi.2.2.1 y hy
  have ha := arr_le u x y
  unfold P_X0_canLend
  simp (disch := omega) only [nB_at, q_0, q_1, q_2, q_3, q_4, q_5, q_6, q_7, q_8, q_10, q_12, q_14, q_20, q_47, q_50, q_99, q_100, q_107, q_120, q_792, nI_ltI, nI_leI, nI_eq, q_okn, nI_clamp, nI_add, pk_mul, pk_sub, pk_div, q_nlt9, q_neg0, q_ne9, q_9ne, q_nle9, lc_let, q_ift, q_ifT, q_iff, q_bd, q_bd2, q_bd3, q_nbd, q_nbd2, ↓reduceIte, and_true, true_and, Nat.one_ne_zero, Nat.reduceEqDiff, Nat.reduceLeDiff, Nat.reduceLT, x0_has hi (show x < 2 ^ 31 by omega), x0_has hi (show y < 2 ^ 31 by omega), hx, hy, hxy, x0_bank hi hx, x0_bank hi hy, x0_charge hi hx, x0_room hi hy, x0_arr (b := nB g) (show u < 2 ^ 20 by omega) (show x < 8 by omega) (show y < 8 by omega)]
  by_cases h1 : g 4 x < 3
  · by_cases h2 : g 4 y < 3
    · by_cases h3 : g 0 1 < 12
      · by_cases h4 : g 2 x < u
        · have hn : ¬ clG g x y u := fun q => by have := q.2.2.2.1; omega
          simp (disch := omega) only [nB_at, q_0, q_1, q_2, q_3, q_4, q_5, q_6, q_7, q_8, q_10, q_12, q_14, q_20, q_47, q_50, q_99, q_100, q_107, q_120, q_792, nI_ltI, nI_leI, nI_eq, q_okn, nI_clamp, nI_add, pk_mul, pk_sub, pk_div, q_nlt9, q_neg0, q_ne9, q_9ne, q_nle9, lc_let, q_ift, q_ifT, q_iff, q_bd, q_bd2, q_bd3, q_nbd, q_nbd2, ↓reduceIte, and_true, true_and, Nat.one_ne_zero, Nat.reduceEqDiff, Nat.reduceLeDiff, Nat.reduceLT, h1, h2, h3, h4, hn]
        · by_cases h5 : g 1 y - g 2 y < arr u x y
          · have hn : ¬ clG g x y u := fun q => by have := q.2.2.2.2; omega
            simp (disch := omega) only [nB_at, q_0, q_1, q_2, q_3, q_4, q_5, q_6, q_7, q_8, q_10, q_12, q_14, q_20, q_47, q_50, q_99, q_100, q_107, q_120, q_792, nI_ltI, nI_leI, nI_eq, q_okn, nI_clamp, nI_add, pk_mul, pk_sub, pk_div, q_nlt9, q_neg0, q_ne9, q_9ne, q_nle9, lc_let, q_ift, q_ifT, q_iff, q_bd, q_bd2, q_bd3, q_nbd, q_nbd2, ↓reduceIte, and_true, true_and, Nat.one_ne_zero, Nat.reduceEqDiff, Nat.reduceLeDiff, Nat.reduceLT, h1, h2, h3, h4, h5, hn]
          · have hn : clG g x y u := ⟨h1, h2, h3, by omega, by omega⟩
            simp (disch := omega) only [nB_at, q_0, q_1, q_2, q_3, q_4, q_5, q_6, q_7, q_8, q_10, q_12, q_14, q_20, q_47, q_50, q_99, q_100, q_107, q_120, q_792, nI_ltI, nI_leI, nI_eq, q_okn, nI_clamp, nI_add, pk_mul, pk_sub, pk_div, q_nlt9, q_neg0, q_ne9, q_9ne, q_nle9, lc_let, q_ift, q_ifT, q_iff, q_bd, q_bd2, q_bd3, q_nbd, q_nbd2, ↓reduceIte, and_true, true_and, Nat.one_ne_zero, Nat.reduceEqDiff, Nat.reduceLeDiff, Nat.reduceLT, h1, h2, h3, h4, h5, hn, if_pos hn]
      · have hn : ¬ clG g x y u := fun q => h3 q.2.2.1
        simp (disch := omega) only [nB_at, q_0, q_1, q_2, q_3, q_4, q_5, q_6, q_7, q_8, q_10, q_12, q_14, q_20, q_47, q_50, q_99, q_100, q_107, q_120, q_792, nI_ltI, nI_leI, nI_eq, q_okn, nI_clamp, nI_add, pk_mul, pk_sub, pk_div, q_nlt9, q_neg0, q_ne9, q_9ne, q_nle9, lc_let, q_ift, q_ifT, q_iff, q_bd, q_bd2, q_bd3, q_nbd, q_nbd2, ↓reduceIte, and_true, true_and, Nat.one_ne_zero, Nat.reduceEqDiff, Nat.reduceLeDiff, Nat.reduceLT, h1, h2, h3, hn]
    · have hn : ¬ clG g x y u := fun q => h2 q.2.1
      simp (disch := omega) only [nB_at, q_0, q_1, q_2, q_3, q_4, q_5, q_6, q_7, q_8, q_10, q_12, q_14, q_20, q_47, q_50, q_99, q_100, q_107, q_120, q_792, nI_ltI, nI_leI, nI_eq, q_okn, nI_clamp, nI_add, pk_mul, pk_sub, pk_div, q_nlt9, q_neg0, q_ne9, q_9ne, q_nle9, lc_let, q_ift, q_ifT, q_iff, q_bd, q_bd2, q_bd3, q_nbd, q_nbd2, ↓reduceIte, and_true, true_and, Nat.one_ne_zero, Nat.reduceEqDiff, Nat.reduceLeDiff, Nat.reduceLT, h1, h2, hn]
  · have hn : ¬ clG g x y u := fun q => h1 q.1
    simp (disch := omega) only [nB_at, q_0, q_1, q_2, q_3, q_4, q_5, q_6, q_7, q_8, q_10, q_12, q_14, q_20, q_47, q_50, q_99, q_100, q_107, q_120, q_792, nI_ltI, nI_leI, nI_eq, q_okn, nI_clamp, nI_add, pk_mul, pk_sub, pk_div, q_nlt9, q_neg0, q_ne9, q_9ne, q_nle9, lc_let, q_ift, q_ifT, q_iff, q_bd, q_bd2, q_bd3, q_nbd, q_nbd2, ↓reduceIte, and_true, true_and, Nat.one_ne_zero, Nat.reduceEqDiff, Nat.reduceLeDiff, Nat.reduceLT, h1, hn]
theorem x4_tooMuch (hr : RM 8 d m g) (hi : Iv g) {x y u : Nat} (hx : x < g 0 0) (hy : y < g 0 0) (hu : u ≤ 1000) : P_X4_isTooMuch (nI u) (nI x) (nI y) m = some (nI (if arr u x y ≤ g 1 y - g 2 y then 0 else 1)) := by
  have h8 := hi.1
  have hyl := hi.2.2.1 y hy
  have ha := arr_le u x y
  unfold P_X4_isTooMuch
  simp (disch := omega) only [nB_at, q_0, q_1, q_2, q_3, q_4, q_5, q_6, q_7, q_8, q_10, q_12, q_14, q_20, q_47, q_50, q_99, q_100, q_107, q_120, q_792, nI_ltI, nI_leI, nI_eq, q_okn, nI_clamp, nI_add, pk_mul, pk_sub, pk_div, q_nlt9, q_neg0, q_ne9, q_9ne, q_nle9, lc_let, q_ift, q_ifT, q_iff, q_bd, q_bd2, q_bd3, q_nbd, q_nbd2, ↓reduceIte, and_true, true_and, Nat.one_ne_zero, Nat.reduceEqDiff, Nat.reduceLeDiff, Nat.reduceLT, x4_of1 hr hi hy, x4_of0 hr hi hy, x4_arr (show u < 2 ^ 20 by omega) (show x < 8 by omega) (show y < 8 by omega)]
  by_cases h : arr u x y ≤ g 1 y - g 2 y
  · rw [if_pos (by omega), if_pos h]
  · rw [if_neg (by omega), if_neg h]
theorem x4_whyLend (hr : RM 8 d m g) (hi : Iv g) {x y u r : Nat} (hx : x < g 0 0) (hy : y < g 0 0) (hxy : x ≠ y) (hu1 : 1 ≤ u) (hu : u ≤ 99) (hrr : r ≤ 50) : P_X4_whyNoLend (nI x) (nI y) (nI u) (nI r) m = some (nI (if clG g x y u then 0 else 3)) := by
  have h8 := hi.1
  have h12 := hi.2.1
  have hxl := hi.2.2.1 x hx
  have hyl := hi.2.2.1 y hy
  unfold P_X4_whyNoLend
  have i1 := x4_in 1 99 u (by omega) (by omega) (by omega)
  have i2 := x4_in 0 50 r (by omega) (by omega) (by omega)
  rw [if_pos ⟨hu1, hu⟩] at i1
  rw [if_pos ⟨Nat.zero_le r, hrr⟩] at i2
  simp only [q_0, q_1, q_2, q_3, q_4, q_5, q_6, q_7, q_8, q_10, q_12, q_14, q_20, q_47, q_50, q_99, q_100, q_107, q_120, q_792]
  simp (disch := omega) only [↓bE (x4_isCell hr hi (show x < 2 ^ 31 by omega)), ↓bE (x4_isCell hr hi (show y < 2 ^ 31 by omega)), ↓bE i1, ↓bE i2, ↓bE (x4_sound hr hi hx), ↓bE (x4_sound hr hi hy), ↓bE (x4_of1 hr hi hx), ↓bE (x4_tooMuch hr hi hx hy (show u ≤ 1000 by omega)), nB_at, q_0, q_1, q_2, q_3, q_4, q_5, q_6, q_7, q_8, q_10, q_12, q_14, q_20, q_47, q_50, q_99, q_100, q_107, q_120, q_792, nI_ltI, nI_leI, nI_eq, q_okn, nI_clamp, nI_add, pk_mul, pk_sub, pk_div, q_nlt9, q_neg0, q_ne9, q_9ne, q_nle9, lc_let, q_ift, q_ifT, q_iff, q_bd, q_bd2, q_bd3, q_nbd, q_nbd2, ↓reduceIte, and_true, true_and, Nat.one_ne_zero, Nat.reduceEqDiff, Nat.reduceLeDiff, Nat.reduceLT, hx, hy, hxy, rm_nl hr]
  by_cases h1 : g 4 x < 3
  · by_cases h2 : g 4 y < 3
    · by_cases h4 : g 2 x < u
      · have hn : ¬ clG g x y u := fun q => by have := q.2.2.2.1; omega
        simp (disch := omega) only [nB_at, q_0, q_1, q_2, q_3, q_4, q_5, q_6, q_7, q_8, q_10, q_12, q_14, q_20, q_47, q_50, q_99, q_100, q_107, q_120, q_792, nI_ltI, nI_leI, nI_eq, q_okn, nI_clamp, nI_add, pk_mul, pk_sub, pk_div, q_nlt9, q_neg0, q_ne9, q_9ne, q_nle9, lc_let, q_ift, q_ifT, q_iff, q_bd, q_bd2, q_bd3, q_nbd, q_nbd2, ↓reduceIte, and_true, true_and, Nat.one_ne_zero, Nat.reduceEqDiff, Nat.reduceLeDiff, Nat.reduceLT, h1, h2, h4, hn]
      · by_cases h5 : arr u x y ≤ g 1 y - g 2 y
        · by_cases h3 : g 0 1 = 12
          · have hn : ¬ clG g x y u := fun q => by have := q.2.2.1; omega
            simp (disch := omega) only [nB_at, q_0, q_1, q_2, q_3, q_4, q_5, q_6, q_7, q_8, q_10, q_12, q_14, q_20, q_47, q_50, q_99, q_100, q_107, q_120, q_792, nI_ltI, nI_leI, nI_eq, q_okn, nI_clamp, nI_add, pk_mul, pk_sub, pk_div, q_nlt9, q_neg0, q_ne9, q_9ne, q_nle9, lc_let, q_ift, q_ifT, q_iff, q_bd, q_bd2, q_bd3, q_nbd, q_nbd2, ↓reduceIte, and_true, true_and, Nat.one_ne_zero, Nat.reduceEqDiff, Nat.reduceLeDiff, Nat.reduceLT, h1, h2, h3, h4, h5, hn]
          · have hn : clG g x y u := ⟨h1, h2, by omega, by omega, by omega⟩
            simp (disch := omega) only [nB_at, q_0, q_1, q_2, q_3, q_4, q_5, q_6, q_7, q_8, q_10, q_12, q_14, q_20, q_47, q_50, q_99, q_100, q_107, q_120, q_792, nI_ltI, nI_leI, nI_eq, q_okn, nI_clamp, nI_add, pk_mul, pk_sub, pk_div, q_nlt9, q_neg0, q_ne9, q_9ne, q_nle9, lc_let, q_ift, q_ifT, q_iff, q_bd, q_bd2, q_bd3, q_nbd, q_nbd2, ↓reduceIte, and_true, true_and, Nat.one_ne_zero, Nat.reduceEqDiff, Nat.reduceLeDiff, Nat.reduceLT, h1, h2, h3, h4, h5, if_pos hn]
        · have hn : ¬ clG g x y u := fun q => h5 q.2.2.2.2
          simp (disch := omega) only [nB_at, q_0, q_1, q_2, q_3, q_4, q_5, q_6, q_7, q_8, q_10, q_12, q_14, q_20, q_47, q_50, q_99, q_100, q_107, q_120, q_792, nI_ltI, nI_leI, nI_eq, q_okn, nI_clamp, nI_add, pk_mul, pk_sub, pk_div, q_nlt9, q_neg0, q_ne9, q_9ne, q_nle9, lc_let, q_ift, q_ifT, q_iff, q_bd, q_bd2, q_bd3, q_nbd, q_nbd2, ↓reduceIte, and_true, true_and, Nat.one_ne_zero, Nat.reduceEqDiff, Nat.reduceLeDiff, Nat.reduceLT, h1, h2, h4, h5, hn]
    · have hn : ¬ clG g x y u := fun q => h2 q.2.1
      simp (disch := omega) only [nB_at, q_0, q_1, q_2, q_3, q_4, q_5, q_6, q_7, q_8, q_10, q_12, q_14, q_20, q_47, q_50, q_99, q_100, q_107, q_120, q_792, nI_ltI, nI_leI, nI_eq, q_okn, nI_clamp, nI_add, pk_mul, pk_sub, pk_div, q_nlt9, q_neg0, q_ne9, q_9ne, q_nle9, lc_let, q_ift, q_ifT, q_iff, q_bd, q_bd2, q_bd3, q_nbd, q_nbd2, ↓reduceIte, and_true, true_and, Nat.one_ne_zero, Nat.reduceEqDiff, Nat.reduceLeDiff, Nat.reduceLT, h1, h2, hn]
  · have hn : ¬ clG g x y u := fun q => h1 q.1
    simp (disch := omega) only [nB_at, q_0, q_1, q_2, q_3, q_4, q_5, q_6, q_7, q_8, q_10, q_12, q_14, q_20, q_47, q_50, q_99, q_100, q_107, q_120, q_792, nI_ltI, nI_leI, nI_eq, q_okn, nI_clamp, nI_add, pk_mul, pk_sub, pk_div, q_nlt9, q_neg0, q_ne9, q_9ne, q_nle9, lc_let, q_ift, q_ifT, q_iff, q_bd, q_bd2, q_bd3, q_nbd, q_nbd2, ↓reduceIte, and_true, true_and, Nat.one_ne_zero, Nat.reduceEqDiff, Nat.reduceLeDiff, Nat.reduceLT, h1, hn]
/-! ===== may u be paid back on loan i ===== -/
abbrev cpG (g : Nat → Nat → Nat) (i u : Nat) : Prop := u ≤ g 7 i ∧ u ≤ g 2 (g 6 i) ∧ arr u (g 6 i) (g 5 i) ≤ g 1 (g 5 i) - g 2 (g 5 i)
theorem x0_canPay (hi : Iv g) {i u : Nat} (hx : i < g 0 1) (hu : u ≤ 1000) : P_X0_canPayBack (nI i) (nI u) (nB g) = some (nI (if cpG g i u then 1 else 0)) := by
  have h8 := hi.1
  have h12 := hi.2.1
  have hl := hi.2.2.2 i hx
  have hxl := hi.2.2.1 _ hl.1
  have hyl := hi.2.2.1 _ hl.2.1
  have ha := arr_le u (g 6 i) (g 5 i)
  unfold P_X0_canPayBack
  simp (disch := omega) only [nB_at, q_0, q_1, q_2, q_3, q_4, q_5, q_6, q_7, q_8, q_10, q_12, q_14, q_20, q_47, q_50, q_99, q_100, q_107, q_120, q_792, nI_ltI, nI_leI, nI_eq, q_okn, nI_clamp, nI_add, pk_mul, pk_sub, pk_div, q_nlt9, q_neg0, q_ne9, q_9ne, q_nle9, lc_let, q_ift, q_ifT, q_iff, q_bd, q_bd2, q_bd3, q_nbd, q_nbd2, ↓reduceIte, and_true, true_and, Nat.one_ne_zero, Nat.reduceEqDiff, Nat.reduceLeDiff, Nat.reduceLT, x0_hasL hi (show i < 2 ^ 31 by omega), hx, x0_charge hi hl.2.1, x0_room hi hl.1, x0_arr (b := nB g) (show u < 2 ^ 20 by omega) (show g 6 i < 8 by omega) (show g 5 i < 8 by omega)]
  by_cases h1 : g 7 i < u
  · have hn : ¬ cpG g i u := fun q => by have := q.1; omega
    simp (disch := omega) only [nB_at, q_0, q_1, q_2, q_3, q_4, q_5, q_6, q_7, q_8, q_10, q_12, q_14, q_20, q_47, q_50, q_99, q_100, q_107, q_120, q_792, nI_ltI, nI_leI, nI_eq, q_okn, nI_clamp, nI_add, pk_mul, pk_sub, pk_div, q_nlt9, q_neg0, q_ne9, q_9ne, q_nle9, lc_let, q_ift, q_ifT, q_iff, q_bd, q_bd2, q_bd3, q_nbd, q_nbd2, ↓reduceIte, and_true, true_and, Nat.one_ne_zero, Nat.reduceEqDiff, Nat.reduceLeDiff, Nat.reduceLT, h1, hn]
    done
  · by_cases h2 : u ≤ g 2 (g 6 i)
    · by_cases h3 : g 1 (g 5 i) - g 2 (g 5 i) < arr u (g 6 i) (g 5 i)
      · have hn : ¬ cpG g i u := fun q => by have := q.2.2; omega
        simp (disch := omega) only [nB_at, q_0, q_1, q_2, q_3, q_4, q_5, q_6, q_7, q_8, q_10, q_12, q_14, q_20, q_47, q_50, q_99, q_100, q_107, q_120, q_792, nI_ltI, nI_leI, nI_eq, q_okn, nI_clamp, nI_add, pk_mul, pk_sub, pk_div, q_nlt9, q_neg0, q_ne9, q_9ne, q_nle9, lc_let, q_ift, q_ifT, q_iff, q_bd, q_bd2, q_bd3, q_nbd, q_nbd2, ↓reduceIte, and_true, true_and, Nat.one_ne_zero, Nat.reduceEqDiff, Nat.reduceLeDiff, Nat.reduceLT, h1, h2, h3, hn]
      · have hn : cpG g i u := ⟨by omega, h2, by omega⟩
        simp (disch := omega) only [nB_at, q_0, q_1, q_2, q_3, q_4, q_5, q_6, q_7, q_8, q_10, q_12, q_14, q_20, q_47, q_50, q_99, q_100, q_107, q_120, q_792, nI_ltI, nI_leI, nI_eq, q_okn, nI_clamp, nI_add, pk_mul, pk_sub, pk_div, q_nlt9, q_neg0, q_ne9, q_9ne, q_nle9, lc_let, q_ift, q_ifT, q_iff, q_bd, q_bd2, q_bd3, q_nbd, q_nbd2, ↓reduceIte, and_true, true_and, Nat.one_ne_zero, Nat.reduceEqDiff, Nat.reduceLeDiff, Nat.reduceLT, h1, h2, h3, if_pos hn]
    · have hn : ¬ cpG g i u := fun q => h2 q.2.1
      simp (disch := omega) only [nB_at, q_0, q_1, q_2, q_3, q_4, q_5, q_6, q_7, q_8, q_10, q_12, q_14, q_20, q_47, q_50, q_99, q_100, q_107, q_120, q_792, nI_ltI, nI_leI, nI_eq, q_okn, nI_clamp, nI_add, pk_mul, pk_sub, pk_div, q_nlt9, q_neg0, q_ne9, q_9ne, q_nle9, lc_let, q_ift, q_ifT, q_iff, q_bd, q_bd2, q_bd3, q_nbd, q_nbd2, ↓reduceIte, and_true, true_and, Nat.one_ne_zero, Nat.reduceEqDiff, Nat.reduceLeDiff, Nat.reduceLT, h1, h2, hn]
theorem x4_whyPay (hr : RM 8 d m g) (hi : Iv g) {i u : Nat} (hx : i < g 0 1) (hu1 : 1 ≤ u) (hu : u ≤ 99) : P_X4_whyNoRepay (nI i) (nI u) m = some (nI (if cpG g i u then 0 else 3)) := by
  have h8 := hi.1
  have h12 := hi.2.1
  have hl := hi.2.2.2 i hx
  have hxl := hi.2.2.1 _ hl.1
  have hyl := hi.2.2.1 _ hl.2.1
  unfold P_X4_whyNoRepay
  simp (disch := omega) only [nB_at, q_0, q_1, q_2, q_3, q_4, q_5, q_6, q_7, q_8, q_10, q_12, q_14, q_20, q_47, q_50, q_99, q_100, q_107, q_120, q_792, nI_ltI, nI_leI, nI_eq, q_okn, nI_clamp, nI_add, pk_mul, pk_sub, pk_div, q_nlt9, q_neg0, q_ne9, q_9ne, q_nle9, lc_let, q_ift, q_ifT, q_iff, q_bd, q_bd2, q_bd3, q_nbd, q_nbd2, ↓reduceIte, and_true, true_and, Nat.one_ne_zero, Nat.reduceEqDiff, Nat.reduceLeDiff, Nat.reduceLT, x4_isLoan hr hi (show i < 2 ^ 31 by omega), hx, x4_in, show 1 ≤ u ∧ u ≤ 99 from ⟨hu1, hu⟩, x4_ol0 hr hi hx, x4_ol1 hr hi hx, x4_ol2 hr hi hx, x4_of1 hr hi hl.2.1, x4_tooMuch hr hi hl.2.1 hl.1 (show u ≤ 1000 by omega)]
  by_cases h1 : g 7 i < u
  · have hn : ¬ cpG g i u := fun q => by have := q.1; omega
    simp (disch := omega) only [nB_at, q_0, q_1, q_2, q_3, q_4, q_5, q_6, q_7, q_8, q_10, q_12, q_14, q_20, q_47, q_50, q_99, q_100, q_107, q_120, q_792, nI_ltI, nI_leI, nI_eq, q_okn, nI_clamp, nI_add, pk_mul, pk_sub, pk_div, q_nlt9, q_neg0, q_ne9, q_9ne, q_nle9, lc_let, q_ift, q_ifT, q_iff, q_bd, q_bd2, q_bd3, q_nbd, q_nbd2, ↓reduceIte, and_true, true_and, Nat.one_ne_zero, Nat.reduceEqDiff, Nat.reduceLeDiff, Nat.reduceLT, h1, hn]
  · by_cases h2 : g 2 (g 6 i) < u
    · have hn : ¬ cpG g i u := fun q => by have := q.2.1; omega
      simp (disch := omega) only [nB_at, q_0, q_1, q_2, q_3, q_4, q_5, q_6, q_7, q_8, q_10, q_12, q_14, q_20, q_47, q_50, q_99, q_100, q_107, q_120, q_792, nI_ltI, nI_leI, nI_eq, q_okn, nI_clamp, nI_add, pk_mul, pk_sub, pk_div, q_nlt9, q_neg0, q_ne9, q_9ne, q_nle9, lc_let, q_ift, q_ifT, q_iff, q_bd, q_bd2, q_bd3, q_nbd, q_nbd2, ↓reduceIte, and_true, true_and, Nat.one_ne_zero, Nat.reduceEqDiff, Nat.reduceLeDiff, Nat.reduceLT, h1, h2, hn]
    · by_cases h3 : arr u (g 6 i) (g 5 i) ≤ g 1 (g 5 i) - g 2 (g 5 i)
      · have hn : cpG g i u := ⟨by omega, by omega, h3⟩
        simp (disch := omega) only [nB_at, q_0, q_1, q_2, q_3, q_4, q_5, q_6, q_7, q_8, q_10, q_12, q_14, q_20, q_47, q_50, q_99, q_100, q_107, q_120, q_792, nI_ltI, nI_leI, nI_eq, q_okn, nI_clamp, nI_add, pk_mul, pk_sub, pk_div, q_nlt9, q_neg0, q_ne9, q_9ne, q_nle9, lc_let, q_ift, q_ifT, q_iff, q_bd, q_bd2, q_bd3, q_nbd, q_nbd2, ↓reduceIte, and_true, true_and, Nat.one_ne_zero, Nat.reduceEqDiff, Nat.reduceLeDiff, Nat.reduceLT, h1, h2, h3, if_pos hn]
      · have hn : ¬ cpG g i u := fun q => h3 q.2.2
        simp (disch := omega) only [nB_at, q_0, q_1, q_2, q_3, q_4, q_5, q_6, q_7, q_8, q_10, q_12, q_14, q_20, q_47, q_50, q_99, q_100, q_107, q_120, q_792, nI_ltI, nI_leI, nI_eq, q_okn, nI_clamp, nI_add, pk_mul, pk_sub, pk_div, q_nlt9, q_neg0, q_ne9, q_9ne, q_nle9, lc_let, q_ift, q_ifT, q_iff, q_bd, q_bd2, q_bd3, q_nbd, q_nbd2, ↓reduceIte, and_true, true_and, Nat.one_ne_zero, Nat.reduceEqDiff, Nat.reduceLeDiff, Nat.reduceLT, h1, h2, h3, hn]
