/-! ===== the pure claim: what may be lent and repaid ===== -/
variable {e : Nat} {m : lc_St} {g : Nat → Nat → Nat}
abbrev clG (g : Nat → Nat → Nat) (x y u : Nat) : Prop := g 4 x < 3 ∧ g 4 y < 3 ∧ g 0 1 < 12 ∧ u ≤ g 2 x ∧ arr u x y ≤ g 1 y - g 2 y
theorem x0_canLend (hi : Iv g) {x y u : Nat} (hx : x < g 0 0) (hy : y < g 0 0) (hxy : x ≠ y) (hu : u ≤ 1000) : P_X0_canLend (nI x) (nI y) (nI u) (nB g) = some (nI (if clG g x y u then 1 else 0)) := by
  have h8 := hi.1
  have h12 := hi.2.1
  have hxl := hi.2.2.1 x hx
  have hyl := hi.2.2.1 y hy
  have ha := arr_le u x y
  unfold P_X0_canLend
  simp (disch := omega) only [nB_at, q_0, q_1, q_2, q_3, q_4, q_5, q_6, q_7, q_8, q_10, q_11, q_12, q_13, q_14, q_20, q_26, q_30, q_40, q_50, q_51, q_56, q_60, q_90, q_99, q_100, q_19, nI_ltI, nI_leI, nI_eq, q_okn, nI_clamp, nI_add, pk_mul, pk_sub, pk_div, q_nlt9, q_neg0, q_ne9, q_9ne, q_nle9, lc_let, q_ift, q_ifT, q_iff, q_bd, q_bd2, q_bd3, q_nbd, q_nbd2, ↓reduceIte, and_true, true_and, Nat.one_ne_zero, Nat.reduceEqDiff, Nat.reduceLeDiff, Nat.reduceLT, x0_has hi (show x < 2 ^ 31 by omega), x0_has hi (show y < 2 ^ 31 by omega), hx, hy, hxy, x0_bank hi hx, x0_bank hi hy, x0_charge hi hx, x0_room hi hy, x0_arr (b := nB g) (show u < 2 ^ 20 by omega) (show x < 8 by omega) (show y < 8 by omega)]
  by_cases h1 : g 4 x < 3
  · by_cases h2 : g 4 y < 3
    · by_cases h3 : g 0 1 < 12
      · by_cases h4 : g 2 x < u
        · have hn : ¬ clG g x y u := fun q => by have := q.2.2.2.1; omega
          simp (disch := omega) only [nB_at, q_0, q_1, q_2, q_3, q_4, q_5, q_6, q_7, q_8, q_10, q_11, q_12, q_13, q_14, q_20, q_26, q_30, q_40, q_50, q_51, q_56, q_60, q_90, q_99, q_100, q_19, nI_ltI, nI_leI, nI_eq, q_okn, nI_clamp, nI_add, pk_mul, pk_sub, pk_div, q_nlt9, q_neg0, q_ne9, q_9ne, q_nle9, lc_let, q_ift, q_ifT, q_iff, q_bd, q_bd2, q_bd3, q_nbd, q_nbd2, ↓reduceIte, and_true, true_and, Nat.one_ne_zero, Nat.reduceEqDiff, Nat.reduceLeDiff, Nat.reduceLT, h1, h2, h3, h4, hn]
        · by_cases h5 : g 1 y - g 2 y < arr u x y
          · have hn : ¬ clG g x y u := fun q => by have := q.2.2.2.2; omega
            simp (disch := omega) only [nB_at, q_0, q_1, q_2, q_3, q_4, q_5, q_6, q_7, q_8, q_10, q_11, q_12, q_13, q_14, q_20, q_26, q_30, q_40, q_50, q_51, q_56, q_60, q_90, q_99, q_100, q_19, nI_ltI, nI_leI, nI_eq, q_okn, nI_clamp, nI_add, pk_mul, pk_sub, pk_div, q_nlt9, q_neg0, q_ne9, q_9ne, q_nle9, lc_let, q_ift, q_ifT, q_iff, q_bd, q_bd2, q_bd3, q_nbd, q_nbd2, ↓reduceIte, and_true, true_and, Nat.one_ne_zero, Nat.reduceEqDiff, Nat.reduceLeDiff, Nat.reduceLT, h1, h2, h3, h4, h5, hn]
          · have hn : clG g x y u := ⟨h1, h2, h3, by omega, by omega⟩
            simp (disch := omega) only [nB_at, q_0, q_1, q_2, q_3, q_4, q_5, q_6, q_7, q_8, q_10, q_11, q_12, q_13, q_14, q_20, q_26, q_30, q_40, q_50, q_51, q_56, q_60, q_90, q_99, q_100, q_19, nI_ltI, nI_leI, nI_eq, q_okn, nI_clamp, nI_add, pk_mul, pk_sub, pk_div, q_nlt9, q_neg0, q_ne9, q_9ne, q_nle9, lc_let, q_ift, q_ifT, q_iff, q_bd, q_bd2, q_bd3, q_nbd, q_nbd2, ↓reduceIte, and_true, true_and, Nat.one_ne_zero, Nat.reduceEqDiff, Nat.reduceLeDiff, Nat.reduceLT, h1, h2, h3, h4, h5, hn, if_pos hn]
      · have hn : ¬ clG g x y u := fun q => h3 q.2.2.1
        simp (disch := omega) only [nB_at, q_0, q_1, q_2, q_3, q_4, q_5, q_6, q_7, q_8, q_10, q_11, q_12, q_13, q_14, q_20, q_26, q_30, q_40, q_50, q_51, q_56, q_60, q_90, q_99, q_100, q_19, nI_ltI, nI_leI, nI_eq, q_okn, nI_clamp, nI_add, pk_mul, pk_sub, pk_div, q_nlt9, q_neg0, q_ne9, q_9ne, q_nle9, lc_let, q_ift, q_ifT, q_iff, q_bd, q_bd2, q_bd3, q_nbd, q_nbd2, ↓reduceIte, and_true, true_and, Nat.one_ne_zero, Nat.reduceEqDiff, Nat.reduceLeDiff, Nat.reduceLT, h1, h2, h3, hn]
    · have hn : ¬ clG g x y u := fun q => h2 q.2.1
      simp (disch := omega) only [nB_at, q_0, q_1, q_2, q_3, q_4, q_5, q_6, q_7, q_8, q_10, q_11, q_12, q_13, q_14, q_20, q_26, q_30, q_40, q_50, q_51, q_56, q_60, q_90, q_99, q_100, q_19, nI_ltI, nI_leI, nI_eq, q_okn, nI_clamp, nI_add, pk_mul, pk_sub, pk_div, q_nlt9, q_neg0, q_ne9, q_9ne, q_nle9, lc_let, q_ift, q_ifT, q_iff, q_bd, q_bd2, q_bd3, q_nbd, q_nbd2, ↓reduceIte, and_true, true_and, Nat.one_ne_zero, Nat.reduceEqDiff, Nat.reduceLeDiff, Nat.reduceLT, h1, h2, hn]
  · have hn : ¬ clG g x y u := fun q => h1 q.1
    simp (disch := omega) only [nB_at, q_0, q_1, q_2, q_3, q_4, q_5, q_6, q_7, q_8, q_10, q_11, q_12, q_13, q_14, q_20, q_26, q_30, q_40, q_50, q_51, q_56, q_60, q_90, q_99, q_100, q_19, nI_ltI, nI_leI, nI_eq, q_okn, nI_clamp, nI_add, pk_mul, pk_sub, pk_div, q_nlt9, q_neg0, q_ne9, q_9ne, q_nle9, lc_let, q_ift, q_ifT, q_iff, q_bd, q_bd2, q_bd3, q_nbd, q_nbd2, ↓reduceIte, and_true, true_and, Nat.one_ne_zero, Nat.reduceEqDiff, Nat.reduceLeDiff, Nat.reduceLT, h1, hn]
abbrev cpG (g : Nat → Nat → Nat) (i u : Nat) : Prop := u ≤ g 7 i ∧ u ≤ g 2 (g 6 i) ∧ arr u (g 6 i) (g 5 i) ≤ g 1 (g 5 i) - g 2 (g 5 i)
theorem x0_canPay (hi : Iv g) {i u : Nat} (hx : i < g 0 1) (hu : u ≤ 1000) : P_X0_canPayBack (nI i) (nI u) (nB g) = some (nI (if cpG g i u then 1 else 0)) := by
  have h8 := hi.1
  have h12 := hi.2.1
  have hl := hi.2.2.2 i hx
  have hxl := hi.2.2.1 _ hl.1
  have hyl := hi.2.2.1 _ hl.2.1
  have ha := arr_le u (g 6 i) (g 5 i)
  unfold P_X0_canPayBack
  simp (disch := omega) only [nB_at, q_0, q_1, q_2, q_3, q_4, q_5, q_6, q_7, q_8, q_10, q_11, q_12, q_13, q_14, q_20, q_26, q_30, q_40, q_50, q_51, q_56, q_60, q_90, q_99, q_100, q_19, nI_ltI, nI_leI, nI_eq, q_okn, nI_clamp, nI_add, pk_mul, pk_sub, pk_div, q_nlt9, q_neg0, q_ne9, q_9ne, q_nle9, lc_let, q_ift, q_ifT, q_iff, q_bd, q_bd2, q_bd3, q_nbd, q_nbd2, ↓reduceIte, and_true, true_and, Nat.one_ne_zero, Nat.reduceEqDiff, Nat.reduceLeDiff, Nat.reduceLT, x0_hasL hi (show i < 2 ^ 31 by omega), hx, x0_charge hi hl.2.1, x0_room hi hl.1, x0_arr (b := nB g) (show u < 2 ^ 20 by omega) (show g 6 i < 8 by omega) (show g 5 i < 8 by omega)]
  by_cases h1 : g 7 i < u
  · have hn : ¬ cpG g i u := fun q => by have := q.1; omega
    simp (disch := omega) only [nB_at, q_0, q_1, q_2, q_3, q_4, q_5, q_6, q_7, q_8, q_10, q_11, q_12, q_13, q_14, q_20, q_26, q_30, q_40, q_50, q_51, q_56, q_60, q_90, q_99, q_100, q_19, nI_ltI, nI_leI, nI_eq, q_okn, nI_clamp, nI_add, pk_mul, pk_sub, pk_div, q_nlt9, q_neg0, q_ne9, q_9ne, q_nle9, lc_let, q_ift, q_ifT, q_iff, q_bd, q_bd2, q_bd3, q_nbd, q_nbd2, ↓reduceIte, and_true, true_and, Nat.one_ne_zero, Nat.reduceEqDiff, Nat.reduceLeDiff, Nat.reduceLT, h1, hn]
    done
  · by_cases h2 : u ≤ g 2 (g 6 i)
    · by_cases h3 : g 1 (g 5 i) - g 2 (g 5 i) < arr u (g 6 i) (g 5 i)
      · have hn : ¬ cpG g i u := fun q => by have := q.2.2; omega
        simp (disch := omega) only [nB_at, q_0, q_1, q_2, q_3, q_4, q_5, q_6, q_7, q_8, q_10, q_11, q_12, q_13, q_14, q_20, q_26, q_30, q_40, q_50, q_51, q_56, q_60, q_90, q_99, q_100, q_19, nI_ltI, nI_leI, nI_eq, q_okn, nI_clamp, nI_add, pk_mul, pk_sub, pk_div, q_nlt9, q_neg0, q_ne9, q_9ne, q_nle9, lc_let, q_ift, q_ifT, q_iff, q_bd, q_bd2, q_bd3, q_nbd, q_nbd2, ↓reduceIte, and_true, true_and, Nat.one_ne_zero, Nat.reduceEqDiff, Nat.reduceLeDiff, Nat.reduceLT, h1, h2, h3, hn]
      · have hn : cpG g i u := ⟨by omega, h2, by omega⟩
        simp (disch := omega) only [nB_at, q_0, q_1, q_2, q_3, q_4, q_5, q_6, q_7, q_8, q_10, q_11, q_12, q_13, q_14, q_20, q_26, q_30, q_40, q_50, q_51, q_56, q_60, q_90, q_99, q_100, q_19, nI_ltI, nI_leI, nI_eq, q_okn, nI_clamp, nI_add, pk_mul, pk_sub, pk_div, q_nlt9, q_neg0, q_ne9, q_9ne, q_nle9, lc_let, q_ift, q_ifT, q_iff, q_bd, q_bd2, q_bd3, q_nbd, q_nbd2, ↓reduceIte, and_true, true_and, Nat.one_ne_zero, Nat.reduceEqDiff, Nat.reduceLeDiff, Nat.reduceLT, h1, h2, h3, if_pos hn]
    · have hn : ¬ cpG g i u := fun q => h2 q.2.1
      simp (disch := omega) only [nB_at, q_0, q_1, q_2, q_3, q_4, q_5, q_6, q_7, q_8, q_10, q_11, q_12, q_13, q_14, q_20, q_26, q_30, q_40, q_50, q_51, q_56, q_60, q_90, q_99, q_100, q_19, nI_ltI, nI_leI, nI_eq, q_okn, nI_clamp, nI_add, pk_mul, pk_sub, pk_div, q_nlt9, q_neg0, q_ne9, q_9ne, q_nle9, lc_let, q_ift, q_ifT, q_iff, q_bd, q_bd2, q_bd3, q_nbd, q_nbd2, ↓reduceIte, and_true, true_and, Nat.one_ne_zero, Nat.reduceEqDiff, Nat.reduceLeDiff, Nat.reduceLT, h1, h2, hn]
