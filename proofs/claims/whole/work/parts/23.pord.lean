/-! ===== the pure claim: order, sizes, lenders ===== -/
variable {d : Option Int32} {m : lc_St} {g : Nat → Nat → Nat}
theorem l_place (hr : RM 8 d m g) (hi : Iv g) {c : Nat} (hc : c < g 0 0) (p : Int32) (K : Int32 → Int32 → lc_St → Option (Int32 × lc_St)) : ∀ k x cnt n1 n2, x + k = g 0 0 → k < n1 → k < n2 → ∃ r, P_X0_placeOf_4 n1 (nI c) cnt (nI x) (nB g) = some r ∧ P_X4_order_39 K n2 p (nI c) cnt (nI x) m = (if g 4 c < 3 then (if r = p then some (nI c, m) else P_X4_order_126 K p (nI c) m) else P_X4_order_126 K p (nI c) m) := by
  have h8 := hi.1
  have hcl := hi.2.2.1 c hc
  intro k
  induction k with
  | zero =>
    intro x cnt n1 n2 hx h1 h2
    obtain ⟨n1, rfl⟩ : ∃ q, n1 = q + 1 := ⟨n1 - 1, by omega⟩; obtain ⟨n2, rfl⟩ : ∃ q, n2 = q + 1 := ⟨n2 - 1, by omega⟩
    have hle : g 0 0 ≤ x := by omega
    rw [P_X0_placeOf_4, P_X4_order_39]
    simp (disch := omega) only [nB_at, q_0, q_1, q_2, q_3, q_4, q_5, q_6, q_7, q_8, q_10, q_12, q_14, q_20, q_47, q_50, q_99, q_100, q_107, q_120, q_792, nI_ltI, nI_leI, nI_eq, q_okn, nI_clamp, nI_add, pk_mul, pk_sub, pk_div, q_nlt9, q_neg0, q_ne9, q_9ne, q_nle9, lc_let, q_ift, q_ifT, q_iff, q_bd, q_bd2, q_bd3, q_nbd, q_nbd2, ↓reduceIte, and_true, true_and, Nat.one_ne_zero, Nat.reduceEqDiff, Nat.reduceLeDiff, Nat.reduceLT, rm_nc hr, hle, x4_sound hr hi hc]
    refine ⟨cnt, rfl, ?_⟩
    by_cases h3 : g 4 c < 3
    · simp (disch := omega) only [h3, nB_at, q_0, q_1, q_2, q_3, q_4, q_5, q_6, q_7, q_8, q_10, q_12, q_14, q_20, q_47, q_50, q_99, q_100, q_107, q_120, q_792, nI_ltI, nI_leI, nI_eq, q_okn, nI_clamp, nI_add, pk_mul, pk_sub, pk_div, q_nlt9, q_neg0, q_ne9, q_9ne, q_nle9, lc_let, q_ift, q_ifT, q_iff, q_bd, q_bd2, q_bd3, q_nbd, q_nbd2, ↓reduceIte, and_true, true_and, Nat.one_ne_zero, Nat.reduceEqDiff, Nat.reduceLeDiff, Nat.reduceLT]
    · simp (disch := omega) only [h3, nB_at, q_0, q_1, q_2, q_3, q_4, q_5, q_6, q_7, q_8, q_10, q_12, q_14, q_20, q_47, q_50, q_99, q_100, q_107, q_120, q_792, nI_ltI, nI_leI, nI_eq, q_okn, nI_clamp, nI_add, pk_mul, pk_sub, pk_div, q_nlt9, q_neg0, q_ne9, q_9ne, q_nle9, lc_let, q_ift, q_ifT, q_iff, q_bd, q_bd2, q_bd3, q_nbd, q_nbd2, ↓reduceIte, and_true, true_and, Nat.one_ne_zero, Nat.reduceEqDiff, Nat.reduceLeDiff, Nat.reduceLT]
  | succ k ih =>
    intro x cnt n1 n2 hx h1 h2
    obtain ⟨n1, rfl⟩ : ∃ q, n1 = q + 1 := ⟨n1 - 1, by omega⟩; obtain ⟨n2, rfl⟩ : ∃ q, n2 = q + 1 := ⟨n2 - 1, by omega⟩
    have hlt : x < g 0 0 := by omega
    have hxl := hi.2.2.1 x hlt
    rw [P_X0_placeOf_4, P_X4_order_39]
    simp (disch := omega) only [nB_at, q_0, q_1, q_2, q_3, q_4, q_5, q_6, q_7, q_8, q_10, q_12, q_14, q_20, q_47, q_50, q_99, q_100, q_107, q_120, q_792, nI_ltI, nI_leI, nI_eq, q_okn, nI_clamp, nI_add, pk_mul, pk_sub, pk_div, q_nlt9, q_neg0, q_ne9, q_9ne, q_nle9, lc_let, q_ift, q_ifT, q_iff, q_bd, q_bd2, q_bd3, q_nbd, q_nbd2, ↓reduceIte, and_true, true_and, Nat.one_ne_zero, Nat.reduceEqDiff, Nat.reduceLeDiff, Nat.reduceLT, rm_nc hr, Nat.not_le.mpr hlt, x0_charge hi hc, x4_sound hr hi hlt, x4_of1 hr hi hlt, x4_of1 hr hi hc, P_X0_placeOf_45, P_X0_placeOf_49, P_X0_placeOf_50, P_X0_placeOf_68, P_X4_order_98, P_X4_order_102, P_X4_order_103, x0_bank hi hlt]
    have e : cnt + nI 0 = cnt := Int32.add_zero cnt
    by_cases h3 : g 4 x < 3
    · simp (disch := omega) only [h3, nB_at, q_0, q_1, q_2, q_3, q_4, q_5, q_6, q_7, q_8, q_10, q_12, q_14, q_20, q_47, q_50, q_99, q_100, q_107, q_120, q_792, nI_ltI, nI_leI, nI_eq, q_okn, nI_clamp, nI_add, pk_mul, pk_sub, pk_div, q_nlt9, q_neg0, q_ne9, q_9ne, q_nle9, lc_let, q_ift, q_ifT, q_iff, q_bd, q_bd2, q_bd3, q_nbd, q_nbd2, ↓reduceIte, and_true, true_and, Nat.one_ne_zero, Nat.reduceEqDiff, Nat.reduceLeDiff, Nat.reduceLT, e]
      by_cases ha : g 2 c < g 2 x
      · simp (disch := omega) only [ha, nB_at, q_0, q_1, q_2, q_3, q_4, q_5, q_6, q_7, q_8, q_10, q_12, q_14, q_20, q_47, q_50, q_99, q_100, q_107, q_120, q_792, nI_ltI, nI_leI, nI_eq, q_okn, nI_clamp, nI_add, pk_mul, pk_sub, pk_div, q_nlt9, q_neg0, q_ne9, q_9ne, q_nle9, lc_let, q_ift, q_ifT, q_iff, q_bd, q_bd2, q_bd3, q_nbd, q_nbd2, ↓reduceIte, and_true, true_and, Nat.one_ne_zero, Nat.reduceEqDiff, Nat.reduceLeDiff, Nat.reduceLT, e]
        exact ih (x + 1) _ n1 n2 (by omega) (by omega) (by omega)
      · by_cases hb : g 2 x = g 2 c
        · by_cases hd : c ≤ x
          · simp (disch := omega) only [ha, hb, hd, nB_at, q_0, q_1, q_2, q_3, q_4, q_5, q_6, q_7, q_8, q_10, q_12, q_14, q_20, q_47, q_50, q_99, q_100, q_107, q_120, q_792, nI_ltI, nI_leI, nI_eq, q_okn, nI_clamp, nI_add, pk_mul, pk_sub, pk_div, q_nlt9, q_neg0, q_ne9, q_9ne, q_nle9, lc_let, q_ift, q_ifT, q_iff, q_bd, q_bd2, q_bd3, q_nbd, q_nbd2, ↓reduceIte, and_true, true_and, Nat.one_ne_zero, Nat.reduceEqDiff, Nat.reduceLeDiff, Nat.reduceLT, e, Nat.lt_irrefl]
            exact ih (x + 1) _ n1 n2 (by omega) (by omega) (by omega)
          · simp (disch := omega) only [ha, hb, hd, nB_at, q_0, q_1, q_2, q_3, q_4, q_5, q_6, q_7, q_8, q_10, q_12, q_14, q_20, q_47, q_50, q_99, q_100, q_107, q_120, q_792, nI_ltI, nI_leI, nI_eq, q_okn, nI_clamp, nI_add, pk_mul, pk_sub, pk_div, q_nlt9, q_neg0, q_ne9, q_9ne, q_nle9, lc_let, q_ift, q_ifT, q_iff, q_bd, q_bd2, q_bd3, q_nbd, q_nbd2, ↓reduceIte, and_true, true_and, Nat.one_ne_zero, Nat.reduceEqDiff, Nat.reduceLeDiff, Nat.reduceLT, e, Nat.lt_irrefl]
            exact ih (x + 1) _ n1 n2 (by omega) (by omega) (by omega)
        · simp (disch := omega) only [ha, hb, nB_at, q_0, q_1, q_2, q_3, q_4, q_5, q_6, q_7, q_8, q_10, q_12, q_14, q_20, q_47, q_50, q_99, q_100, q_107, q_120, q_792, nI_ltI, nI_leI, nI_eq, q_okn, nI_clamp, nI_add, pk_mul, pk_sub, pk_div, q_nlt9, q_neg0, q_ne9, q_9ne, q_nle9, lc_let, q_ift, q_ifT, q_iff, q_bd, q_bd2, q_bd3, q_nbd, q_nbd2, ↓reduceIte, and_true, true_and, Nat.one_ne_zero, Nat.reduceEqDiff, Nat.reduceLeDiff, Nat.reduceLT, e]
          exact ih (x + 1) _ n1 n2 (by omega) (by omega) (by omega)
    · simp (disch := omega) only [h3, nB_at, q_0, q_1, q_2, q_3, q_4, q_5, q_6, q_7, q_8, q_10, q_12, q_14, q_20, q_47, q_50, q_99, q_100, q_107, q_120, q_792, nI_ltI, nI_leI, nI_eq, q_okn, nI_clamp, nI_add, pk_mul, pk_sub, pk_div, q_nlt9, q_neg0, q_ne9, q_9ne, q_nle9, lc_let, q_ift, q_ifT, q_iff, q_bd, q_bd2, q_bd3, q_nbd, q_nbd2, ↓reduceIte, and_true, true_and, Nat.one_ne_zero, Nat.reduceEqDiff, Nat.reduceLeDiff, Nat.reduceLT, e]
      by_cases ha : g 2 c < g 2 x
      · simp (disch := omega) only [ha, nB_at, q_0, q_1, q_2, q_3, q_4, q_5, q_6, q_7, q_8, q_10, q_12, q_14, q_20, q_47, q_50, q_99, q_100, q_107, q_120, q_792, nI_ltI, nI_leI, nI_eq, q_okn, nI_clamp, nI_add, pk_mul, pk_sub, pk_div, q_nlt9, q_neg0, q_ne9, q_9ne, q_nle9, lc_let, q_ift, q_ifT, q_iff, q_bd, q_bd2, q_bd3, q_nbd, q_nbd2, ↓reduceIte, and_true, true_and, Nat.one_ne_zero, Nat.reduceEqDiff, Nat.reduceLeDiff, Nat.reduceLT, e]
        exact ih (x + 1) _ n1 n2 (by omega) (by omega) (by omega)
      · by_cases hb : g 2 x = g 2 c
        · by_cases hd : c ≤ x
          · simp (disch := omega) only [ha, hb, hd, nB_at, q_0, q_1, q_2, q_3, q_4, q_5, q_6, q_7, q_8, q_10, q_12, q_14, q_20, q_47, q_50, q_99, q_100, q_107, q_120, q_792, nI_ltI, nI_leI, nI_eq, q_okn, nI_clamp, nI_add, pk_mul, pk_sub, pk_div, q_nlt9, q_neg0, q_ne9, q_9ne, q_nle9, lc_let, q_ift, q_ifT, q_iff, q_bd, q_bd2, q_bd3, q_nbd, q_nbd2, ↓reduceIte, and_true, true_and, Nat.one_ne_zero, Nat.reduceEqDiff, Nat.reduceLeDiff, Nat.reduceLT, e, Nat.lt_irrefl]
            exact ih (x + 1) _ n1 n2 (by omega) (by omega) (by omega)
          · simp (disch := omega) only [ha, hb, hd, nB_at, q_0, q_1, q_2, q_3, q_4, q_5, q_6, q_7, q_8, q_10, q_12, q_14, q_20, q_47, q_50, q_99, q_100, q_107, q_120, q_792, nI_ltI, nI_leI, nI_eq, q_okn, nI_clamp, nI_add, pk_mul, pk_sub, pk_div, q_nlt9, q_neg0, q_ne9, q_9ne, q_nle9, lc_let, q_ift, q_ifT, q_iff, q_bd, q_bd2, q_bd3, q_nbd, q_nbd2, ↓reduceIte, and_true, true_and, Nat.one_ne_zero, Nat.reduceEqDiff, Nat.reduceLeDiff, Nat.reduceLT, e, Nat.lt_irrefl]
            exact ih (x + 1) _ n1 n2 (by omega) (by omega) (by omega)
        · simp (disch := omega) only [ha, hb, nB_at, q_0, q_1, q_2, q_3, q_4, q_5, q_6, q_7, q_8, q_10, q_12, q_14, q_20, q_47, q_50, q_99, q_100, q_107, q_120, q_792, nI_ltI, nI_leI, nI_eq, q_okn, nI_clamp, nI_add, pk_mul, pk_sub, pk_div, q_nlt9, q_neg0, q_ne9, q_9ne, q_nle9, lc_let, q_ift, q_ifT, q_iff, q_bd, q_bd2, q_bd3, q_nbd, q_nbd2, ↓reduceIte, and_true, true_and, Nat.one_ne_zero, Nat.reduceEqDiff, Nat.reduceLeDiff, Nat.reduceLT, e]
          exact ih (x + 1) _ n1 n2 (by omega) (by omega) (by omega)
theorem l_order (hr : RM 8 d m g) (hi : Iv g) (p : Int32) : ∀ k c n1 n2, c + k = g 0 0 → k < n1 → k < n2 → ∃ r, P_X0_cellAtPlace_2 n1 p (nI c) (nB g) = some r ∧ P_X4_order_24 n2 p (nI c) m = some (r, m) := by
  have h8 := hi.1
  intro k
  induction k with
  | zero =>
    intro c n1 n2 hx h1 h2
    obtain ⟨n1, rfl⟩ : ∃ q, n1 = q + 1 := ⟨n1 - 1, by omega⟩; obtain ⟨n2, rfl⟩ : ∃ q, n2 = q + 1 := ⟨n2 - 1, by omega⟩
    have hle : g 0 0 ≤ c := by omega
    rw [P_X0_cellAtPlace_2, P_X4_order_24]
    simp (disch := omega) only [nB_at, q_0, q_1, q_2, q_3, q_4, q_5, q_6, q_7, q_8, q_10, q_12, q_14, q_20, q_47, q_50, q_99, q_100, q_107, q_120, q_792, nI_ltI, nI_leI, nI_eq, q_okn, nI_clamp, nI_add, pk_mul, pk_sub, pk_div, q_nlt9, q_neg0, q_ne9, q_9ne, q_nle9, lc_let, q_ift, q_ifT, q_iff, q_bd, q_bd2, q_bd3, q_nbd, q_nbd2, ↓reduceIte, and_true, true_and, Nat.one_ne_zero, Nat.reduceEqDiff, Nat.reduceLeDiff, Nat.reduceLT, rm_nc hr, hle]
    exact ⟨_, rfl, rfl⟩
  | succ k ih =>
    intro c n1 n2 hx h1 h2
    obtain ⟨n1, rfl⟩ : ∃ q, n1 = q + 1 := ⟨n1 - 1, by omega⟩; obtain ⟨n2, rfl⟩ : ∃ q, n2 = q + 1 := ⟨n2 - 1, by omega⟩
    have hlt : c < g 0 0 := by omega
    obtain ⟨r, e1, e2⟩ := l_place hr hi hlt p (fun x1 x2 s => P_X4_order_24 n2 x1 x2 s) (g 0 0) 0 (nI 0) lc_FU lc_FU (by omega) (q_FUn (by omega)) (q_FUn (by omega))
    have e1' : P_X0_placeOf (nI c) (nB g) = some r := e1
    rw [P_X0_cellAtPlace_2, P_X4_order_24]
    simp (disch := omega) only [nB_at, q_0, q_1, q_2, q_3, q_4, q_5, q_6, q_7, q_8, q_10, q_12, q_14, q_20, q_47, q_50, q_99, q_100, q_107, q_120, q_792, nI_ltI, nI_leI, nI_eq, q_okn, nI_clamp, nI_add, pk_mul, pk_sub, pk_div, q_nlt9, q_neg0, q_ne9, q_9ne, q_nle9, lc_let, q_ift, q_ifT, q_iff, q_bd, q_bd2, q_bd3, q_nbd, q_nbd2, ↓reduceIte, and_true, true_and, Nat.one_ne_zero, Nat.reduceEqDiff, Nat.reduceLeDiff, Nat.reduceLT, rm_nc hr, Nat.not_le.mpr hlt, x0_bank hi hlt, e1', e2, P_X0_cellAtPlace_29, P_X4_order_126]
    have hn := ih (c + 1) n1 n2 (by omega) (by omega) (by omega)
    by_cases h3 : g 4 c < 3
    · simp (disch := omega) only [h3, nB_at, q_0, q_1, q_2, q_3, q_4, q_5, q_6, q_7, q_8, q_10, q_12, q_14, q_20, q_47, q_50, q_99, q_100, q_107, q_120, q_792, nI_ltI, nI_leI, nI_eq, q_okn, nI_clamp, nI_add, pk_mul, pk_sub, pk_div, q_nlt9, q_neg0, q_ne9, q_9ne, q_nle9, lc_let, q_ift, q_ifT, q_iff, q_bd, q_bd2, q_bd3, q_nbd, q_nbd2, ↓reduceIte, and_true, true_and, Nat.one_ne_zero, Nat.reduceEqDiff, Nat.reduceLeDiff, Nat.reduceLT]
      by_cases h4 : r = p
      · simp only [h4, ↓reduceIte]; exact ⟨_, rfl, rfl⟩
      · simp only [h4, ↓reduceIte]; exact hn
    · simp (disch := omega) only [h3, nB_at, q_0, q_1, q_2, q_3, q_4, q_5, q_6, q_7, q_8, q_10, q_12, q_14, q_20, q_47, q_50, q_99, q_100, q_107, q_120, q_792, nI_ltI, nI_leI, nI_eq, q_okn, nI_clamp, nI_add, pk_mul, pk_sub, pk_div, q_nlt9, q_neg0, q_ne9, q_9ne, q_nle9, lc_let, q_ift, q_ifT, q_iff, q_bd, q_bd2, q_bd3, q_nbd, q_nbd2, ↓reduceIte, and_true, true_and, Nat.one_ne_zero, Nat.reduceEqDiff, Nat.reduceLeDiff, Nat.reduceLT]
      exact hn
theorem q_order (hr : RM 8 d m g) (hi : Iv g) (p : Int32) : ∃ r, P_X0_cellAtPlace p (nB g) = some r ∧ P_X4_order_24 lc_FU p (nI 0) m = some (r, m) := by
  have h8 := hi.1
  exact l_order hr hi p (g 0 0) 0 _ _ (by omega) (q_FUn (by omega)) (q_FUn (by omega))
/-! ===== the size that brings u ===== -/
theorem arr_step {s y z : Nat} (hy : y < 8) (hz : z < 8) : arr (s + 1) y z ≤ arr s y z + 1 := by
  unfold arr
  generalize hD : (if y ≤ z then z - y else y - z) = D
  have hD7 : D ≤ 7 := by rw [← hD]; split <;> omega
  have h1 : s * D / 20 ≤ (s + 1) * D / 20 := Nat.div_le_div_right (by rw [Nat.succ_mul]; omega)
  omega
theorem arr_2 {u y z : Nat} (hy : y < 8) (hz : z < 8) : u ≤ arr (2 * u) y z := by
  unfold arr
  generalize hD : (if y ≤ z then z - y else y - z) = D
  have hD7 : D ≤ 7 := by rw [← hD]; split <;> omega
  have h1 : 2 * u * D ≤ 2 * u * 7 := Nat.mul_le_mul_left _ hD7
  omega
theorem l_size {b : lc_St} {u y z : Nat} (hu : u < 1000) (hy : y < 8) (hz : z < 8) : ∀ k s n1 n2, s + k = 2 * u → u ≤ s → (s = u ∨ arr (s - 1) y z < u) → k < n1 → k < n2 → ∃ r, P_X0_sizeToBring_3 n1 (nI u) (nI y) (nI z) (nI s) b = some (nI r) ∧ P_X4_size_2 n2 (nI u) (nI y) (nI z) (nI s) = some (nI r) ∧ u ≤ r ∧ r ≤ 2 * u ∧ arr r y z = u := by
  intro k
  induction k with
  | zero =>
    intro s n1 n2 hs hus hor h1 h2
    obtain ⟨n1, rfl⟩ : ∃ q, n1 = q + 1 := ⟨n1 - 1, by omega⟩; obtain ⟨n2, rfl⟩ : ∃ q, n2 = q + 1 := ⟨n2 - 1, by omega⟩
    have hle : 2 * u ≤ s := by omega
    have hse : s = 2 * u := by omega
    have h3 := arr_2 (u := u) hy hz
    have h4 := arr_le s y z
    rw [P_X0_sizeToBring_3, P_X4_size_2]
    simp (disch := omega) only [nB_at, q_0, q_1, q_2, q_3, q_4, q_5, q_6, q_7, q_8, q_10, q_12, q_14, q_20, q_47, q_50, q_99, q_100, q_107, q_120, q_792, nI_ltI, nI_leI, nI_eq, q_okn, nI_clamp, nI_add, pk_mul, pk_sub, pk_div, q_nlt9, q_neg0, q_ne9, q_9ne, q_nle9, lc_let, q_ift, q_ifT, q_iff, q_bd, q_bd2, q_bd3, q_nbd, q_nbd2, ↓reduceIte, and_true, true_and, Nat.one_ne_zero, Nat.reduceEqDiff, Nat.reduceLeDiff, Nat.reduceLT, hle, x4_arr (show s < 2 ^ 20 by omega) hy hz]
    rw [hse] at h4 ⊢
    simp (disch := omega) only [nB_at, q_0, q_1, q_2, q_3, q_4, q_5, q_6, q_7, q_8, q_10, q_12, q_14, q_20, q_47, q_50, q_99, q_100, q_107, q_120, q_792, nI_ltI, nI_leI, nI_eq, q_okn, nI_clamp, nI_add, pk_mul, pk_sub, pk_div, q_nlt9, q_neg0, q_ne9, q_9ne, q_nle9, lc_let, q_ift, q_ifT, q_iff, q_bd, q_bd2, q_bd3, q_nbd, q_nbd2, ↓reduceIte, and_true, true_and, Nat.one_ne_zero, Nat.reduceEqDiff, Nat.reduceLeDiff, Nat.reduceLT, h3]
    refine ⟨2 * u, rfl, rfl, by omega, by omega, ?_⟩
    rcases hor with q | q
    · have : u = 0 := by omega
      subst this; omega
    · have h5 := arr_step (s := s - 1) hy hz
      by_cases hz0 : s = 0
      · have : u = 0 := by omega
        subst this; omega
      · rw [show s - 1 + 1 = s by omega, hse] at h5
        rw [hse] at q
        omega
  | succ k ih =>
    intro s n1 n2 hs hus hor h1 h2
    obtain ⟨n1, rfl⟩ : ∃ q, n1 = q + 1 := ⟨n1 - 1, by omega⟩; obtain ⟨n2, rfl⟩ : ∃ q, n2 = q + 1 := ⟨n2 - 1, by omega⟩
    have hlt : ¬ 2 * u ≤ s := by omega
    have h4 := arr_le s y z
    rw [P_X0_sizeToBring_3, P_X4_size_2]
    simp (disch := omega) only [nB_at, q_0, q_1, q_2, q_3, q_4, q_5, q_6, q_7, q_8, q_10, q_12, q_14, q_20, q_47, q_50, q_99, q_100, q_107, q_120, q_792, nI_ltI, nI_leI, nI_eq, q_okn, nI_clamp, nI_add, pk_mul, pk_sub, pk_div, q_nlt9, q_neg0, q_ne9, q_9ne, q_nle9, lc_let, q_ift, q_ifT, q_iff, q_bd, q_bd2, q_bd3, q_nbd, q_nbd2, ↓reduceIte, and_true, true_and, Nat.one_ne_zero, Nat.reduceEqDiff, Nat.reduceLeDiff, Nat.reduceLT, hlt, x4_arr (show s < 2 ^ 20 by omega) hy hz, x0_arr (show s < 2 ^ 20 by omega) hy hz]
    by_cases h5 : arr s y z < u
    · simp (disch := omega) only [nB_at, q_0, q_1, q_2, q_3, q_4, q_5, q_6, q_7, q_8, q_10, q_12, q_14, q_20, q_47, q_50, q_99, q_100, q_107, q_120, q_792, nI_ltI, nI_leI, nI_eq, q_okn, nI_clamp, nI_add, pk_mul, pk_sub, pk_div, q_nlt9, q_neg0, q_ne9, q_9ne, q_nle9, lc_let, q_ift, q_ifT, q_iff, q_bd, q_bd2, q_bd3, q_nbd, q_nbd2, ↓reduceIte, and_true, true_and, Nat.one_ne_zero, Nat.reduceEqDiff, Nat.reduceLeDiff, Nat.reduceLT, h5, Nat.not_le.mpr h5]
      exact ih (s + 1) n1 n2 (by omega) (by omega) (Or.inr (by rw [Nat.add_sub_cancel]; exact h5)) (by omega) (by omega)
    · simp (disch := omega) only [nB_at, q_0, q_1, q_2, q_3, q_4, q_5, q_6, q_7, q_8, q_10, q_12, q_14, q_20, q_47, q_50, q_99, q_100, q_107, q_120, q_792, nI_ltI, nI_leI, nI_eq, q_okn, nI_clamp, nI_add, pk_mul, pk_sub, pk_div, q_nlt9, q_neg0, q_ne9, q_9ne, q_nle9, lc_let, q_ift, q_ifT, q_iff, q_bd, q_bd2, q_bd3, q_nbd, q_nbd2, ↓reduceIte, and_true, true_and, Nat.one_ne_zero, Nat.reduceEqDiff, Nat.reduceLeDiff, Nat.reduceLT, h5, Nat.not_lt.mp h5]
      refine ⟨s, rfl, rfl, by omega, by omega, ?_⟩
      rcases hor with q | q
      · subst q; omega
      · have h6 := arr_step (s := s - 1) hy hz
        by_cases hz0 : s = 0
        · omega
        · rw [show s - 1 + 1 = s by omega] at h6
          omega
theorem q_size (b : lc_St) {u y z : Nat} (hu : u < 1000) (hy : y < 8) (hz : z < 8) : ∃ r, P_X0_sizeToBring (nI u) (nI y) (nI z) b = some (nI r) ∧ P_X4_size (nI u) (nI y) (nI z) = some (nI r) ∧ u ≤ r ∧ r ≤ 2 * u ∧ arr r y z = u :=
  l_size hu hy hz u u _ _ (by omega) (by omega) (Or.inl rfl) (q_FUn (by omega)) (q_FUn (by omega))
/-! ===== the richest other ===== -/
def okL (g : Nat → Nat → Nat) (c : Nat) (x : Int32) : Prop := x = -9 ∨ ∃ b, b < g 0 0 ∧ b ≠ c ∧ g 4 b < 3 ∧ x = nI b
theorem l_rich (hr : RM 8 d m g) (hi : Iv g) {c : Nat} (hc : c < 8) : ∀ k x b n1 n2, x + k = g 0 0 → okL g c b → k < n1 → k < n2 → ∃ r, P_X0_fullestOther_5 n1 (nI c) b (nI x) (nB g) = some r ∧ P_X4_richest_5 n2 (nI c) b (nI x) m = some r ∧ okL g c r := by
  have h8 := hi.1
  intro k
  induction k with
  | zero =>
    intro x b n1 n2 hx hb h1 h2
    obtain ⟨n1, rfl⟩ : ∃ q, n1 = q + 1 := ⟨n1 - 1, by omega⟩; obtain ⟨n2, rfl⟩ : ∃ q, n2 = q + 1 := ⟨n2 - 1, by omega⟩
    have hle : g 0 0 ≤ x := by omega
    rw [P_X0_fullestOther_5, P_X4_richest_5]
    simp (disch := omega) only [nB_at, q_0, q_1, q_2, q_3, q_4, q_5, q_6, q_7, q_8, q_10, q_12, q_14, q_20, q_47, q_50, q_99, q_100, q_107, q_120, q_792, nI_ltI, nI_leI, nI_eq, q_okn, nI_clamp, nI_add, pk_mul, pk_sub, pk_div, q_nlt9, q_neg0, q_ne9, q_9ne, q_nle9, lc_let, q_ift, q_ifT, q_iff, q_bd, q_bd2, q_bd3, q_nbd, q_nbd2, ↓reduceIte, and_true, true_and, Nat.one_ne_zero, Nat.reduceEqDiff, Nat.reduceLeDiff, Nat.reduceLT, rm_nc hr, hle]
    exact ⟨b, rfl, rfl, hb⟩
  | succ k ih =>
    intro x b n1 n2 hx hb h1 h2
    obtain ⟨n1, rfl⟩ : ∃ q, n1 = q + 1 := ⟨n1 - 1, by omega⟩; obtain ⟨n2, rfl⟩ : ∃ q, n2 = q + 1 := ⟨n2 - 1, by omega⟩
    have hlt : x < g 0 0 := by omega
    have hxl := hi.2.2.1 x hlt
    rw [P_X0_fullestOther_5, P_X4_richest_5]
    simp (disch := omega) only [nB_at, q_0, q_1, q_2, q_3, q_4, q_5, q_6, q_7, q_8, q_10, q_12, q_14, q_20, q_47, q_50, q_99, q_100, q_107, q_120, q_792, nI_ltI, nI_leI, nI_eq, q_okn, nI_clamp, nI_add, pk_mul, pk_sub, pk_div, q_nlt9, q_neg0, q_ne9, q_9ne, q_nle9, lc_let, q_ift, q_ifT, q_iff, q_bd, q_bd2, q_bd3, q_nbd, q_nbd2, ↓reduceIte, and_true, true_and, Nat.one_ne_zero, Nat.reduceEqDiff, Nat.reduceLeDiff, Nat.reduceLT, rm_nc hr, Nat.not_le.mpr hlt, x0_bank hi hlt, x4_sound hr hi hlt, x4_of1 hr hi hlt, P_X0_fullestOther_49, P_X0_fullestOther_51, P_X4_richest_49, P_X4_richest_53, P_X4_richest_54]
    have hn := fun b hb => ih (x + 1) b n1 n2 (by omega) hb (by omega) (by omega)
    by_cases hxc : x = c
    · simp only [hxc, ↓reduceIte]
      subst hxc; exact hn b hb
    · have hok : g 4 x < 3 → okL g c (nI x) := fun q => Or.inr ⟨x, hlt, hxc, q, rfl⟩
      by_cases h3 : g 4 x < 3
      · simp (disch := omega) only [hxc, h3, nB_at, q_0, q_1, q_2, q_3, q_4, q_5, q_6, q_7, q_8, q_10, q_12, q_14, q_20, q_47, q_50, q_99, q_100, q_107, q_120, q_792, nI_ltI, nI_leI, nI_eq, q_okn, nI_clamp, nI_add, pk_mul, pk_sub, pk_div, q_nlt9, q_neg0, q_ne9, q_9ne, q_nle9, lc_let, q_ift, q_ifT, q_iff, q_bd, q_bd2, q_bd3, q_nbd, q_nbd2, ↓reduceIte, and_true, true_and, Nat.one_ne_zero, Nat.reduceEqDiff, Nat.reduceLeDiff, Nat.reduceLT]
        rcases hb with hb | ⟨b', hb1, hb2, hb3, hb⟩
        · simp only [hb, ↓reduceIte]
          exact hn _ (hok h3)
        · subst hb
          have hbl := hi.2.2.1 b' hb1
          simp (disch := omega) only [nB_at, q_0, q_1, q_2, q_3, q_4, q_5, q_6, q_7, q_8, q_10, q_12, q_14, q_20, q_47, q_50, q_99, q_100, q_107, q_120, q_792, nI_ltI, nI_leI, nI_eq, q_okn, nI_clamp, nI_add, pk_mul, pk_sub, pk_div, q_nlt9, q_neg0, q_ne9, q_9ne, q_nle9, lc_let, q_ift, q_ifT, q_iff, q_bd, q_bd2, q_bd3, q_nbd, q_nbd2, ↓reduceIte, and_true, true_and, Nat.one_ne_zero, Nat.reduceEqDiff, Nat.reduceLeDiff, Nat.reduceLT, x0_charge hi hb1, x4_of1 hr hi hb1]
          by_cases h5 : g 2 x ≤ g 2 b'
          · simp only [h5, ↓reduceIte]
            exact hn _ (Or.inr ⟨b', hb1, hb2, hb3, rfl⟩)
          · simp only [h5, ↓reduceIte]
            exact hn _ (hok h3)
      · simp (disch := omega) only [hxc, h3, nB_at, q_0, q_1, q_2, q_3, q_4, q_5, q_6, q_7, q_8, q_10, q_12, q_14, q_20, q_47, q_50, q_99, q_100, q_107, q_120, q_792, nI_ltI, nI_leI, nI_eq, q_okn, nI_clamp, nI_add, pk_mul, pk_sub, pk_div, q_nlt9, q_neg0, q_ne9, q_9ne, q_nle9, lc_let, q_ift, q_ifT, q_iff, q_bd, q_bd2, q_bd3, q_nbd, q_nbd2, ↓reduceIte, and_true, true_and, Nat.one_ne_zero, Nat.reduceEqDiff, Nat.reduceLeDiff, Nat.reduceLT]
        exact hn b hb
theorem q_rich (hr : RM 8 d m g) (hi : Iv g) {c : Nat} (hc : c < 8) : ∃ r, P_X0_fullestOther (nI c) (nB g) = some r ∧ P_X4_richest (nI c) m = some r ∧ okL g c r := by
  have h8 := hi.1
  exact l_rich hr hi hc (g 0 0) 0 _ _ _ (by omega) (Or.inl rfl) (q_FUn (by omega)) (q_FUn (by omega))
